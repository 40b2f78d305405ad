set_option maxHeartbeats 4000000 in
set_option maxRecDepth 100000 in
theorem c_J6_numberOfTrailingZeros_0f7a4 (l : Launch) (G : cG) (q0 : Nat) (hq0 : q0 < 24) : cMI l G yJ6_numberOfTrailingZeros_0f7a4 wsJ6_numberOfTrailingZeros_0f7a4 ({ frames := 0, cells := 0, slots := 0, locals := 0 }) [.int (nI (2 ^ q0))] [] (fun (r_ : Int32) (_ : Unit) => r_ = nI q0) (fun (_ : Unit) => []) := by
  refine cs_sI (own := RJ6) (cc := cJ6_numberOfTrailingZeros_0f7a4) (maxL := 2) (ret := (some .int)) (by decide) rfl rfl (Nat.le_of_ble_eq_true rfl) ?_
  intro p e s m below meth c A hx hb hr hml hts hown hlocks hinit hA hK hP hD hS ls hl
  have hl : lv_has ls 2 [(0, .int (nI (2 ^ q0)))] := hl
  have h2 := ntz_lt q0 hq0
  have h3 := ntz_c q0 hq0
  refine lv_iload_n hx hb dJ6_numberOfTrailingZeros_0f7a4_0 rfl (lv_at hl 0 rfl) ?_
  refine lv_iconst (v := (-1)) hx hb dJ6_numberOfTrailingZeros_0f7a4_1 (by decide +kernel) ?_
  refine lv_ixor hx hb dJ6_numberOfTrailingZeros_0f7a4_2 ?_
  refine lv_iload_n hx hb dJ6_numberOfTrailingZeros_0f7a4_3 rfl (lv_at hl 0 rfl) ?_
  refine lv_iconst (v := nI 1) hx hb dJ6_numberOfTrailingZeros_0f7a4_4 (by decide +kernel) ?_
  refine lv_isub hx hb dJ6_numberOfTrailingZeros_0f7a4_5 ?_
  refine cs_i (y := nI ((2 ^ q0) - 1)) (pk_sub (by omega)) ?_
  refine lv_iand hx hb dJ6_numberOfTrailingZeros_0f7a4_6 ?_
  refine cs_i (y := nI (2 ^ q0 - 1)) (ntz_0 q0 hq0) ?_
  refine lv_istore_n (lv' := [(0, .int (nI (2 ^ q0 - 1)))]) hx hb dJ6_numberOfTrailingZeros_0f7a4_7 rfl hl (by decide) rfl (fun ls hl => ?_)
  refine lv_iload_n hx hb dJ6_numberOfTrailingZeros_0f7a4_8 rfl (lv_at hl 0 rfl) ?_
  refine lv_if_gt (tgt := 17) hx hb dJ6_numberOfTrailingZeros_0f7a4_9 (by decide) (fun c_9 => ?_) (fun c_9 => ?_)
  · have c_9 := (nI_gt0 (by omega)).mp c_9
    have g_9 := h3.1.mp c_9
    refine lv_iconst (v := nI 1) hx hb dJ6_numberOfTrailingZeros_0f7a4_17 (by decide +kernel) ?_
    refine lv_istore_n (lv' := [(1, .int (nI 1)), (0, .int (nI (2 ^ q0 - 1)))]) hx hb dJ6_numberOfTrailingZeros_0f7a4_18 rfl hl (by decide) rfl (fun ls hl => ?_)
    refine lv_iload_n hx hb dJ6_numberOfTrailingZeros_0f7a4_19 rfl (lv_at hl 1 rfl) ?_
    refine lv_ldcw (v := (65536)) hx hb hown (hts (.constant RJ6 264 (65536)) (List.mem_of_getElem? (i := 1) rfl)) dJ6_numberOfTrailingZeros_0f7a4_20 ?_
    refine cs_i (y := nI 65536) (fa_lit 65536) ?_
    refine lv_icmp_le (tgt := 34) hx hb dJ6_numberOfTrailingZeros_0f7a4_23 (by decide) (fun c_23 => ?_) (fun c_23 => ?_)
    · have c_23 := (nI_leI (by omega) (by omega)).mp c_23
      have g_23 := h3.2.1.mp c_23
      refine lv_iload_n hx hb dJ6_numberOfTrailingZeros_0f7a4_34 rfl (lv_at hl 1 rfl) ?_
      refine lv_sipush (v := nI 256) hx hb dJ6_numberOfTrailingZeros_0f7a4_35 (by decide +kernel) ?_
      refine lv_icmp_le (tgt := 49) hx hb dJ6_numberOfTrailingZeros_0f7a4_38 (by decide) (fun c_38 => ?_) (fun c_38 => ?_)
      · have c_38 := (nI_leI (by omega) (by omega)).mp c_38
        have g_38 := h3.2.2.1.mp c_38
        refine lv_iload_n hx hb dJ6_numberOfTrailingZeros_0f7a4_49 rfl (lv_at hl 1 rfl) ?_
        refine lv_bipush (v := nI 16) hx hb dJ6_numberOfTrailingZeros_0f7a4_50 (by decide +kernel) ?_
        refine lv_icmp_le (tgt := 62) hx hb dJ6_numberOfTrailingZeros_0f7a4_52 (by decide) (fun c_52 => ?_) (fun c_52 => ?_)
        · have c_52 := (nI_leI (by omega) (by omega)).mp c_52
          have g_52 := h3.2.2.2.1.mp c_52
          refine lv_iload_n hx hb dJ6_numberOfTrailingZeros_0f7a4_62 rfl (lv_at hl 1 rfl) ?_
          refine lv_iconst (v := nI 4) hx hb dJ6_numberOfTrailingZeros_0f7a4_63 (by decide +kernel) ?_
          refine lv_icmp_le (tgt := 74) hx hb dJ6_numberOfTrailingZeros_0f7a4_64 (by decide) (fun c_64 => ?_) (fun c_64 => ?_)
          · have c_64 := (nI_leI (by omega) (by omega)).mp c_64
            have g_64 := h3.2.2.2.2.mp c_64
            refine lv_iload_n hx hb dJ6_numberOfTrailingZeros_0f7a4_74 rfl (lv_at hl 0 rfl) ?_
            refine lv_iload_n hx hb dJ6_numberOfTrailingZeros_0f7a4_75 rfl (lv_at hl 1 rfl) ?_
            refine lv_iconst (v := nI 1) hx hb dJ6_numberOfTrailingZeros_0f7a4_76 (by decide +kernel) ?_
            refine lv_iushr (v := nI (q0 - 1)) hx hb dJ6_numberOfTrailingZeros_0f7a4_77 (by rw [nI_ushr (by omega) (by omega), ntz_e q0 (by omega) (by omega)]) ?_
            refine lv_iadd hx hb dJ6_numberOfTrailingZeros_0f7a4_78 ?_
            refine cs_i (y := nI (1 + (q0 - 1))) (nI_add _ _) ?_
            exact cs_iret hx hb hr hlocks hK hP hD hS (v := nI (1 + (q0 - 1))) () (congrArg nI (by omega)) (rfl) dJ6_numberOfTrailingZeros_0f7a4_79
          · have c_64 := mt (nI_leI (by omega) (by omega)).mpr c_64
            have g_64 := mt h3.2.2.2.2.mpr c_64
            have h2 := ntz_lt (q0 - 2) (by omega)
            have h3 := ntz_c (q0 - 2) (by omega)
            refine lv_iinc (v := nI (1 + 2)) (lv' := [(1, .int (nI (1 + 2))), (0, .int (nI (2 ^ q0 - 1)))]) hx hb dJ6_numberOfTrailingZeros_0f7a4_67 hl (k := 0) rfl (nI_add 1 2) (by decide) rfl (fun ls hl => ?_)
            refine lv_iload_n hx hb dJ6_numberOfTrailingZeros_0f7a4_70 rfl (lv_at hl 1 rfl) ?_
            refine lv_iconst (v := nI 2) hx hb dJ6_numberOfTrailingZeros_0f7a4_71 (by decide +kernel) ?_
            refine lv_iushr (v := nI (2 ^ (q0 - 2) - 1)) hx hb dJ6_numberOfTrailingZeros_0f7a4_72 (by rw [nI_ushr (by omega) (by omega), ntz_s q0 (by omega) 2 (by omega) (by omega)]) ?_
            refine lv_istore_n (lv' := [(0, .int (nI (2 ^ (q0 - 2) - 1))), (1, .int (nI (1 + 2)))]) hx hb dJ6_numberOfTrailingZeros_0f7a4_73 rfl hl (by decide) rfl (fun ls hl => ?_)
            refine lv_iload_n hx hb dJ6_numberOfTrailingZeros_0f7a4_74 rfl (lv_at hl 1 rfl) ?_
            refine lv_iload_n hx hb dJ6_numberOfTrailingZeros_0f7a4_75 rfl (lv_at hl 0 rfl) ?_
            refine lv_iconst (v := nI 1) hx hb dJ6_numberOfTrailingZeros_0f7a4_76 (by decide +kernel) ?_
            refine lv_iushr (v := nI ((q0 - 2) - 1)) hx hb dJ6_numberOfTrailingZeros_0f7a4_77 (by rw [nI_ushr (by omega) (by omega), ntz_e (q0 - 2) (by omega) (by omega)]) ?_
            refine lv_iadd hx hb dJ6_numberOfTrailingZeros_0f7a4_78 ?_
            refine cs_i (y := nI ((1 + 2) + ((q0 - 2) - 1))) (nI_add _ _) ?_
            exact cs_iret hx hb hr hlocks hK hP hD hS (v := nI ((1 + 2) + ((q0 - 2) - 1))) () (congrArg nI (by omega)) (rfl) dJ6_numberOfTrailingZeros_0f7a4_79
        · have c_52 := mt (nI_leI (by omega) (by omega)).mpr c_52
          have g_52 := mt h3.2.2.2.1.mpr c_52
          have h2 := ntz_lt (q0 - 4) (by omega)
          have h3 := ntz_c (q0 - 4) (by omega)
          refine lv_iinc (v := nI (1 + 4)) (lv' := [(1, .int (nI (1 + 4))), (0, .int (nI (2 ^ q0 - 1)))]) hx hb dJ6_numberOfTrailingZeros_0f7a4_55 hl (k := 0) rfl (nI_add 1 4) (by decide) rfl (fun ls hl => ?_)
          refine lv_iload_n hx hb dJ6_numberOfTrailingZeros_0f7a4_58 rfl (lv_at hl 1 rfl) ?_
          refine lv_iconst (v := nI 4) hx hb dJ6_numberOfTrailingZeros_0f7a4_59 (by decide +kernel) ?_
          refine lv_iushr (v := nI (2 ^ (q0 - 4) - 1)) hx hb dJ6_numberOfTrailingZeros_0f7a4_60 (by rw [nI_ushr (by omega) (by omega), ntz_s q0 (by omega) 4 (by omega) (by omega)]) ?_
          refine lv_istore_n (lv' := [(0, .int (nI (2 ^ (q0 - 4) - 1))), (1, .int (nI (1 + 4)))]) hx hb dJ6_numberOfTrailingZeros_0f7a4_61 rfl hl (by decide) rfl (fun ls hl => ?_)
          refine lv_iload_n hx hb dJ6_numberOfTrailingZeros_0f7a4_62 rfl (lv_at hl 0 rfl) ?_
          refine lv_iconst (v := nI 4) hx hb dJ6_numberOfTrailingZeros_0f7a4_63 (by decide +kernel) ?_
          refine lv_icmp_le (tgt := 74) hx hb dJ6_numberOfTrailingZeros_0f7a4_64 (by decide) (fun c_64 => ?_) (fun c_64 => ?_)
          · have c_64 := (nI_leI (by omega) (by omega)).mp c_64
            have g_64 := h3.2.2.2.2.mp c_64
            refine lv_iload_n hx hb dJ6_numberOfTrailingZeros_0f7a4_74 rfl (lv_at hl 1 rfl) ?_
            refine lv_iload_n hx hb dJ6_numberOfTrailingZeros_0f7a4_75 rfl (lv_at hl 0 rfl) ?_
            refine lv_iconst (v := nI 1) hx hb dJ6_numberOfTrailingZeros_0f7a4_76 (by decide +kernel) ?_
            refine lv_iushr (v := nI ((q0 - 4) - 1)) hx hb dJ6_numberOfTrailingZeros_0f7a4_77 (by rw [nI_ushr (by omega) (by omega), ntz_e (q0 - 4) (by omega) (by omega)]) ?_
            refine lv_iadd hx hb dJ6_numberOfTrailingZeros_0f7a4_78 ?_
            refine cs_i (y := nI ((1 + 4) + ((q0 - 4) - 1))) (nI_add _ _) ?_
            exact cs_iret hx hb hr hlocks hK hP hD hS (v := nI ((1 + 4) + ((q0 - 4) - 1))) () (congrArg nI (by omega)) (rfl) dJ6_numberOfTrailingZeros_0f7a4_79
          · have c_64 := mt (nI_leI (by omega) (by omega)).mpr c_64
            have g_64 := mt h3.2.2.2.2.mpr c_64
            have h2 := ntz_lt (q0 - 4 - 2) (by omega)
            have h3 := ntz_c (q0 - 4 - 2) (by omega)
            refine lv_iinc (v := nI (1 + 4 + 2)) (lv' := [(1, .int (nI (1 + 4 + 2))), (0, .int (nI (2 ^ (q0 - 4) - 1)))]) hx hb dJ6_numberOfTrailingZeros_0f7a4_67 hl (k := 1) rfl (nI_add (1 + 4) 2) (by decide) rfl (fun ls hl => ?_)
            refine lv_iload_n hx hb dJ6_numberOfTrailingZeros_0f7a4_70 rfl (lv_at hl 1 rfl) ?_
            refine lv_iconst (v := nI 2) hx hb dJ6_numberOfTrailingZeros_0f7a4_71 (by decide +kernel) ?_
            refine lv_iushr (v := nI (2 ^ (q0 - 4 - 2) - 1)) hx hb dJ6_numberOfTrailingZeros_0f7a4_72 (by rw [nI_ushr (by omega) (by omega), ntz_s (q0 - 4) (by omega) 2 (by omega) (by omega)]) ?_
            refine lv_istore_n (lv' := [(0, .int (nI (2 ^ (q0 - 4 - 2) - 1))), (1, .int (nI (1 + 4 + 2)))]) hx hb dJ6_numberOfTrailingZeros_0f7a4_73 rfl hl (by decide) rfl (fun ls hl => ?_)
            refine lv_iload_n hx hb dJ6_numberOfTrailingZeros_0f7a4_74 rfl (lv_at hl 1 rfl) ?_
            refine lv_iload_n hx hb dJ6_numberOfTrailingZeros_0f7a4_75 rfl (lv_at hl 0 rfl) ?_
            refine lv_iconst (v := nI 1) hx hb dJ6_numberOfTrailingZeros_0f7a4_76 (by decide +kernel) ?_
            refine lv_iushr (v := nI ((q0 - 4 - 2) - 1)) hx hb dJ6_numberOfTrailingZeros_0f7a4_77 (by rw [nI_ushr (by omega) (by omega), ntz_e (q0 - 4 - 2) (by omega) (by omega)]) ?_
            refine lv_iadd hx hb dJ6_numberOfTrailingZeros_0f7a4_78 ?_
            refine cs_i (y := nI ((1 + 4 + 2) + ((q0 - 4 - 2) - 1))) (nI_add _ _) ?_
            exact cs_iret hx hb hr hlocks hK hP hD hS (v := nI ((1 + 4 + 2) + ((q0 - 4 - 2) - 1))) () (congrArg nI (by omega)) (rfl) dJ6_numberOfTrailingZeros_0f7a4_79
      · have c_38 := mt (nI_leI (by omega) (by omega)).mpr c_38
        have g_38 := mt h3.2.2.1.mpr c_38
        have h2 := ntz_lt (q0 - 8) (by omega)
        have h3 := ntz_c (q0 - 8) (by omega)
        refine lv_iinc (v := nI (1 + 8)) (lv' := [(1, .int (nI (1 + 8))), (0, .int (nI (2 ^ q0 - 1)))]) hx hb dJ6_numberOfTrailingZeros_0f7a4_41 hl (k := 0) rfl (nI_add 1 8) (by decide) rfl (fun ls hl => ?_)
        refine lv_iload_n hx hb dJ6_numberOfTrailingZeros_0f7a4_44 rfl (lv_at hl 1 rfl) ?_
        refine lv_bipush (v := nI 8) hx hb dJ6_numberOfTrailingZeros_0f7a4_45 (by decide +kernel) ?_
        refine lv_iushr (v := nI (2 ^ (q0 - 8) - 1)) hx hb dJ6_numberOfTrailingZeros_0f7a4_47 (by rw [nI_ushr (by omega) (by omega), ntz_s q0 (by omega) 8 (by omega) (by omega)]) ?_
        refine lv_istore_n (lv' := [(0, .int (nI (2 ^ (q0 - 8) - 1))), (1, .int (nI (1 + 8)))]) hx hb dJ6_numberOfTrailingZeros_0f7a4_48 rfl hl (by decide) rfl (fun ls hl => ?_)
        refine lv_iload_n hx hb dJ6_numberOfTrailingZeros_0f7a4_49 rfl (lv_at hl 0 rfl) ?_
        refine lv_bipush (v := nI 16) hx hb dJ6_numberOfTrailingZeros_0f7a4_50 (by decide +kernel) ?_
        refine lv_icmp_le (tgt := 62) hx hb dJ6_numberOfTrailingZeros_0f7a4_52 (by decide) (fun c_52 => ?_) (fun c_52 => ?_)
        · have c_52 := (nI_leI (by omega) (by omega)).mp c_52
          have g_52 := h3.2.2.2.1.mp c_52
          refine lv_iload_n hx hb dJ6_numberOfTrailingZeros_0f7a4_62 rfl (lv_at hl 0 rfl) ?_
          refine lv_iconst (v := nI 4) hx hb dJ6_numberOfTrailingZeros_0f7a4_63 (by decide +kernel) ?_
          refine lv_icmp_le (tgt := 74) hx hb dJ6_numberOfTrailingZeros_0f7a4_64 (by decide) (fun c_64 => ?_) (fun c_64 => ?_)
          · have c_64 := (nI_leI (by omega) (by omega)).mp c_64
            have g_64 := h3.2.2.2.2.mp c_64
            refine lv_iload_n hx hb dJ6_numberOfTrailingZeros_0f7a4_74 rfl (lv_at hl 1 rfl) ?_
            refine lv_iload_n hx hb dJ6_numberOfTrailingZeros_0f7a4_75 rfl (lv_at hl 0 rfl) ?_
            refine lv_iconst (v := nI 1) hx hb dJ6_numberOfTrailingZeros_0f7a4_76 (by decide +kernel) ?_
            refine lv_iushr (v := nI ((q0 - 8) - 1)) hx hb dJ6_numberOfTrailingZeros_0f7a4_77 (by rw [nI_ushr (by omega) (by omega), ntz_e (q0 - 8) (by omega) (by omega)]) ?_
            refine lv_iadd hx hb dJ6_numberOfTrailingZeros_0f7a4_78 ?_
            refine cs_i (y := nI ((1 + 8) + ((q0 - 8) - 1))) (nI_add _ _) ?_
            exact cs_iret hx hb hr hlocks hK hP hD hS (v := nI ((1 + 8) + ((q0 - 8) - 1))) () (congrArg nI (by omega)) (rfl) dJ6_numberOfTrailingZeros_0f7a4_79
          · have c_64 := mt (nI_leI (by omega) (by omega)).mpr c_64
            have g_64 := mt h3.2.2.2.2.mpr c_64
            have h2 := ntz_lt (q0 - 8 - 2) (by omega)
            have h3 := ntz_c (q0 - 8 - 2) (by omega)
            refine lv_iinc (v := nI (1 + 8 + 2)) (lv' := [(1, .int (nI (1 + 8 + 2))), (0, .int (nI (2 ^ (q0 - 8) - 1)))]) hx hb dJ6_numberOfTrailingZeros_0f7a4_67 hl (k := 1) rfl (nI_add (1 + 8) 2) (by decide) rfl (fun ls hl => ?_)
            refine lv_iload_n hx hb dJ6_numberOfTrailingZeros_0f7a4_70 rfl (lv_at hl 1 rfl) ?_
            refine lv_iconst (v := nI 2) hx hb dJ6_numberOfTrailingZeros_0f7a4_71 (by decide +kernel) ?_
            refine lv_iushr (v := nI (2 ^ (q0 - 8 - 2) - 1)) hx hb dJ6_numberOfTrailingZeros_0f7a4_72 (by rw [nI_ushr (by omega) (by omega), ntz_s (q0 - 8) (by omega) 2 (by omega) (by omega)]) ?_
            refine lv_istore_n (lv' := [(0, .int (nI (2 ^ (q0 - 8 - 2) - 1))), (1, .int (nI (1 + 8 + 2)))]) hx hb dJ6_numberOfTrailingZeros_0f7a4_73 rfl hl (by decide) rfl (fun ls hl => ?_)
            refine lv_iload_n hx hb dJ6_numberOfTrailingZeros_0f7a4_74 rfl (lv_at hl 1 rfl) ?_
            refine lv_iload_n hx hb dJ6_numberOfTrailingZeros_0f7a4_75 rfl (lv_at hl 0 rfl) ?_
            refine lv_iconst (v := nI 1) hx hb dJ6_numberOfTrailingZeros_0f7a4_76 (by decide +kernel) ?_
            refine lv_iushr (v := nI ((q0 - 8 - 2) - 1)) hx hb dJ6_numberOfTrailingZeros_0f7a4_77 (by rw [nI_ushr (by omega) (by omega), ntz_e (q0 - 8 - 2) (by omega) (by omega)]) ?_
            refine lv_iadd hx hb dJ6_numberOfTrailingZeros_0f7a4_78 ?_
            refine cs_i (y := nI ((1 + 8 + 2) + ((q0 - 8 - 2) - 1))) (nI_add _ _) ?_
            exact cs_iret hx hb hr hlocks hK hP hD hS (v := nI ((1 + 8 + 2) + ((q0 - 8 - 2) - 1))) () (congrArg nI (by omega)) (rfl) dJ6_numberOfTrailingZeros_0f7a4_79
        · have c_52 := mt (nI_leI (by omega) (by omega)).mpr c_52
          have g_52 := mt h3.2.2.2.1.mpr c_52
          have h2 := ntz_lt (q0 - 8 - 4) (by omega)
          have h3 := ntz_c (q0 - 8 - 4) (by omega)
          refine lv_iinc (v := nI (1 + 8 + 4)) (lv' := [(1, .int (nI (1 + 8 + 4))), (0, .int (nI (2 ^ (q0 - 8) - 1)))]) hx hb dJ6_numberOfTrailingZeros_0f7a4_55 hl (k := 1) rfl (nI_add (1 + 8) 4) (by decide) rfl (fun ls hl => ?_)
          refine lv_iload_n hx hb dJ6_numberOfTrailingZeros_0f7a4_58 rfl (lv_at hl 1 rfl) ?_
          refine lv_iconst (v := nI 4) hx hb dJ6_numberOfTrailingZeros_0f7a4_59 (by decide +kernel) ?_
          refine lv_iushr (v := nI (2 ^ (q0 - 8 - 4) - 1)) hx hb dJ6_numberOfTrailingZeros_0f7a4_60 (by rw [nI_ushr (by omega) (by omega), ntz_s (q0 - 8) (by omega) 4 (by omega) (by omega)]) ?_
          refine lv_istore_n (lv' := [(0, .int (nI (2 ^ (q0 - 8 - 4) - 1))), (1, .int (nI (1 + 8 + 4)))]) hx hb dJ6_numberOfTrailingZeros_0f7a4_61 rfl hl (by decide) rfl (fun ls hl => ?_)
          refine lv_iload_n hx hb dJ6_numberOfTrailingZeros_0f7a4_62 rfl (lv_at hl 0 rfl) ?_
          refine lv_iconst (v := nI 4) hx hb dJ6_numberOfTrailingZeros_0f7a4_63 (by decide +kernel) ?_
          refine lv_icmp_le (tgt := 74) hx hb dJ6_numberOfTrailingZeros_0f7a4_64 (by decide) (fun c_64 => ?_) (fun c_64 => ?_)
          · have c_64 := (nI_leI (by omega) (by omega)).mp c_64
            have g_64 := h3.2.2.2.2.mp c_64
            refine lv_iload_n hx hb dJ6_numberOfTrailingZeros_0f7a4_74 rfl (lv_at hl 1 rfl) ?_
            refine lv_iload_n hx hb dJ6_numberOfTrailingZeros_0f7a4_75 rfl (lv_at hl 0 rfl) ?_
            refine lv_iconst (v := nI 1) hx hb dJ6_numberOfTrailingZeros_0f7a4_76 (by decide +kernel) ?_
            refine lv_iushr (v := nI ((q0 - 8 - 4) - 1)) hx hb dJ6_numberOfTrailingZeros_0f7a4_77 (by rw [nI_ushr (by omega) (by omega), ntz_e (q0 - 8 - 4) (by omega) (by omega)]) ?_
            refine lv_iadd hx hb dJ6_numberOfTrailingZeros_0f7a4_78 ?_
            refine cs_i (y := nI ((1 + 8 + 4) + ((q0 - 8 - 4) - 1))) (nI_add _ _) ?_
            exact cs_iret hx hb hr hlocks hK hP hD hS (v := nI ((1 + 8 + 4) + ((q0 - 8 - 4) - 1))) () (congrArg nI (by omega)) (rfl) dJ6_numberOfTrailingZeros_0f7a4_79
          · have c_64 := mt (nI_leI (by omega) (by omega)).mpr c_64
            have g_64 := mt h3.2.2.2.2.mpr c_64
            have h2 := ntz_lt (q0 - 8 - 4 - 2) (by omega)
            have h3 := ntz_c (q0 - 8 - 4 - 2) (by omega)
            refine lv_iinc (v := nI (1 + 8 + 4 + 2)) (lv' := [(1, .int (nI (1 + 8 + 4 + 2))), (0, .int (nI (2 ^ (q0 - 8 - 4) - 1)))]) hx hb dJ6_numberOfTrailingZeros_0f7a4_67 hl (k := 1) rfl (nI_add (1 + 8 + 4) 2) (by decide) rfl (fun ls hl => ?_)
            refine lv_iload_n hx hb dJ6_numberOfTrailingZeros_0f7a4_70 rfl (lv_at hl 1 rfl) ?_
            refine lv_iconst (v := nI 2) hx hb dJ6_numberOfTrailingZeros_0f7a4_71 (by decide +kernel) ?_
            refine lv_iushr (v := nI (2 ^ (q0 - 8 - 4 - 2) - 1)) hx hb dJ6_numberOfTrailingZeros_0f7a4_72 (by rw [nI_ushr (by omega) (by omega), ntz_s (q0 - 8 - 4) (by omega) 2 (by omega) (by omega)]) ?_
            refine lv_istore_n (lv' := [(0, .int (nI (2 ^ (q0 - 8 - 4 - 2) - 1))), (1, .int (nI (1 + 8 + 4 + 2)))]) hx hb dJ6_numberOfTrailingZeros_0f7a4_73 rfl hl (by decide) rfl (fun ls hl => ?_)
            refine lv_iload_n hx hb dJ6_numberOfTrailingZeros_0f7a4_74 rfl (lv_at hl 1 rfl) ?_
            refine lv_iload_n hx hb dJ6_numberOfTrailingZeros_0f7a4_75 rfl (lv_at hl 0 rfl) ?_
            refine lv_iconst (v := nI 1) hx hb dJ6_numberOfTrailingZeros_0f7a4_76 (by decide +kernel) ?_
            refine lv_iushr (v := nI ((q0 - 8 - 4 - 2) - 1)) hx hb dJ6_numberOfTrailingZeros_0f7a4_77 (by rw [nI_ushr (by omega) (by omega), ntz_e (q0 - 8 - 4 - 2) (by omega) (by omega)]) ?_
            refine lv_iadd hx hb dJ6_numberOfTrailingZeros_0f7a4_78 ?_
            refine cs_i (y := nI ((1 + 8 + 4 + 2) + ((q0 - 8 - 4 - 2) - 1))) (nI_add _ _) ?_
            exact cs_iret hx hb hr hlocks hK hP hD hS (v := nI ((1 + 8 + 4 + 2) + ((q0 - 8 - 4 - 2) - 1))) () (congrArg nI (by omega)) (rfl) dJ6_numberOfTrailingZeros_0f7a4_79
    · have c_23 := mt (nI_leI (by omega) (by omega)).mpr c_23
      have g_23 := mt h3.2.1.mpr c_23
      have h2 := ntz_lt (q0 - 16) (by omega)
      have h3 := ntz_c (q0 - 16) (by omega)
      refine lv_iinc (v := nI (1 + 16)) (lv' := [(1, .int (nI (1 + 16))), (0, .int (nI (2 ^ q0 - 1)))]) hx hb dJ6_numberOfTrailingZeros_0f7a4_26 hl (k := 0) rfl (nI_add 1 16) (by decide) rfl (fun ls hl => ?_)
      refine lv_iload_n hx hb dJ6_numberOfTrailingZeros_0f7a4_29 rfl (lv_at hl 1 rfl) ?_
      refine lv_bipush (v := nI 16) hx hb dJ6_numberOfTrailingZeros_0f7a4_30 (by decide +kernel) ?_
      refine lv_iushr (v := nI (2 ^ (q0 - 16) - 1)) hx hb dJ6_numberOfTrailingZeros_0f7a4_32 (by rw [nI_ushr (by omega) (by omega), ntz_s q0 (by omega) 16 (by omega) (by omega)]) ?_
      refine lv_istore_n (lv' := [(0, .int (nI (2 ^ (q0 - 16) - 1))), (1, .int (nI (1 + 16)))]) hx hb dJ6_numberOfTrailingZeros_0f7a4_33 rfl hl (by decide) rfl (fun ls hl => ?_)
      refine lv_iload_n hx hb dJ6_numberOfTrailingZeros_0f7a4_34 rfl (lv_at hl 0 rfl) ?_
      refine lv_sipush (v := nI 256) hx hb dJ6_numberOfTrailingZeros_0f7a4_35 (by decide +kernel) ?_
      refine lv_icmp_le (tgt := 49) hx hb dJ6_numberOfTrailingZeros_0f7a4_38 (by decide) (fun c_38 => ?_) (fun c_38 => ?_)
      · have c_38 := (nI_leI (by omega) (by omega)).mp c_38
        have g_38 := h3.2.2.1.mp c_38
        refine lv_iload_n hx hb dJ6_numberOfTrailingZeros_0f7a4_49 rfl (lv_at hl 0 rfl) ?_
        refine lv_bipush (v := nI 16) hx hb dJ6_numberOfTrailingZeros_0f7a4_50 (by decide +kernel) ?_
        refine lv_icmp_le (tgt := 62) hx hb dJ6_numberOfTrailingZeros_0f7a4_52 (by decide) (fun c_52 => ?_) (fun c_52 => ?_)
        · have c_52 := (nI_leI (by omega) (by omega)).mp c_52
          have g_52 := h3.2.2.2.1.mp c_52
          refine lv_iload_n hx hb dJ6_numberOfTrailingZeros_0f7a4_62 rfl (lv_at hl 0 rfl) ?_
          refine lv_iconst (v := nI 4) hx hb dJ6_numberOfTrailingZeros_0f7a4_63 (by decide +kernel) ?_
          refine lv_icmp_le (tgt := 74) hx hb dJ6_numberOfTrailingZeros_0f7a4_64 (by decide) (fun c_64 => ?_) (fun c_64 => ?_)
          · have c_64 := (nI_leI (by omega) (by omega)).mp c_64
            have g_64 := h3.2.2.2.2.mp c_64
            refine lv_iload_n hx hb dJ6_numberOfTrailingZeros_0f7a4_74 rfl (lv_at hl 1 rfl) ?_
            refine lv_iload_n hx hb dJ6_numberOfTrailingZeros_0f7a4_75 rfl (lv_at hl 0 rfl) ?_
            refine lv_iconst (v := nI 1) hx hb dJ6_numberOfTrailingZeros_0f7a4_76 (by decide +kernel) ?_
            refine lv_iushr (v := nI ((q0 - 16) - 1)) hx hb dJ6_numberOfTrailingZeros_0f7a4_77 (by rw [nI_ushr (by omega) (by omega), ntz_e (q0 - 16) (by omega) (by omega)]) ?_
            refine lv_iadd hx hb dJ6_numberOfTrailingZeros_0f7a4_78 ?_
            refine cs_i (y := nI ((1 + 16) + ((q0 - 16) - 1))) (nI_add _ _) ?_
            exact cs_iret hx hb hr hlocks hK hP hD hS (v := nI ((1 + 16) + ((q0 - 16) - 1))) () (congrArg nI (by omega)) (rfl) dJ6_numberOfTrailingZeros_0f7a4_79
          · have c_64 := mt (nI_leI (by omega) (by omega)).mpr c_64
            have g_64 := mt h3.2.2.2.2.mpr c_64
            have h2 := ntz_lt (q0 - 16 - 2) (by omega)
            have h3 := ntz_c (q0 - 16 - 2) (by omega)
            refine lv_iinc (v := nI (1 + 16 + 2)) (lv' := [(1, .int (nI (1 + 16 + 2))), (0, .int (nI (2 ^ (q0 - 16) - 1)))]) hx hb dJ6_numberOfTrailingZeros_0f7a4_67 hl (k := 1) rfl (nI_add (1 + 16) 2) (by decide) rfl (fun ls hl => ?_)
            refine lv_iload_n hx hb dJ6_numberOfTrailingZeros_0f7a4_70 rfl (lv_at hl 1 rfl) ?_
            refine lv_iconst (v := nI 2) hx hb dJ6_numberOfTrailingZeros_0f7a4_71 (by decide +kernel) ?_
            refine lv_iushr (v := nI (2 ^ (q0 - 16 - 2) - 1)) hx hb dJ6_numberOfTrailingZeros_0f7a4_72 (by rw [nI_ushr (by omega) (by omega), ntz_s (q0 - 16) (by omega) 2 (by omega) (by omega)]) ?_
            refine lv_istore_n (lv' := [(0, .int (nI (2 ^ (q0 - 16 - 2) - 1))), (1, .int (nI (1 + 16 + 2)))]) hx hb dJ6_numberOfTrailingZeros_0f7a4_73 rfl hl (by decide) rfl (fun ls hl => ?_)
            refine lv_iload_n hx hb dJ6_numberOfTrailingZeros_0f7a4_74 rfl (lv_at hl 1 rfl) ?_
            refine lv_iload_n hx hb dJ6_numberOfTrailingZeros_0f7a4_75 rfl (lv_at hl 0 rfl) ?_
            refine lv_iconst (v := nI 1) hx hb dJ6_numberOfTrailingZeros_0f7a4_76 (by decide +kernel) ?_
            refine lv_iushr (v := nI ((q0 - 16 - 2) - 1)) hx hb dJ6_numberOfTrailingZeros_0f7a4_77 (by rw [nI_ushr (by omega) (by omega), ntz_e (q0 - 16 - 2) (by omega) (by omega)]) ?_
            refine lv_iadd hx hb dJ6_numberOfTrailingZeros_0f7a4_78 ?_
            refine cs_i (y := nI ((1 + 16 + 2) + ((q0 - 16 - 2) - 1))) (nI_add _ _) ?_
            exact cs_iret hx hb hr hlocks hK hP hD hS (v := nI ((1 + 16 + 2) + ((q0 - 16 - 2) - 1))) () (congrArg nI (by omega)) (rfl) dJ6_numberOfTrailingZeros_0f7a4_79
        · have c_52 := mt (nI_leI (by omega) (by omega)).mpr c_52
          have g_52 := mt h3.2.2.2.1.mpr c_52
          have h2 := ntz_lt (q0 - 16 - 4) (by omega)
          have h3 := ntz_c (q0 - 16 - 4) (by omega)
          refine lv_iinc (v := nI (1 + 16 + 4)) (lv' := [(1, .int (nI (1 + 16 + 4))), (0, .int (nI (2 ^ (q0 - 16) - 1)))]) hx hb dJ6_numberOfTrailingZeros_0f7a4_55 hl (k := 1) rfl (nI_add (1 + 16) 4) (by decide) rfl (fun ls hl => ?_)
          refine lv_iload_n hx hb dJ6_numberOfTrailingZeros_0f7a4_58 rfl (lv_at hl 1 rfl) ?_
          refine lv_iconst (v := nI 4) hx hb dJ6_numberOfTrailingZeros_0f7a4_59 (by decide +kernel) ?_
          refine lv_iushr (v := nI (2 ^ (q0 - 16 - 4) - 1)) hx hb dJ6_numberOfTrailingZeros_0f7a4_60 (by rw [nI_ushr (by omega) (by omega), ntz_s (q0 - 16) (by omega) 4 (by omega) (by omega)]) ?_
          refine lv_istore_n (lv' := [(0, .int (nI (2 ^ (q0 - 16 - 4) - 1))), (1, .int (nI (1 + 16 + 4)))]) hx hb dJ6_numberOfTrailingZeros_0f7a4_61 rfl hl (by decide) rfl (fun ls hl => ?_)
          refine lv_iload_n hx hb dJ6_numberOfTrailingZeros_0f7a4_62 rfl (lv_at hl 0 rfl) ?_
          refine lv_iconst (v := nI 4) hx hb dJ6_numberOfTrailingZeros_0f7a4_63 (by decide +kernel) ?_
          refine lv_icmp_le (tgt := 74) hx hb dJ6_numberOfTrailingZeros_0f7a4_64 (by decide) (fun c_64 => ?_) (fun c_64 => ?_)
          · have c_64 := (nI_leI (by omega) (by omega)).mp c_64
            have g_64 := h3.2.2.2.2.mp c_64
            refine lv_iload_n hx hb dJ6_numberOfTrailingZeros_0f7a4_74 rfl (lv_at hl 1 rfl) ?_
            refine lv_iload_n hx hb dJ6_numberOfTrailingZeros_0f7a4_75 rfl (lv_at hl 0 rfl) ?_
            refine lv_iconst (v := nI 1) hx hb dJ6_numberOfTrailingZeros_0f7a4_76 (by decide +kernel) ?_
            refine lv_iushr (v := nI ((q0 - 16 - 4) - 1)) hx hb dJ6_numberOfTrailingZeros_0f7a4_77 (by rw [nI_ushr (by omega) (by omega), ntz_e (q0 - 16 - 4) (by omega) (by omega)]) ?_
            refine lv_iadd hx hb dJ6_numberOfTrailingZeros_0f7a4_78 ?_
            refine cs_i (y := nI ((1 + 16 + 4) + ((q0 - 16 - 4) - 1))) (nI_add _ _) ?_
            exact cs_iret hx hb hr hlocks hK hP hD hS (v := nI ((1 + 16 + 4) + ((q0 - 16 - 4) - 1))) () (congrArg nI (by omega)) (rfl) dJ6_numberOfTrailingZeros_0f7a4_79
          · have c_64 := mt (nI_leI (by omega) (by omega)).mpr c_64
            have g_64 := mt h3.2.2.2.2.mpr c_64
            have h2 := ntz_lt (q0 - 16 - 4 - 2) (by omega)
            have h3 := ntz_c (q0 - 16 - 4 - 2) (by omega)
            refine lv_iinc (v := nI (1 + 16 + 4 + 2)) (lv' := [(1, .int (nI (1 + 16 + 4 + 2))), (0, .int (nI (2 ^ (q0 - 16 - 4) - 1)))]) hx hb dJ6_numberOfTrailingZeros_0f7a4_67 hl (k := 1) rfl (nI_add (1 + 16 + 4) 2) (by decide) rfl (fun ls hl => ?_)
            refine lv_iload_n hx hb dJ6_numberOfTrailingZeros_0f7a4_70 rfl (lv_at hl 1 rfl) ?_
            refine lv_iconst (v := nI 2) hx hb dJ6_numberOfTrailingZeros_0f7a4_71 (by decide +kernel) ?_
            refine lv_iushr (v := nI (2 ^ (q0 - 16 - 4 - 2) - 1)) hx hb dJ6_numberOfTrailingZeros_0f7a4_72 (by rw [nI_ushr (by omega) (by omega), ntz_s (q0 - 16 - 4) (by omega) 2 (by omega) (by omega)]) ?_
            refine lv_istore_n (lv' := [(0, .int (nI (2 ^ (q0 - 16 - 4 - 2) - 1))), (1, .int (nI (1 + 16 + 4 + 2)))]) hx hb dJ6_numberOfTrailingZeros_0f7a4_73 rfl hl (by decide) rfl (fun ls hl => ?_)
            refine lv_iload_n hx hb dJ6_numberOfTrailingZeros_0f7a4_74 rfl (lv_at hl 1 rfl) ?_
            refine lv_iload_n hx hb dJ6_numberOfTrailingZeros_0f7a4_75 rfl (lv_at hl 0 rfl) ?_
            refine lv_iconst (v := nI 1) hx hb dJ6_numberOfTrailingZeros_0f7a4_76 (by decide +kernel) ?_
            refine lv_iushr (v := nI ((q0 - 16 - 4 - 2) - 1)) hx hb dJ6_numberOfTrailingZeros_0f7a4_77 (by rw [nI_ushr (by omega) (by omega), ntz_e (q0 - 16 - 4 - 2) (by omega) (by omega)]) ?_
            refine lv_iadd hx hb dJ6_numberOfTrailingZeros_0f7a4_78 ?_
            refine cs_i (y := nI ((1 + 16 + 4 + 2) + ((q0 - 16 - 4 - 2) - 1))) (nI_add _ _) ?_
            exact cs_iret hx hb hr hlocks hK hP hD hS (v := nI ((1 + 16 + 4 + 2) + ((q0 - 16 - 4 - 2) - 1))) () (congrArg nI (by omega)) (rfl) dJ6_numberOfTrailingZeros_0f7a4_79
      · have c_38 := mt (nI_leI (by omega) (by omega)).mpr c_38
        have g_38 := mt h3.2.2.1.mpr c_38
        have h2 := ntz_lt (q0 - 16 - 8) (by omega)
        have h3 := ntz_c (q0 - 16 - 8) (by omega)
        refine lv_iinc (v := nI (1 + 16 + 8)) (lv' := [(1, .int (nI (1 + 16 + 8))), (0, .int (nI (2 ^ (q0 - 16) - 1)))]) hx hb dJ6_numberOfTrailingZeros_0f7a4_41 hl (k := 1) rfl (nI_add (1 + 16) 8) (by decide) rfl (fun ls hl => ?_)
        refine lv_iload_n hx hb dJ6_numberOfTrailingZeros_0f7a4_44 rfl (lv_at hl 1 rfl) ?_
        refine lv_bipush (v := nI 8) hx hb dJ6_numberOfTrailingZeros_0f7a4_45 (by decide +kernel) ?_
        refine lv_iushr (v := nI (2 ^ (q0 - 16 - 8) - 1)) hx hb dJ6_numberOfTrailingZeros_0f7a4_47 (by rw [nI_ushr (by omega) (by omega), ntz_s (q0 - 16) (by omega) 8 (by omega) (by omega)]) ?_
        refine lv_istore_n (lv' := [(0, .int (nI (2 ^ (q0 - 16 - 8) - 1))), (1, .int (nI (1 + 16 + 8)))]) hx hb dJ6_numberOfTrailingZeros_0f7a4_48 rfl hl (by decide) rfl (fun ls hl => ?_)
        refine lv_iload_n hx hb dJ6_numberOfTrailingZeros_0f7a4_49 rfl (lv_at hl 0 rfl) ?_
        refine lv_bipush (v := nI 16) hx hb dJ6_numberOfTrailingZeros_0f7a4_50 (by decide +kernel) ?_
        refine lv_icmp_le (tgt := 62) hx hb dJ6_numberOfTrailingZeros_0f7a4_52 (by decide) (fun c_52 => ?_) (fun c_52 => ?_)
        · have c_52 := (nI_leI (by omega) (by omega)).mp c_52
          have g_52 := h3.2.2.2.1.mp c_52
          refine lv_iload_n hx hb dJ6_numberOfTrailingZeros_0f7a4_62 rfl (lv_at hl 0 rfl) ?_
          refine lv_iconst (v := nI 4) hx hb dJ6_numberOfTrailingZeros_0f7a4_63 (by decide +kernel) ?_
          refine lv_icmp_le (tgt := 74) hx hb dJ6_numberOfTrailingZeros_0f7a4_64 (by decide) (fun c_64 => ?_) (fun c_64 => ?_)
          · have c_64 := (nI_leI (by omega) (by omega)).mp c_64
            have g_64 := h3.2.2.2.2.mp c_64
            refine lv_iload_n hx hb dJ6_numberOfTrailingZeros_0f7a4_74 rfl (lv_at hl 1 rfl) ?_
            refine lv_iload_n hx hb dJ6_numberOfTrailingZeros_0f7a4_75 rfl (lv_at hl 0 rfl) ?_
            refine lv_iconst (v := nI 1) hx hb dJ6_numberOfTrailingZeros_0f7a4_76 (by decide +kernel) ?_
            refine lv_iushr (v := nI ((q0 - 16 - 8) - 1)) hx hb dJ6_numberOfTrailingZeros_0f7a4_77 (by rw [nI_ushr (by omega) (by omega), ntz_e (q0 - 16 - 8) (by omega) (by omega)]) ?_
            refine lv_iadd hx hb dJ6_numberOfTrailingZeros_0f7a4_78 ?_
            refine cs_i (y := nI ((1 + 16 + 8) + ((q0 - 16 - 8) - 1))) (nI_add _ _) ?_
            exact cs_iret hx hb hr hlocks hK hP hD hS (v := nI ((1 + 16 + 8) + ((q0 - 16 - 8) - 1))) () (congrArg nI (by omega)) (rfl) dJ6_numberOfTrailingZeros_0f7a4_79
          · have c_64 := mt (nI_leI (by omega) (by omega)).mpr c_64
            have g_64 := mt h3.2.2.2.2.mpr c_64
            have h2 := ntz_lt (q0 - 16 - 8 - 2) (by omega)
            have h3 := ntz_c (q0 - 16 - 8 - 2) (by omega)
            refine lv_iinc (v := nI (1 + 16 + 8 + 2)) (lv' := [(1, .int (nI (1 + 16 + 8 + 2))), (0, .int (nI (2 ^ (q0 - 16 - 8) - 1)))]) hx hb dJ6_numberOfTrailingZeros_0f7a4_67 hl (k := 1) rfl (nI_add (1 + 16 + 8) 2) (by decide) rfl (fun ls hl => ?_)
            refine lv_iload_n hx hb dJ6_numberOfTrailingZeros_0f7a4_70 rfl (lv_at hl 1 rfl) ?_
            refine lv_iconst (v := nI 2) hx hb dJ6_numberOfTrailingZeros_0f7a4_71 (by decide +kernel) ?_
            refine lv_iushr (v := nI (2 ^ (q0 - 16 - 8 - 2) - 1)) hx hb dJ6_numberOfTrailingZeros_0f7a4_72 (by rw [nI_ushr (by omega) (by omega), ntz_s (q0 - 16 - 8) (by omega) 2 (by omega) (by omega)]) ?_
            refine lv_istore_n (lv' := [(0, .int (nI (2 ^ (q0 - 16 - 8 - 2) - 1))), (1, .int (nI (1 + 16 + 8 + 2)))]) hx hb dJ6_numberOfTrailingZeros_0f7a4_73 rfl hl (by decide) rfl (fun ls hl => ?_)
            refine lv_iload_n hx hb dJ6_numberOfTrailingZeros_0f7a4_74 rfl (lv_at hl 1 rfl) ?_
            refine lv_iload_n hx hb dJ6_numberOfTrailingZeros_0f7a4_75 rfl (lv_at hl 0 rfl) ?_
            refine lv_iconst (v := nI 1) hx hb dJ6_numberOfTrailingZeros_0f7a4_76 (by decide +kernel) ?_
            refine lv_iushr (v := nI ((q0 - 16 - 8 - 2) - 1)) hx hb dJ6_numberOfTrailingZeros_0f7a4_77 (by rw [nI_ushr (by omega) (by omega), ntz_e (q0 - 16 - 8 - 2) (by omega) (by omega)]) ?_
            refine lv_iadd hx hb dJ6_numberOfTrailingZeros_0f7a4_78 ?_
            refine cs_i (y := nI ((1 + 16 + 8 + 2) + ((q0 - 16 - 8 - 2) - 1))) (nI_add _ _) ?_
            exact cs_iret hx hb hr hlocks hK hP hD hS (v := nI ((1 + 16 + 8 + 2) + ((q0 - 16 - 8 - 2) - 1))) () (congrArg nI (by omega)) (rfl) dJ6_numberOfTrailingZeros_0f7a4_79
        · have c_52 := mt (nI_leI (by omega) (by omega)).mpr c_52
          have g_52 := mt h3.2.2.2.1.mpr c_52
          have h2 := ntz_lt (q0 - 16 - 8 - 4) (by omega)
          have h3 := ntz_c (q0 - 16 - 8 - 4) (by omega)
          refine lv_iinc (v := nI (1 + 16 + 8 + 4)) (lv' := [(1, .int (nI (1 + 16 + 8 + 4))), (0, .int (nI (2 ^ (q0 - 16 - 8) - 1)))]) hx hb dJ6_numberOfTrailingZeros_0f7a4_55 hl (k := 1) rfl (nI_add (1 + 16 + 8) 4) (by decide) rfl (fun ls hl => ?_)
          refine lv_iload_n hx hb dJ6_numberOfTrailingZeros_0f7a4_58 rfl (lv_at hl 1 rfl) ?_
          refine lv_iconst (v := nI 4) hx hb dJ6_numberOfTrailingZeros_0f7a4_59 (by decide +kernel) ?_
          refine lv_iushr (v := nI (2 ^ (q0 - 16 - 8 - 4) - 1)) hx hb dJ6_numberOfTrailingZeros_0f7a4_60 (by rw [nI_ushr (by omega) (by omega), ntz_s (q0 - 16 - 8) (by omega) 4 (by omega) (by omega)]) ?_
          refine lv_istore_n (lv' := [(0, .int (nI (2 ^ (q0 - 16 - 8 - 4) - 1))), (1, .int (nI (1 + 16 + 8 + 4)))]) hx hb dJ6_numberOfTrailingZeros_0f7a4_61 rfl hl (by decide) rfl (fun ls hl => ?_)
          refine lv_iload_n hx hb dJ6_numberOfTrailingZeros_0f7a4_62 rfl (lv_at hl 0 rfl) ?_
          refine lv_iconst (v := nI 4) hx hb dJ6_numberOfTrailingZeros_0f7a4_63 (by decide +kernel) ?_
          refine lv_icmp_le (tgt := 74) hx hb dJ6_numberOfTrailingZeros_0f7a4_64 (by decide) (fun c_64 => ?_) (fun c_64 => ?_)
          · have c_64 := (nI_leI (by omega) (by omega)).mp c_64
            have g_64 := h3.2.2.2.2.mp c_64
            refine lv_iload_n hx hb dJ6_numberOfTrailingZeros_0f7a4_74 rfl (lv_at hl 1 rfl) ?_
            refine lv_iload_n hx hb dJ6_numberOfTrailingZeros_0f7a4_75 rfl (lv_at hl 0 rfl) ?_
            refine lv_iconst (v := nI 1) hx hb dJ6_numberOfTrailingZeros_0f7a4_76 (by decide +kernel) ?_
            refine lv_iushr (v := nI ((q0 - 16 - 8 - 4) - 1)) hx hb dJ6_numberOfTrailingZeros_0f7a4_77 (by rw [nI_ushr (by omega) (by omega), ntz_e (q0 - 16 - 8 - 4) (by omega) (by omega)]) ?_
            refine lv_iadd hx hb dJ6_numberOfTrailingZeros_0f7a4_78 ?_
            refine cs_i (y := nI ((1 + 16 + 8 + 4) + ((q0 - 16 - 8 - 4) - 1))) (nI_add _ _) ?_
            exact cs_iret hx hb hr hlocks hK hP hD hS (v := nI ((1 + 16 + 8 + 4) + ((q0 - 16 - 8 - 4) - 1))) () (congrArg nI (by omega)) (rfl) dJ6_numberOfTrailingZeros_0f7a4_79
          · have c_64 := mt (nI_leI (by omega) (by omega)).mpr c_64
            have g_64 := mt h3.2.2.2.2.mpr c_64
            have h2 := ntz_lt (q0 - 16 - 8 - 4 - 2) (by omega)
            have h3 := ntz_c (q0 - 16 - 8 - 4 - 2) (by omega)
            refine lv_iinc (v := nI (1 + 16 + 8 + 4 + 2)) (lv' := [(1, .int (nI (1 + 16 + 8 + 4 + 2))), (0, .int (nI (2 ^ (q0 - 16 - 8 - 4) - 1)))]) hx hb dJ6_numberOfTrailingZeros_0f7a4_67 hl (k := 1) rfl (nI_add (1 + 16 + 8 + 4) 2) (by decide) rfl (fun ls hl => ?_)
            refine lv_iload_n hx hb dJ6_numberOfTrailingZeros_0f7a4_70 rfl (lv_at hl 1 rfl) ?_
            refine lv_iconst (v := nI 2) hx hb dJ6_numberOfTrailingZeros_0f7a4_71 (by decide +kernel) ?_
            refine lv_iushr (v := nI (2 ^ (q0 - 16 - 8 - 4 - 2) - 1)) hx hb dJ6_numberOfTrailingZeros_0f7a4_72 (by rw [nI_ushr (by omega) (by omega), ntz_s (q0 - 16 - 8 - 4) (by omega) 2 (by omega) (by omega)]) ?_
            refine lv_istore_n (lv' := [(0, .int (nI (2 ^ (q0 - 16 - 8 - 4 - 2) - 1))), (1, .int (nI (1 + 16 + 8 + 4 + 2)))]) hx hb dJ6_numberOfTrailingZeros_0f7a4_73 rfl hl (by decide) rfl (fun ls hl => ?_)
            refine lv_iload_n hx hb dJ6_numberOfTrailingZeros_0f7a4_74 rfl (lv_at hl 1 rfl) ?_
            refine lv_iload_n hx hb dJ6_numberOfTrailingZeros_0f7a4_75 rfl (lv_at hl 0 rfl) ?_
            refine lv_iconst (v := nI 1) hx hb dJ6_numberOfTrailingZeros_0f7a4_76 (by decide +kernel) ?_
            refine lv_iushr (v := nI ((q0 - 16 - 8 - 4 - 2) - 1)) hx hb dJ6_numberOfTrailingZeros_0f7a4_77 (by rw [nI_ushr (by omega) (by omega), ntz_e (q0 - 16 - 8 - 4 - 2) (by omega) (by omega)]) ?_
            refine lv_iadd hx hb dJ6_numberOfTrailingZeros_0f7a4_78 ?_
            refine cs_i (y := nI ((1 + 16 + 8 + 4 + 2) + ((q0 - 16 - 8 - 4 - 2) - 1))) (nI_add _ _) ?_
            exact cs_iret hx hb hr hlocks hK hP hD hS (v := nI ((1 + 16 + 8 + 4 + 2) + ((q0 - 16 - 8 - 4 - 2) - 1))) () (congrArg nI (by omega)) (rfl) dJ6_numberOfTrailingZeros_0f7a4_79
  · have c_9 := mt (nI_gt0 (by omega)).mpr c_9
    obtain rfl : q0 = 0 := (by have z9 := mt h3.1.mpr c_9; omega)
    refine lv_iload_n hx hb dJ6_numberOfTrailingZeros_0f7a4_12 rfl (lv_at hl 0 rfl) ?_
    refine lv_bipush (v := nI 32) hx hb dJ6_numberOfTrailingZeros_0f7a4_13 (by decide +kernel) ?_
    refine lv_iand hx hb dJ6_numberOfTrailingZeros_0f7a4_15 ?_
    refine cs_i (y := nI ((2 ^ 0 - 1) &&& 32)) (fa_and _ _) ?_
    exact cs_iret hx hb hr hlocks hK hP hD hS (v := nI ((2 ^ 0 - 1) &&& 32)) () (by decide +kernel) (rfl) dJ6_numberOfTrailingZeros_0f7a4_16

set_option maxRecDepth 100000 in
theorem in5_X5_add : ∀ w ∈ wsX50, w ∈ wsX5_add := by decide +kernel
set_option maxHeartbeats 4000000 in
set_option maxRecDepth 100000 in
theorem c_X5_add (l : Launch) (G : cG) (z zk zn zs zw zf zg th n rc ta st : Nat) (kp : Bool) (kd kq kt ks al : Nat) (hn : n ≤ 24) (hrc : rc ≤ 6) (k : Nat → Nat) (x : Int32) : cMI l G yX5_add wsX5_add ({ frames := 1, cells := 0, slots := 0, locals := 22 }) [.ref z, .int x] [(z, .inr (5, [.int (nI th), .int (nI n), .ref zk, .int (nI rc), .ref zn, .ref zs, .int (nI ta), .ref zw, .int (nI st), .ref zf, .int (bI kp), .int (nI kd), .int (nI kq), .int (nI kt), .int (nI ks), .ref zg, .int (nI al)])), (zk, .inl (G.2.1, 24, .inl (nF k)))] (fun (r_ : Int32) (_ : Unit) => r_ = nI (if adc x n = 0 then n + 1 else 0)) (fun (_ : Unit) => [(z, .inr (5, [.int (nI (adc x n)), .int (nI (if adc x n = 0 then n + 1 else n)), .ref zk, .int (nI rc), .ref zn, .ref zs, .int (nI ta), .ref zw, .int (nI st), .ref zf, .int (bI kp), .int (nI kd), .int (nI kq), .int (nI kt), .int (nI ks), .ref zg, .int (nI al)])), (zk, .inl (G.2.1, 24, .inl (nF (if adc x n = 0 then va_up k n (vN x) else k))))]) := by
  refine cs_sI (own := RX5) (cc := cX5_add) (maxL := 2) (ret := (some .int)) (by decide) rfl rfl (Nat.le_of_ble_eq_true rfl) ?_
  intro p e s m below meth c A hx hb hr hml hts hown hlocks hinit hA hK hP hD hS ls hl
  have hin5 := in5_X5_add
  have hl : lv_has ls 2 [(0, .ref z), (1, .int x)] := hl
  refine lv_aload_n hx hb dX5_add_0 rfl (lv_at hl 0 rfl) ?_
  refine lv_iconst (v := nI 0) hx hb dX5_add_1 (by decide +kernel) ?_
  refine va_put (D := G.1) (ci := 5) (v := .int (nI 0)) (ty := .int) (C := RX5) (T := TX5) (N := 17) hx hb hts hin5 tyX5 tyX5_ok nmX5 hown hK hP hD hS 0 rfl rfl 0 (by decide) (hts (.fieldLink RX5 28 "FaultShrinkerModel" "thrown" "I") (List.mem_of_getElem? (i := 1) rfl)) (fun _ h9 => h9) rfl (by decide +kernel) rfl rfl (Nat.le_of_ble_eq_true rfl) dX5_add_2 (fun H locs hP hD hS => ?_)
  have hP : va_P G.1 vwCl [(z, .inr (5, [.int (nI 0), .int (nI n), .ref zk, .int (nI rc), .ref zn, .ref zs, .int (nI ta), .ref zw, .int (nI st), .ref zf, .int (bI kp), .int (nI kd), .int (nI kq), .int (nI kt), .int (nI ks), .ref zg, .int (nI al)])), (zk, .inl (G.2.1, 24, .inl (nF k)))] _ := hP
  have hD : va_D A [(z, .inr (5, [.int (nI 0), .int (nI n), .ref zk, .int (nI rc), .ref zn, .ref zs, .int (nI ta), .ref zw, .int (nI st), .ref zf, .int (bI kp), .int (nI kd), .int (nI kq), .int (nI kt), .int (nI ks), .ref zg, .int (nI al)])), (zk, .inl (G.2.1, 24, .inl (nF k)))] := hD
  refine lv_iload_n hx hb dX5_add_5 rfl (lv_at hl 1 rfl) ?_
  refine lv_iconst (v := nI 0) hx hb dX5_add_6 (by decide +kernel) ?_
  refine lv_bipush (v := nI 15) hx hb dX5_add_7 (by decide +kernel) ?_
  refine cs_si (As := [.int x, .int (nI 0), .int (nI 15)]) (rest := []) (wr := [(z, .inr (5, [.int (nI 0), .int (nI n), .ref zk, .int (nI rc), .ref zn, .ref zs, .int (nI ta), .ref zw, .int (nI st), .ref zf, .int (bI kp), .int (nI kd), .int (nI kq), .int (nI kt), .int (nI ks), .ref zg, .int (nI al)])), (zk, .inl (G.2.1, 24, .inl (nF k)))]) ⟨hx, hb, hml, hown, hts⟩ hK hP hD hS hA (c_X5_isIn l G x (nI 0) (nI 15)) (va_cwS 3 hts gX5_add_X5_isIn rfl rfl rfl (by decide +kernel) ⟨Nat.le_of_ble_eq_true rfl, Nat.le_of_ble_eq_true rfl⟩) [] [0, 1] ⟨rfl, rfl, by decide, by decide, by decide⟩ rfl hl.1 rfl (Nat.le_of_ble_eq_true rfl) ⟨Nat.le_of_ble_eq_true rfl, Nat.le_of_ble_eq_true rfl⟩ dX5_add_9 (fun r u H locs hw hP hD hS => ?_)
  have hP : va_P G.1 vwCl [(z, .inr (5, [.int (nI 0), .int (nI n), .ref zk, .int (nI rc), .ref zn, .ref zs, .int (nI ta), .ref zw, .int (nI st), .ref zf, .int (bI kp), .int (nI kd), .int (nI kq), .int (nI kt), .int (nI ks), .ref zg, .int (nI al)])), (zk, .inl (G.2.1, 24, .inl (nF k)))] H := hP.sub [0, 1] rfl
  have hD : va_D A [(z, .inr (5, [.int (nI 0), .int (nI n), .ref zk, .int (nI rc), .ref zn, .ref zs, .int (nI ta), .ref zw, .int (nI st), .ref zf, .int (bI kp), .int (nI kd), .int (nI kq), .int (nI kt), .int (nI ks), .ref zg, .int (nI al)])), (zk, .inl (G.2.1, 24, .inl (nF k)))] := hD.sub [0, 1] (by decide) rfl
  subst hw
  refine cs_i (y := bI (hp x 16)) (congrArg bI (inI_n x (by omega))) ?_
  refine lv_if_ne (tgt := 21) hx hb dX5_add_12 (by decide) (fun c_12 => ?_) (fun c_12 => ?_)
  · have c_12 := bI_n0 c_12
    refine lv_aload_n hx hb dX5_add_21 rfl (lv_at hl 0 rfl) ?_
    refine va_get (D := G.1) (ci := 5) (v := .int (nI n)) (C := RX5) (T := TX5) (N := 17) hx hb hts hin5 hown hK hP 0 rfl rfl 1 (by decide) (hts (.fieldLink RX5 39 "FaultShrinkerModel" "size" "I") (List.mem_of_getElem? (i := 2) rfl)) (fun _ h9 => h9) rfl dX5_add_22 ?_
    refine lv_bipush (v := nI 24) hx hb dX5_add_25 (by decide +kernel) ?_
    refine lv_icmp_ne (tgt := 36) hx hb dX5_add_27 (by decide) (fun c_27 => ?_) (fun c_27 => ?_)
    · have c_27 := (nI_neI (by omega) (by omega)).mp c_27
      obtain ⟨j, hj, rfl⟩ := hp_of2 (by omega) c_12
      have hc := adc_0 c_12 c_27
      refine lv_aload_n hx hb dX5_add_36 rfl (lv_at hl 0 rfl) ?_
      refine va_get (D := G.1) (ci := 5) (v := .ref zk) (C := RX5) (T := TX5) (N := 17) hx hb hts hin5 hown hK hP 0 rfl rfl 2 (by decide) (hts (.fieldLink RX5 9 "FaultShrinkerModel" "kind" "[I") (List.mem_of_getElem? (i := 3) rfl)) (fun _ h9 => h9) rfl dX5_add_37 ?_
      refine lv_aload_n hx hb dX5_add_40 rfl (lv_at hl 0 rfl) ?_
      refine va_get (D := G.1) (ci := 5) (v := .int (nI n)) (C := RX5) (T := TX5) (N := 17) hx hb hts hin5 hown hK hP 0 rfl rfl 1 (by decide) (hts (.fieldLink RX5 39 "FaultShrinkerModel" "size" "I") (List.mem_of_getElem? (i := 2) rfl)) (fun _ h9 => h9) rfl dX5_add_41 ?_
      refine lv_iload_n hx hb dX5_add_44 rfl (lv_at hl 1 rfl) ?_
      refine va_iast hx hb hK hP hD hS 1 0 rfl rfl (vp_in_nI (by omega) (by omega)) dX5_add_45 (fun H locs hP hD hS => ?_)
      rw [nF_upd _ (by omega)] at hP hD
      have hP : va_P G.1 vwCl [(z, .inr (5, [.int (nI 0), .int (nI n), .ref zk, .int (nI rc), .ref zn, .ref zs, .int (nI ta), .ref zw, .int (nI st), .ref zf, .int (bI kp), .int (nI kd), .int (nI kq), .int (nI kt), .int (nI ks), .ref zg, .int (nI al)])), (zk, .inl (G.2.1, 24, .inl (nF (va_up k n j))))] _ := hP
      have hD : va_D A [(z, .inr (5, [.int (nI 0), .int (nI n), .ref zk, .int (nI rc), .ref zn, .ref zs, .int (nI ta), .ref zw, .int (nI st), .ref zf, .int (bI kp), .int (nI kd), .int (nI kq), .int (nI kt), .int (nI ks), .ref zg, .int (nI al)])), (zk, .inl (G.2.1, 24, .inl (nF (va_up k n j))))] := hD
      refine lv_aload_n hx hb dX5_add_46 rfl (lv_at hl 0 rfl) ?_
      refine lv_dup hx hb dX5_add_47 rfl ?_
      refine va_get (D := G.1) (ci := 5) (v := .int (nI n)) (C := RX5) (T := TX5) (N := 17) hx hb hts hin5 hown hK hP 0 rfl rfl 1 (by decide) (hts (.fieldLink RX5 39 "FaultShrinkerModel" "size" "I") (List.mem_of_getElem? (i := 2) rfl)) (fun _ h9 => h9) rfl dX5_add_48 ?_
      refine lv_iconst (v := nI 1) hx hb dX5_add_51 (by decide +kernel) ?_
      refine lv_iadd hx hb dX5_add_52 ?_
      refine cs_i (y := nI (n + 1)) (nI_add _ _) ?_
      refine va_put (D := G.1) (ci := 5) (v := .int (nI (n + 1))) (ty := .int) (C := RX5) (T := TX5) (N := 17) hx hb hts hin5 tyX5 tyX5_ok nmX5 hown hK hP hD hS 0 rfl rfl 1 (by decide) (hts (.fieldLink RX5 39 "FaultShrinkerModel" "size" "I") (List.mem_of_getElem? (i := 2) rfl)) (fun _ h9 => h9) rfl (by decide +kernel) rfl rfl (Nat.le_of_ble_eq_true rfl) dX5_add_53 (fun H locs hP hD hS => ?_)
      have hP : va_P G.1 vwCl [(z, .inr (5, [.int (nI 0), .int (nI (n + 1)), .ref zk, .int (nI rc), .ref zn, .ref zs, .int (nI ta), .ref zw, .int (nI st), .ref zf, .int (bI kp), .int (nI kd), .int (nI kq), .int (nI kt), .int (nI ks), .ref zg, .int (nI al)])), (zk, .inl (G.2.1, 24, .inl (nF (va_up k n j))))] _ := hP
      have hD : va_D A [(z, .inr (5, [.int (nI 0), .int (nI (n + 1)), .ref zk, .int (nI rc), .ref zn, .ref zs, .int (nI ta), .ref zw, .int (nI st), .ref zf, .int (bI kp), .int (nI kd), .int (nI kq), .int (nI kt), .int (nI ks), .ref zg, .int (nI al)])), (zk, .inl (G.2.1, 24, .inl (nF (va_up k n j))))] := hD
      refine lv_aload_n hx hb dX5_add_56 rfl (lv_at hl 0 rfl) ?_
      refine va_get (D := G.1) (ci := 5) (v := .int (nI (n + 1))) (C := RX5) (T := TX5) (N := 17) hx hb hts hin5 hown hK hP 0 rfl rfl 1 (by decide) (hts (.fieldLink RX5 39 "FaultShrinkerModel" "size" "I") (List.mem_of_getElem? (i := 2) rfl)) (fun _ h9 => h9) rfl dX5_add_57 ?_
      exact cs_iret hx hb hr hlocks hK hP hD hS (v := nI (n + 1)) () (by first | rw [hc, if_pos rfl, vN_nI (by omega), vN_nI (by omega)] | rw [hc, if_pos rfl, vN_nI (by omega)] | (rw [hc, if_pos rfl] <;> rfl) | (rw [hc, if_neg (by decide)] <;> rfl) | (rw [hc, vN_nI (by omega), vN_nI (by omega)] <;> rfl) | (rw [hc, vN_nI (by omega)] <;> rfl) | (rw [hc] <;> rfl)) (by first | (rw [hc, vN_nI (by omega), vN_nI (by omega)] <;> rfl) | (rw [hc, vN_nI (by omega)] <;> rfl) | (rw [hc] <;> rfl)) dX5_add_60
    · have c_27 := (nI_eq (by omega) (by omega)).mp c_27
      have hc : adc x n = 2 := by unfold adc; rw [if_pos c_12, if_pos c_27]
      refine lv_aload_n hx hb dX5_add_30 rfl (lv_at hl 0 rfl) ?_
      refine lv_iconst (v := nI 2) hx hb dX5_add_31 (by decide +kernel) ?_
      refine cs_vi (As := [.int (nI 2)]) (rest := []) (wr := [(zk, .inl (G.2.1, 24, .inl (nF k)))]) ⟨hx, hb, hml, hown, hts⟩ hK hP hD hS hA (c_X5_no l G z zk zn zs zw zf zg 0 n rc ta st kp kd kq kt ks al 2) (cwV 1 hts gX5_add_X5_no rfl rfl rfl (by decide +kernel) ⟨Nat.le_of_ble_eq_true rfl, Nat.le_of_ble_eq_true rfl⟩) [0] [1] ⟨rfl, rfl, by decide, by decide, by decide⟩ 0 5 rfl rfl rfl hl.1 rfl (Nat.le_of_ble_eq_true rfl) ⟨Nat.le_of_ble_eq_true rfl, Nat.le_of_ble_eq_true rfl⟩ dX5_add_32 (fun r u H locs hw hP hD hS => ?_)
      have hP : va_P G.1 vwCl [(z, .inr (5, [.int (nI 2), .int (nI n), .ref zk, .int (nI rc), .ref zn, .ref zs, .int (nI ta), .ref zw, .int (nI st), .ref zf, .int (bI kp), .int (nI kd), .int (nI kq), .int (nI kt), .int (nI ks), .ref zg, .int (nI al)])), (zk, .inl (G.2.1, 24, .inl (nF k)))] H := hP.sub [1, 0] rfl
      have hD : va_D A [(z, .inr (5, [.int (nI 2), .int (nI n), .ref zk, .int (nI rc), .ref zn, .ref zs, .int (nI ta), .ref zw, .int (nI st), .ref zf, .int (bI kp), .int (nI kd), .int (nI kq), .int (nI kt), .int (nI ks), .ref zg, .int (nI al)])), (zk, .inl (G.2.1, 24, .inl (nF k)))] := hD.sub [1, 0] (by decide) rfl
      subst hw
      exact cs_iret hx hb hr hlocks hK hP hD hS (v := nI 0) () (by first | rw [hc, if_pos rfl, vN_nI (by omega), vN_nI (by omega)] | rw [hc, if_pos rfl, vN_nI (by omega)] | (rw [hc, if_pos rfl] <;> rfl) | (rw [hc, if_neg (by decide)] <;> rfl) | (rw [hc, vN_nI (by omega), vN_nI (by omega)] <;> rfl) | (rw [hc, vN_nI (by omega)] <;> rfl) | (rw [hc] <;> rfl)) (by first | (rw [hc, vN_nI (by omega), vN_nI (by omega)] <;> rfl) | (rw [hc, vN_nI (by omega)] <;> rfl) | (rw [hc] <;> rfl)) dX5_add_35
  · have c_12 := bI_0 c_12
    have hc : adc x n = 1 := if_neg (by rw [c_12]; decide)
    refine lv_aload_n hx hb dX5_add_15 rfl (lv_at hl 0 rfl) ?_
    refine lv_iconst (v := nI 1) hx hb dX5_add_16 (by decide +kernel) ?_
    refine cs_vi (As := [.int (nI 1)]) (rest := []) (wr := [(zk, .inl (G.2.1, 24, .inl (nF k)))]) ⟨hx, hb, hml, hown, hts⟩ hK hP hD hS hA (c_X5_no l G z zk zn zs zw zf zg 0 n rc ta st kp kd kq kt ks al 1) (cwV 1 hts gX5_add_X5_no rfl rfl rfl (by decide +kernel) ⟨Nat.le_of_ble_eq_true rfl, Nat.le_of_ble_eq_true rfl⟩) [0] [1] ⟨rfl, rfl, by decide, by decide, by decide⟩ 0 5 rfl rfl rfl hl.1 rfl (Nat.le_of_ble_eq_true rfl) ⟨Nat.le_of_ble_eq_true rfl, Nat.le_of_ble_eq_true rfl⟩ dX5_add_17 (fun r u H locs hw hP hD hS => ?_)
    have hP : va_P G.1 vwCl [(z, .inr (5, [.int (nI 1), .int (nI n), .ref zk, .int (nI rc), .ref zn, .ref zs, .int (nI ta), .ref zw, .int (nI st), .ref zf, .int (bI kp), .int (nI kd), .int (nI kq), .int (nI kt), .int (nI ks), .ref zg, .int (nI al)])), (zk, .inl (G.2.1, 24, .inl (nF k)))] H := hP.sub [1, 0] rfl
    have hD : va_D A [(z, .inr (5, [.int (nI 1), .int (nI n), .ref zk, .int (nI rc), .ref zn, .ref zs, .int (nI ta), .ref zw, .int (nI st), .ref zf, .int (bI kp), .int (nI kd), .int (nI kq), .int (nI kt), .int (nI ks), .ref zg, .int (nI al)])), (zk, .inl (G.2.1, 24, .inl (nF k)))] := hD.sub [1, 0] (by decide) rfl
    subst hw
    exact cs_iret hx hb hr hlocks hK hP hD hS (v := nI 0) () (by first | rw [hc, if_pos rfl, vN_nI (by omega), vN_nI (by omega)] | rw [hc, if_pos rfl, vN_nI (by omega)] | (rw [hc, if_pos rfl] <;> rfl) | (rw [hc, if_neg (by decide)] <;> rfl) | (rw [hc, vN_nI (by omega), vN_nI (by omega)] <;> rfl) | (rw [hc, vN_nI (by omega)] <;> rfl) | (rw [hc] <;> rfl)) (by first | (rw [hc, vN_nI (by omega), vN_nI (by omega)] <;> rfl) | (rw [hc, vN_nI (by omega)] <;> rfl) | (rw [hc] <;> rfl)) dX5_add_20

set_option maxRecDepth 100000 in
theorem in5_X5_takeOut : ∀ w ∈ wsX50, w ∈ wsX5_takeOut := by decide +kernel
set_option maxHeartbeats 4000000 in
set_option maxRecDepth 100000 in
theorem c_X5_takeOut (l : Launch) (G : cG) (z zk zn zs zw zf zg th n rc ta st : Nat) (kp : Bool) (kd kq kt ks al : Nat) (hn : n ≤ 24) (k : Nat → Nat) (j : Nat) (hj : j < n) : cMI l G yX5_takeOut wsX5_takeOut ({ frames := 0, cells := 0, slots := 0, locals := 0 }) [.ref z, .int (nI j)] [(z, .inr (5, [.int (nI th), .int (nI n), .ref zk, .int (nI rc), .ref zn, .ref zs, .int (nI ta), .ref zw, .int (nI st), .ref zf, .int (bI kp), .int (nI kd), .int (nI kq), .int (nI kt), .int (nI ks), .ref zg, .int (nI al)])), (zk, .inl (G.2.1, 24, .inl (nF k)))] (fun (r_ : Int32) (_ : Unit) => r_ = nI (k j)) (fun (_ : Unit) => [(z, .inr (5, [.int (nI th), .int (nI (n - 1)), .ref zk, .int (nI rc), .ref zn, .ref zs, .int (nI ta), .ref zw, .int (nI st), .ref zf, .int (bI kp), .int (nI kd), .int (nI kq), .int (nI kt), .int (nI ks), .ref zg, .int (nI al)])), (zk, .inl (G.2.1, 24, .inl (nF (tkt k j (n - 1)))))]) := by
  refine cs_sI (own := RX5) (cc := cX5_takeOut) (maxL := 4) (ret := (some .int)) (by decide) rfl rfl (Nat.le_of_ble_eq_true rfl) ?_
  intro p e s m below meth c A hx hb hr hml hts hown hlocks hinit hA hK hP hD hS ls hl
  have hin5 := in5_X5_takeOut
  have hl : lv_has ls 4 [(0, .ref z), (1, .int (nI j))] := hl
  refine lv_aload_n hx hb dX5_takeOut_0 rfl (lv_at hl 0 rfl) ?_
  refine va_get (D := G.1) (ci := 5) (v := .ref zk) (C := RX5) (T := TX5) (N := 17) hx hb hts hin5 hown hK hP 0 rfl rfl 2 (by decide) (hts (.fieldLink RX5 9 "FaultShrinkerModel" "kind" "[I") (List.mem_of_getElem? (i := 1) rfl)) (fun _ h9 => h9) rfl dX5_takeOut_1 ?_
  refine lv_iload_n hx hb dX5_takeOut_4 rfl (lv_at hl 1 rfl) ?_
  refine va_iald hx hb hK hP 1 0 rfl rfl (vp_in_nI (by omega) (by omega)) dX5_takeOut_5 ?_
  refine cs_i (y := nI (k j)) (nF_at _ (by omega)) ?_
  refine lv_istore_n (lv' := [(2, .int (nI (k j))), (0, .ref z), (1, .int (nI j))]) hx hb dX5_takeOut_6 rfl hl (by decide) rfl (fun ls hl => ?_)
  refine lv_iload_n hx hb dX5_takeOut_7 rfl (lv_at hl 2 rfl) ?_
  refine lv_istore_n (lv' := [(3, .int (nI j)), (2, .int (nI (k j))), (0, .ref z), (1, .int (nI j))]) hx hb dX5_takeOut_8 rfl hl (by decide) rfl (fun ls hl => ?_)
  have e9 : nF k = nF (tkt k j j) := by rw [tkt_0]
  rw [e9] at hP hD
  have hP : va_P G.1 vwCl [(z, .inr (5, [.int (nI th), .int (nI n), .ref zk, .int (nI rc), .ref zn, .ref zs, .int (nI ta), .ref zw, .int (nI st), .ref zf, .int (bI kp), .int (nI kd), .int (nI kq), .int (nI kt), .int (nI ks), .ref zg, .int (nI al)])), (zk, .inl (G.2.1, 24, .inl (nF (tkt k j j))))] _ := hP
  have hD : va_D A [(z, .inr (5, [.int (nI th), .int (nI n), .ref zk, .int (nI rc), .ref zn, .ref zs, .int (nI ta), .ref zw, .int (nI st), .ref zf, .int (bI kp), .int (nI kd), .int (nI kq), .int (nI kt), .int (nI ks), .ref zg, .int (nI al)])), (zk, .inl (G.2.1, 24, .inl (nF (tkt k j j))))] := hD
  refine cs_loop (G := G) (nL := 4) (σ := Nat) (fun (i : Nat) => n - i) (fun (i : Nat) => j ≤ i ∧ i + 1 ≤ n) (fun (i : Nat) => [(z, .inr (5, [.int (nI th), .int (nI n), .ref zk, .int (nI rc), .ref zn, .ref zs, .int (nI ta), .ref zw, .int (nI st), .ref zf, .int (bI kp), .int (nI kd), .int (nI kq), .int (nI kt), .int (nI ks), .ref zg, .int (nI al)])), (zk, .inl (G.2.1, 24, .inl (nF (tkt k j i))))]) (fun (i : Nat) => [(0, .ref z), (1, .int (nI j)), (2, .int (nI (k j))), (3, .int (nI i))]) ?_ (j) (by show j ≤ j ∧ j + 1 ≤ n; omega) (hP.sub (ws' := [(z, .inr (5, [.int (nI th), .int (nI n), .ref zk, .int (nI rc), .ref zn, .ref zs, .int (nI ta), .ref zw, .int (nI st), .ref zf, .int (bI kp), .int (nI kd), .int (nI kq), .int (nI kt), .int (nI ks), .ref zg, .int (nI al)])), (zk, .inl (G.2.1, 24, .inl (nF (tkt k j j))))]) [0, 1] rfl) (hD.sub (ws' := [(z, .inr (5, [.int (nI th), .int (nI n), .ref zk, .int (nI rc), .ref zn, .ref zs, .int (nI ta), .ref zw, .int (nI st), .ref zf, .int (bI kp), .int (nI kd), .int (nI kq), .int (nI kt), .int (nI ks), .ref zg, .int (nI al)])), (zk, .inl (G.2.1, 24, .inl (nF (tkt k j j))))]) [0, 1] (by decide) rfl) hS (lv_sub (l' := [(0, .ref z), (1, .int (nI j)), (2, .int (nI (k j))), (3, .int (nI j))]) hl [2, 3, 1, 0] rfl)
  rintro i hinv ih H locs ls hP hD hS hl
  have hP : va_P G.1 vwCl [(z, .inr (5, [.int (nI th), .int (nI n), .ref zk, .int (nI rc), .ref zn, .ref zs, .int (nI ta), .ref zw, .int (nI st), .ref zf, .int (bI kp), .int (nI kd), .int (nI kq), .int (nI kt), .int (nI ks), .ref zg, .int (nI al)])), (zk, .inl (G.2.1, 24, .inl (nF (tkt k j i))))] H := hP
  have hD : va_D A [(z, .inr (5, [.int (nI th), .int (nI n), .ref zk, .int (nI rc), .ref zn, .ref zs, .int (nI ta), .ref zw, .int (nI st), .ref zf, .int (bI kp), .int (nI kd), .int (nI kq), .int (nI kt), .int (nI ks), .ref zg, .int (nI al)])), (zk, .inl (G.2.1, 24, .inl (nF (tkt k j i))))] := hD
  have hl : lv_has ls 4 [(0, .ref z), (1, .int (nI j)), (2, .int (nI (k j))), (3, .int (nI i))] := hl
  have hinv : j ≤ i ∧ i + 1 ≤ n := hinv
  refine lv_iload_n hx hb dX5_takeOut_9 rfl (lv_at hl 3 rfl) ?_
  refine lv_iconst (v := nI 1) hx hb dX5_takeOut_10 (by decide +kernel) ?_
  refine lv_iadd hx hb dX5_takeOut_11 ?_
  refine cs_i (y := nI (i + 1)) (nI_add _ _) ?_
  refine lv_aload_n hx hb dX5_takeOut_12 rfl (lv_at hl 0 rfl) ?_
  refine va_get (D := G.1) (ci := 5) (v := .int (nI n)) (C := RX5) (T := TX5) (N := 17) hx hb hts hin5 hown hK hP 0 rfl rfl 1 (by decide) (hts (.fieldLink RX5 39 "FaultShrinkerModel" "size" "I") (List.mem_of_getElem? (i := 2) rfl)) (fun _ h9 => h9) rfl dX5_takeOut_13 ?_
  refine lv_icmp_ge (tgt := 39) hx hb dX5_takeOut_16 (by decide) (fun c_16 => ?_) (fun c_16 => ?_)
  · have c_16 := (nI_leI (by omega) (by omega)).mp c_16
    have e7 : i = n - 1 := by omega
    try rw [e7] at hP
    try rw [e7] at hD
    try rw [e7] at hl
    refine lv_aload_n hx hb dX5_takeOut_39 rfl (lv_at hl 0 rfl) ?_
    refine lv_dup hx hb dX5_takeOut_40 rfl ?_
    refine va_get (D := G.1) (ci := 5) (v := .int (nI n)) (C := RX5) (T := TX5) (N := 17) hx hb hts hin5 hown hK hP 0 rfl rfl 1 (by decide) (hts (.fieldLink RX5 39 "FaultShrinkerModel" "size" "I") (List.mem_of_getElem? (i := 2) rfl)) (fun _ h9 => h9) rfl dX5_takeOut_41 ?_
    refine lv_iconst (v := nI 1) hx hb dX5_takeOut_44 (by decide +kernel) ?_
    refine lv_isub hx hb dX5_takeOut_45 ?_
    refine cs_i (y := nI (n - 1)) (pk_sub (by omega)) ?_
    refine va_put (D := G.1) (ci := 5) (v := .int (nI (n - 1))) (ty := .int) (C := RX5) (T := TX5) (N := 17) hx hb hts hin5 tyX5 tyX5_ok nmX5 hown hK hP hD hS 0 rfl rfl 1 (by decide) (hts (.fieldLink RX5 39 "FaultShrinkerModel" "size" "I") (List.mem_of_getElem? (i := 2) rfl)) (fun _ h9 => h9) rfl (by decide +kernel) rfl rfl (Nat.le_of_ble_eq_true rfl) dX5_takeOut_46 (fun H locs hP hD hS => ?_)
    have hP : va_P G.1 vwCl [(z, .inr (5, [.int (nI th), .int (nI (n - 1)), .ref zk, .int (nI rc), .ref zn, .ref zs, .int (nI ta), .ref zw, .int (nI st), .ref zf, .int (bI kp), .int (nI kd), .int (nI kq), .int (nI kt), .int (nI ks), .ref zg, .int (nI al)])), (zk, .inl (G.2.1, 24, .inl (nF (tkt k j (n - 1)))))] _ := hP
    have hD : va_D A [(z, .inr (5, [.int (nI th), .int (nI (n - 1)), .ref zk, .int (nI rc), .ref zn, .ref zs, .int (nI ta), .ref zw, .int (nI st), .ref zf, .int (bI kp), .int (nI kd), .int (nI kq), .int (nI kt), .int (nI ks), .ref zg, .int (nI al)])), (zk, .inl (G.2.1, 24, .inl (nF (tkt k j (n - 1)))))] := hD
    refine lv_iload_n hx hb dX5_takeOut_49 rfl (lv_at hl 2 rfl) ?_
    exact cs_iret hx hb hr hlocks hK hP hD hS (v := nI (k j)) () (by first | rfl | assumption) (rfl) dX5_takeOut_50
  · have c_16 := mt (nI_leI (by omega) (by omega)).mpr c_16
    refine lv_aload_n hx hb dX5_takeOut_19 rfl (lv_at hl 0 rfl) ?_
    refine va_get (D := G.1) (ci := 5) (v := .ref zk) (C := RX5) (T := TX5) (N := 17) hx hb hts hin5 hown hK hP 0 rfl rfl 2 (by decide) (hts (.fieldLink RX5 9 "FaultShrinkerModel" "kind" "[I") (List.mem_of_getElem? (i := 1) rfl)) (fun _ h9 => h9) rfl dX5_takeOut_20 ?_
    refine lv_iload_n hx hb dX5_takeOut_23 rfl (lv_at hl 3 rfl) ?_
    refine lv_aload_n hx hb dX5_takeOut_24 rfl (lv_at hl 0 rfl) ?_
    refine va_get (D := G.1) (ci := 5) (v := .ref zk) (C := RX5) (T := TX5) (N := 17) hx hb hts hin5 hown hK hP 0 rfl rfl 2 (by decide) (hts (.fieldLink RX5 9 "FaultShrinkerModel" "kind" "[I") (List.mem_of_getElem? (i := 1) rfl)) (fun _ h9 => h9) rfl dX5_takeOut_25 ?_
    refine lv_iload_n hx hb dX5_takeOut_28 rfl (lv_at hl 3 rfl) ?_
    refine lv_iconst (v := nI 1) hx hb dX5_takeOut_29 (by decide +kernel) ?_
    refine lv_iadd hx hb dX5_takeOut_30 ?_
    refine cs_i (y := nI (i + 1)) (nI_add _ _) ?_
    refine va_iald hx hb hK hP 1 0 rfl rfl (vp_in_nI (by omega) (by omega)) dX5_takeOut_31 ?_
    refine cs_i (y := nI ((tkt k j i) (i + 1))) (nF_at _ (by omega)) ?_
    refine va_iast hx hb hK hP hD hS 1 0 rfl rfl (vp_in_nI (by omega) (by omega)) dX5_takeOut_32 (fun H locs hP hD hS => ?_)
    rw [nF_upd _ (by omega)] at hP hD
    have hP : va_P G.1 vwCl [(z, .inr (5, [.int (nI th), .int (nI n), .ref zk, .int (nI rc), .ref zn, .ref zs, .int (nI ta), .ref zw, .int (nI st), .ref zf, .int (bI kp), .int (nI kd), .int (nI kq), .int (nI kt), .int (nI ks), .ref zg, .int (nI al)])), (zk, .inl (G.2.1, 24, .inl (nF (va_up (tkt k j i) i ((tkt k j i) (i + 1))))))] _ := hP
    have hD : va_D A [(z, .inr (5, [.int (nI th), .int (nI n), .ref zk, .int (nI rc), .ref zn, .ref zs, .int (nI ta), .ref zw, .int (nI st), .ref zf, .int (bI kp), .int (nI kd), .int (nI kq), .int (nI kt), .int (nI ks), .ref zg, .int (nI al)])), (zk, .inl (G.2.1, 24, .inl (nF (va_up (tkt k j i) i ((tkt k j i) (i + 1))))))] := hD
    have e9 : nF (va_up (tkt k j i) i ((tkt k j i) (i + 1))) = nF (tkt k j (i + 1)) := congrArg nF (tkt_s k hinv.1)
    rw [e9] at hP hD
    have hP : va_P G.1 vwCl [(z, .inr (5, [.int (nI th), .int (nI n), .ref zk, .int (nI rc), .ref zn, .ref zs, .int (nI ta), .ref zw, .int (nI st), .ref zf, .int (bI kp), .int (nI kd), .int (nI kq), .int (nI kt), .int (nI ks), .ref zg, .int (nI al)])), (zk, .inl (G.2.1, 24, .inl (nF (tkt k j (i + 1)))))] _ := hP
    have hD : va_D A [(z, .inr (5, [.int (nI th), .int (nI n), .ref zk, .int (nI rc), .ref zn, .ref zs, .int (nI ta), .ref zw, .int (nI st), .ref zf, .int (bI kp), .int (nI kd), .int (nI kq), .int (nI kt), .int (nI ks), .ref zg, .int (nI al)])), (zk, .inl (G.2.1, 24, .inl (nF (tkt k j (i + 1)))))] := hD
    refine lv_iinc (v := nI (i + 1)) (lv' := [(3, .int (nI (i + 1))), (0, .ref z), (1, .int (nI j)), (2, .int (nI (k j)))]) hx hb dX5_takeOut_33 hl (k := 3) rfl ((nI_succ i).symm) (by decide) rfl (fun ls hl => ?_)
    refine lv_goto (tgt := 9) hx hb dX5_takeOut_36 (by decide) ?_
    exact ih (i + 1) (by show n - (i + 1) < n - i; omega) (by show j ≤ (i + 1) ∧ (i + 1) + 1 ≤ n; omega) _ _ _ (hP.sub (ws' := [(z, .inr (5, [.int (nI th), .int (nI n), .ref zk, .int (nI rc), .ref zn, .ref zs, .int (nI ta), .ref zw, .int (nI st), .ref zf, .int (bI kp), .int (nI kd), .int (nI kq), .int (nI kt), .int (nI ks), .ref zg, .int (nI al)])), (zk, .inl (G.2.1, 24, .inl (nF (tkt k j (i + 1)))))]) [0, 1] rfl) (hD.sub (ws' := [(z, .inr (5, [.int (nI th), .int (nI n), .ref zk, .int (nI rc), .ref zn, .ref zs, .int (nI ta), .ref zw, .int (nI st), .ref zf, .int (bI kp), .int (nI kd), .int (nI kq), .int (nI kt), .int (nI ks), .ref zg, .int (nI al)])), (zk, .inl (G.2.1, 24, .inl (nF (tkt k j (i + 1)))))]) [0, 1] (by decide) rfl) hS (lv_sub (l' := [(0, .ref z), (1, .int (nI j)), (2, .int (nI (k j))), (3, .int (nI (i + 1)))]) hl [1, 2, 3, 0] rfl)

set_option maxRecDepth 100000 in
theorem in5_X5_drop : ∀ w ∈ wsX50, w ∈ wsX5_drop := by decide +kernel
set_option maxHeartbeats 4000000 in
set_option maxRecDepth 100000 in
theorem c_X5_drop (l : Launch) (G : cG) (z zk zn zs zw zf zg th n rc ta st : Nat) (kp : Bool) (kd kq kt ks al : Nat) (hn : n ≤ 24) (hrc : rc ≤ 6) (k : Nat → Nat) (x : Int32) : cMI l G yX5_drop wsX5_drop ({ frames := 2, cells := 0, slots := 0, locals := 43 }) [.ref z, .int x] [(z, .inr (5, [.int (nI th), .int (nI n), .ref zk, .int (nI rc), .ref zn, .ref zs, .int (nI ta), .ref zw, .int (nI st), .ref zf, .int (bI kp), .int (nI kd), .int (nI kq), .int (nI kt), .int (nI ks), .ref zg, .int (nI al)])), (zk, .inl (G.2.1, 24, .inl (nF k)))] (fun (r_ : Int32) (_ : Unit) => r_ = nI (if drc x n = 0 then k (vN x) else 0)) (fun (_ : Unit) => [(z, .inr (5, [.int (nI (drc x n)), .int (nI (if drc x n = 0 then n - 1 else n)), .ref zk, .int (nI rc), .ref zn, .ref zs, .int (nI ta), .ref zw, .int (nI st), .ref zf, .int (bI kp), .int (nI kd), .int (nI kq), .int (nI kt), .int (nI ks), .ref zg, .int (nI al)])), (zk, .inl (G.2.1, 24, .inl (nF (if drc x n = 0 then tkt k (vN x) (n - 1) else k))))]) := by
  refine cs_sI (own := RX5) (cc := cX5_drop) (maxL := 2) (ret := (some .int)) (by decide) rfl rfl (Nat.le_of_ble_eq_true rfl) ?_
  intro p e s m below meth c A hx hb hr hml hts hown hlocks hinit hA hK hP hD hS ls hl
  have hin5 := in5_X5_drop
  have hl : lv_has ls 2 [(0, .ref z), (1, .int x)] := hl
  refine lv_aload_n hx hb dX5_drop_0 rfl (lv_at hl 0 rfl) ?_
  refine lv_iconst (v := nI 0) hx hb dX5_drop_1 (by decide +kernel) ?_
  refine va_put (D := G.1) (ci := 5) (v := .int (nI 0)) (ty := .int) (C := RX5) (T := TX5) (N := 17) hx hb hts hin5 tyX5 tyX5_ok nmX5 hown hK hP hD hS 0 rfl rfl 0 (by decide) (hts (.fieldLink RX5 28 "FaultShrinkerModel" "thrown" "I") (List.mem_of_getElem? (i := 1) rfl)) (fun _ h9 => h9) rfl (by decide +kernel) rfl rfl (Nat.le_of_ble_eq_true rfl) dX5_drop_2 (fun H locs hP hD hS => ?_)
  have hP : va_P G.1 vwCl [(z, .inr (5, [.int (nI 0), .int (nI n), .ref zk, .int (nI rc), .ref zn, .ref zs, .int (nI ta), .ref zw, .int (nI st), .ref zf, .int (bI kp), .int (nI kd), .int (nI kq), .int (nI kt), .int (nI ks), .ref zg, .int (nI al)])), (zk, .inl (G.2.1, 24, .inl (nF k)))] _ := hP
  have hD : va_D A [(z, .inr (5, [.int (nI 0), .int (nI n), .ref zk, .int (nI rc), .ref zn, .ref zs, .int (nI ta), .ref zw, .int (nI st), .ref zf, .int (bI kp), .int (nI kd), .int (nI kq), .int (nI kt), .int (nI ks), .ref zg, .int (nI al)])), (zk, .inl (G.2.1, 24, .inl (nF k)))] := hD
  refine lv_aload_n hx hb dX5_drop_5 rfl (lv_at hl 0 rfl) ?_
  refine lv_iload_n hx hb dX5_drop_6 rfl (lv_at hl 1 rfl) ?_
  refine cs_vi (As := [.int x]) (rest := []) (wr := [(zk, .inl (G.2.1, 24, .inl (nF k)))]) ⟨hx, hb, hml, hown, hts⟩ hK hP hD hS hA (c_X5_isPlace l G z zk zn zs zw zf zg 0 n rc ta st kp kd kq kt ks al (by first | assumption | omega) (by first | assumption | omega) x) (cwV 1 hts gX5_drop_X5_isPlace rfl rfl rfl (by decide +kernel) ⟨Nat.le_of_ble_eq_true rfl, Nat.le_of_ble_eq_true rfl⟩) [0] [1] ⟨rfl, rfl, by decide, by decide, by decide⟩ 0 5 rfl rfl rfl hl.1 rfl (Nat.le_of_ble_eq_true rfl) ⟨Nat.le_of_ble_eq_true rfl, Nat.le_of_ble_eq_true rfl⟩ dX5_drop_7 (fun r u H locs hw hP hD hS => ?_)
  have hP : va_P G.1 vwCl [(z, .inr (5, [.int (nI 0), .int (nI n), .ref zk, .int (nI rc), .ref zn, .ref zs, .int (nI ta), .ref zw, .int (nI st), .ref zf, .int (bI kp), .int (nI kd), .int (nI kq), .int (nI kt), .int (nI ks), .ref zg, .int (nI al)])), (zk, .inl (G.2.1, 24, .inl (nF k)))] H := hP.sub [1, 0] rfl
  have hD : va_D A [(z, .inr (5, [.int (nI 0), .int (nI n), .ref zk, .int (nI rc), .ref zn, .ref zs, .int (nI ta), .ref zw, .int (nI st), .ref zf, .int (bI kp), .int (nI kd), .int (nI kq), .int (nI kt), .int (nI ks), .ref zg, .int (nI al)])), (zk, .inl (G.2.1, 24, .inl (nF k)))] := hD.sub [1, 0] (by decide) rfl
  subst hw
  refine lv_if_eq (tgt := 21) hx hb dX5_drop_10 (by decide) (fun c_10 => ?_) (fun c_10 => ?_)
  · have c_10 := bI_0 c_10
    have hc : drc x n = 1 := if_neg (by rw [c_10]; decide)
    refine lv_aload_n hx hb dX5_drop_21 rfl (lv_at hl 0 rfl) ?_
    refine lv_iconst (v := nI 1) hx hb dX5_drop_22 (by decide +kernel) ?_
    refine cs_vi (As := [.int (nI 1)]) (rest := []) (wr := [(zk, .inl (G.2.1, 24, .inl (nF k)))]) ⟨hx, hb, hml, hown, hts⟩ hK hP hD hS hA (c_X5_no l G z zk zn zs zw zf zg 0 n rc ta st kp kd kq kt ks al 1) (cwV 1 hts gX5_drop_X5_no rfl rfl rfl (by decide +kernel) ⟨Nat.le_of_ble_eq_true rfl, Nat.le_of_ble_eq_true rfl⟩) [0] [1] ⟨rfl, rfl, by decide, by decide, by decide⟩ 0 5 rfl rfl rfl hl.1 rfl (Nat.le_of_ble_eq_true rfl) ⟨Nat.le_of_ble_eq_true rfl, Nat.le_of_ble_eq_true rfl⟩ dX5_drop_23 (fun r u H locs hw hP hD hS => ?_)
    have hP : va_P G.1 vwCl [(z, .inr (5, [.int (nI 1), .int (nI n), .ref zk, .int (nI rc), .ref zn, .ref zs, .int (nI ta), .ref zw, .int (nI st), .ref zf, .int (bI kp), .int (nI kd), .int (nI kq), .int (nI kt), .int (nI ks), .ref zg, .int (nI al)])), (zk, .inl (G.2.1, 24, .inl (nF k)))] H := hP.sub [1, 0] rfl
    have hD : va_D A [(z, .inr (5, [.int (nI 1), .int (nI n), .ref zk, .int (nI rc), .ref zn, .ref zs, .int (nI ta), .ref zw, .int (nI st), .ref zf, .int (bI kp), .int (nI kd), .int (nI kq), .int (nI kt), .int (nI ks), .ref zg, .int (nI al)])), (zk, .inl (G.2.1, 24, .inl (nF k)))] := hD.sub [1, 0] (by decide) rfl
    subst hw
    exact cs_iret hx hb hr hlocks hK hP hD hS (v := nI 0) () (by first | rw [hc, if_pos rfl, vN_nI (by omega), vN_nI (by omega)] | rw [hc, if_pos rfl, vN_nI (by omega)] | (rw [hc, if_pos rfl] <;> rfl) | (rw [hc, if_neg (by decide)] <;> rfl) | (rw [hc, vN_nI (by omega), vN_nI (by omega)] <;> rfl) | (rw [hc, vN_nI (by omega)] <;> rfl) | (rw [hc] <;> rfl)) (by first | (rw [hc, vN_nI (by omega), vN_nI (by omega)] <;> rfl) | (rw [hc, vN_nI (by omega)] <;> rfl) | (rw [hc] <;> rfl)) dX5_drop_26
  · have c_10 := bI_n0 c_10
    obtain ⟨j, hj, rfl⟩ := hp_of2 (by omega) c_10
    have hc : drc (nI j) n = 0 := if_pos c_10
    refine lv_aload_n hx hb dX5_drop_13 rfl (lv_at hl 0 rfl) ?_
    refine lv_iload_n hx hb dX5_drop_14 rfl (lv_at hl 1 rfl) ?_
    refine cs_vi (As := [.int (nI j)]) (rest := []) (wr := []) ⟨hx, hb, hml, hown, hts⟩ hK hP hD hS hA (c_X5_takeOut l G z zk zn zs zw zf zg 0 n rc ta st kp kd kq kt ks al (by first | assumption | omega) k j (by first | assumption | omega)) (cwV 1 hts gX5_drop_X5_takeOut rfl rfl rfl (by decide +kernel) ⟨Nat.le_of_ble_eq_true rfl, Nat.le_of_ble_eq_true rfl⟩) [0, 1] [] ⟨rfl, rfl, by decide, by decide, by decide⟩ 0 5 rfl rfl rfl hl.1 rfl (Nat.le_of_ble_eq_true rfl) ⟨Nat.le_of_ble_eq_true rfl, Nat.le_of_ble_eq_true rfl⟩ dX5_drop_15 (fun r u H locs hw hP hD hS => ?_)
    have hP : va_P G.1 vwCl [(z, .inr (5, [.int (nI 0), .int (nI (n - 1)), .ref zk, .int (nI rc), .ref zn, .ref zs, .int (nI ta), .ref zw, .int (nI st), .ref zf, .int (bI kp), .int (nI kd), .int (nI kq), .int (nI kt), .int (nI ks), .ref zg, .int (nI al)])), (zk, .inl (G.2.1, 24, .inl (nF (tkt k j (n - 1)))))] H := hP.sub [0, 1] rfl
    have hD : va_D A [(z, .inr (5, [.int (nI 0), .int (nI (n - 1)), .ref zk, .int (nI rc), .ref zn, .ref zs, .int (nI ta), .ref zw, .int (nI st), .ref zf, .int (bI kp), .int (nI kd), .int (nI kq), .int (nI kt), .int (nI ks), .ref zg, .int (nI al)])), (zk, .inl (G.2.1, 24, .inl (nF (tkt k j (n - 1)))))] := hD.sub [0, 1] (by decide) rfl
    subst hw
    refine lv_goto (tgt := 26) hx hb dX5_drop_18 (by decide) ?_
    exact cs_iret hx hb hr hlocks hK hP hD hS (v := nI (k j)) () (by first | rw [hc, if_pos rfl, vN_nI (by omega), vN_nI (by omega)] | rw [hc, if_pos rfl, vN_nI (by omega)] | (rw [hc, if_pos rfl] <;> rfl) | (rw [hc, if_neg (by decide)] <;> rfl) | (rw [hc, vN_nI (by omega), vN_nI (by omega)] <;> rfl) | (rw [hc, vN_nI (by omega)] <;> rfl) | (rw [hc] <;> rfl)) (by first | (rw [hc, vN_nI (by omega), vN_nI (by omega)] <;> rfl) | (rw [hc, vN_nI (by omega)] <;> rfl) | (rw [hc] <;> rfl)) dX5_drop_26

set_option maxRecDepth 100000 in
theorem in5_X5_kind : ∀ w ∈ wsX50, w ∈ wsX5_kind := by decide +kernel
set_option maxHeartbeats 4000000 in
set_option maxRecDepth 100000 in
theorem c_X5_kind (l : Launch) (G : cG) (z zk zn zs zw zf zg th n rc ta st : Nat) (kp : Bool) (kd kq kt ks al : Nat) (hn : n ≤ 24) (hrc : rc ≤ 6) (k : Nat → Nat) (x : Int32) : cMI l G yX5_kind wsX5_kind ({ frames := 2, cells := 0, slots := 0, locals := 43 }) [.ref z, .int x] [(z, .inr (5, [.int (nI th), .int (nI n), .ref zk, .int (nI rc), .ref zn, .ref zs, .int (nI ta), .ref zw, .int (nI st), .ref zf, .int (bI kp), .int (nI kd), .int (nI kq), .int (nI kt), .int (nI ks), .ref zg, .int (nI al)])), (zk, .inl (G.2.1, 24, .inl (nF k)))] (fun (r_ : Int32) (_ : Unit) => r_ = nI (if drc x n = 0 then k (vN x) else 0)) (fun (_ : Unit) => [(z, .inr (5, [.int (nI (drc x n)), .int (nI n), .ref zk, .int (nI rc), .ref zn, .ref zs, .int (nI ta), .ref zw, .int (nI st), .ref zf, .int (bI kp), .int (nI kd), .int (nI kq), .int (nI kt), .int (nI ks), .ref zg, .int (nI al)])), (zk, .inl (G.2.1, 24, .inl (nF k)))]) := by
  refine cs_sI (own := RX5) (cc := cX5_kind) (maxL := 2) (ret := (some .int)) (by decide) rfl rfl (Nat.le_of_ble_eq_true rfl) ?_
  intro p e s m below meth c A hx hb hr hml hts hown hlocks hinit hA hK hP hD hS ls hl
  have hin5 := in5_X5_kind
  have hl : lv_has ls 2 [(0, .ref z), (1, .int x)] := hl
  refine lv_aload_n hx hb dX5_kind_0 rfl (lv_at hl 0 rfl) ?_
  refine lv_iconst (v := nI 0) hx hb dX5_kind_1 (by decide +kernel) ?_
  refine va_put (D := G.1) (ci := 5) (v := .int (nI 0)) (ty := .int) (C := RX5) (T := TX5) (N := 17) hx hb hts hin5 tyX5 tyX5_ok nmX5 hown hK hP hD hS 0 rfl rfl 0 (by decide) (hts (.fieldLink RX5 28 "FaultShrinkerModel" "thrown" "I") (List.mem_of_getElem? (i := 1) rfl)) (fun _ h9 => h9) rfl (by decide +kernel) rfl rfl (Nat.le_of_ble_eq_true rfl) dX5_kind_2 (fun H locs hP hD hS => ?_)
  have hP : va_P G.1 vwCl [(z, .inr (5, [.int (nI 0), .int (nI n), .ref zk, .int (nI rc), .ref zn, .ref zs, .int (nI ta), .ref zw, .int (nI st), .ref zf, .int (bI kp), .int (nI kd), .int (nI kq), .int (nI kt), .int (nI ks), .ref zg, .int (nI al)])), (zk, .inl (G.2.1, 24, .inl (nF k)))] _ := hP
  have hD : va_D A [(z, .inr (5, [.int (nI 0), .int (nI n), .ref zk, .int (nI rc), .ref zn, .ref zs, .int (nI ta), .ref zw, .int (nI st), .ref zf, .int (bI kp), .int (nI kd), .int (nI kq), .int (nI kt), .int (nI ks), .ref zg, .int (nI al)])), (zk, .inl (G.2.1, 24, .inl (nF k)))] := hD
  refine lv_aload_n hx hb dX5_kind_5 rfl (lv_at hl 0 rfl) ?_
  refine lv_iload_n hx hb dX5_kind_6 rfl (lv_at hl 1 rfl) ?_
  refine cs_vi (As := [.int x]) (rest := []) (wr := [(zk, .inl (G.2.1, 24, .inl (nF k)))]) ⟨hx, hb, hml, hown, hts⟩ hK hP hD hS hA (c_X5_isPlace l G z zk zn zs zw zf zg 0 n rc ta st kp kd kq kt ks al (by first | assumption | omega) (by first | assumption | omega) x) (cwV 1 hts gX5_kind_X5_isPlace rfl rfl rfl (by decide +kernel) ⟨Nat.le_of_ble_eq_true rfl, Nat.le_of_ble_eq_true rfl⟩) [0] [1] ⟨rfl, rfl, by decide, by decide, by decide⟩ 0 5 rfl rfl rfl hl.1 rfl (Nat.le_of_ble_eq_true rfl) ⟨Nat.le_of_ble_eq_true rfl, Nat.le_of_ble_eq_true rfl⟩ dX5_kind_7 (fun r u H locs hw hP hD hS => ?_)
  have hP : va_P G.1 vwCl [(z, .inr (5, [.int (nI 0), .int (nI n), .ref zk, .int (nI rc), .ref zn, .ref zs, .int (nI ta), .ref zw, .int (nI st), .ref zf, .int (bI kp), .int (nI kd), .int (nI kq), .int (nI kt), .int (nI ks), .ref zg, .int (nI al)])), (zk, .inl (G.2.1, 24, .inl (nF k)))] H := hP.sub [1, 0] rfl
  have hD : va_D A [(z, .inr (5, [.int (nI 0), .int (nI n), .ref zk, .int (nI rc), .ref zn, .ref zs, .int (nI ta), .ref zw, .int (nI st), .ref zf, .int (bI kp), .int (nI kd), .int (nI kq), .int (nI kt), .int (nI ks), .ref zg, .int (nI al)])), (zk, .inl (G.2.1, 24, .inl (nF k)))] := hD.sub [1, 0] (by decide) rfl
  subst hw
  refine lv_if_eq (tgt := 22) hx hb dX5_kind_10 (by decide) (fun c_10 => ?_) (fun c_10 => ?_)
  · have c_10 := bI_0 c_10
    have hc : drc x n = 1 := if_neg (by rw [c_10]; decide)
    refine lv_aload_n hx hb dX5_kind_22 rfl (lv_at hl 0 rfl) ?_
    refine lv_iconst (v := nI 1) hx hb dX5_kind_23 (by decide +kernel) ?_
    refine cs_vi (As := [.int (nI 1)]) (rest := []) (wr := [(zk, .inl (G.2.1, 24, .inl (nF k)))]) ⟨hx, hb, hml, hown, hts⟩ hK hP hD hS hA (c_X5_no l G z zk zn zs zw zf zg 0 n rc ta st kp kd kq kt ks al 1) (cwV 1 hts gX5_kind_X5_no rfl rfl rfl (by decide +kernel) ⟨Nat.le_of_ble_eq_true rfl, Nat.le_of_ble_eq_true rfl⟩) [0] [1] ⟨rfl, rfl, by decide, by decide, by decide⟩ 0 5 rfl rfl rfl hl.1 rfl (Nat.le_of_ble_eq_true rfl) ⟨Nat.le_of_ble_eq_true rfl, Nat.le_of_ble_eq_true rfl⟩ dX5_kind_24 (fun r u H locs hw hP hD hS => ?_)
    have hP : va_P G.1 vwCl [(z, .inr (5, [.int (nI 1), .int (nI n), .ref zk, .int (nI rc), .ref zn, .ref zs, .int (nI ta), .ref zw, .int (nI st), .ref zf, .int (bI kp), .int (nI kd), .int (nI kq), .int (nI kt), .int (nI ks), .ref zg, .int (nI al)])), (zk, .inl (G.2.1, 24, .inl (nF k)))] H := hP.sub [1, 0] rfl
    have hD : va_D A [(z, .inr (5, [.int (nI 1), .int (nI n), .ref zk, .int (nI rc), .ref zn, .ref zs, .int (nI ta), .ref zw, .int (nI st), .ref zf, .int (bI kp), .int (nI kd), .int (nI kq), .int (nI kt), .int (nI ks), .ref zg, .int (nI al)])), (zk, .inl (G.2.1, 24, .inl (nF k)))] := hD.sub [1, 0] (by decide) rfl
    subst hw
    exact cs_iret hx hb hr hlocks hK hP hD hS (v := nI 0) () (by first | rw [hc, if_pos rfl, vN_nI (by omega), vN_nI (by omega)] | rw [hc, if_pos rfl, vN_nI (by omega)] | (rw [hc, if_pos rfl] <;> rfl) | (rw [hc, if_neg (by decide)] <;> rfl) | (rw [hc, vN_nI (by omega), vN_nI (by omega)] <;> rfl) | (rw [hc, vN_nI (by omega)] <;> rfl) | (rw [hc] <;> rfl)) (by first | (rw [hc, vN_nI (by omega), vN_nI (by omega)] <;> rfl) | (rw [hc, vN_nI (by omega)] <;> rfl) | (rw [hc] <;> rfl)) dX5_kind_27
  · have c_10 := bI_n0 c_10
    obtain ⟨j, hj, rfl⟩ := hp_of2 (by omega) c_10
    have hc : drc (nI j) n = 0 := if_pos c_10
    refine lv_aload_n hx hb dX5_kind_13 rfl (lv_at hl 0 rfl) ?_
    refine va_get (D := G.1) (ci := 5) (v := .ref zk) (C := RX5) (T := TX5) (N := 17) hx hb hts hin5 hown hK hP 0 rfl rfl 2 (by decide) (hts (.fieldLink RX5 9 "FaultShrinkerModel" "kind" "[I") (List.mem_of_getElem? (i := 2) rfl)) (fun _ h9 => h9) rfl dX5_kind_14 ?_
    refine lv_iload_n hx hb dX5_kind_17 rfl (lv_at hl 1 rfl) ?_
    refine va_iald hx hb hK hP 1 0 rfl rfl (vp_in_nI (by omega) (by omega)) dX5_kind_18 ?_
    refine cs_i (y := nI (k j)) (nF_at _ (by omega)) ?_
    refine lv_goto (tgt := 27) hx hb dX5_kind_19 (by decide) ?_
    exact cs_iret hx hb hr hlocks hK hP hD hS (v := nI (k j)) () (by first | rw [hc, if_pos rfl, vN_nI (by omega), vN_nI (by omega)] | rw [hc, if_pos rfl, vN_nI (by omega)] | (rw [hc, if_pos rfl] <;> rfl) | (rw [hc, if_neg (by decide)] <;> rfl) | (rw [hc, vN_nI (by omega), vN_nI (by omega)] <;> rfl) | (rw [hc, vN_nI (by omega)] <;> rfl) | (rw [hc] <;> rfl)) (by first | (rw [hc, vN_nI (by omega), vN_nI (by omega)] <;> rfl) | (rw [hc, vN_nI (by omega)] <;> rfl) | (rw [hc] <;> rfl)) dX5_kind_27

set_option maxRecDepth 100000 in
theorem in5_X5_rule : ∀ w ∈ wsX50, w ∈ wsX5_rule := by decide +kernel
set_option maxHeartbeats 4000000 in
set_option maxRecDepth 100000 in
theorem c_X5_rule (l : Launch) (G : cG) (z zk zn zs zw zf zg th n rc ta st : Nat) (kp : Bool) (kd kq kt ks al : Nat) (hn : n ≤ 24) (hrc : rc ≤ 6) : cMI l G yX5_rule wsX5_rule ({ frames := 1, cells := 0, slots := 0, locals := 21 }) [.ref z] [(z, .inr (5, [.int (nI th), .int (nI n), .ref zk, .int (nI rc), .ref zn, .ref zs, .int (nI ta), .ref zw, .int (nI st), .ref zf, .int (bI kp), .int (nI kd), .int (nI kq), .int (nI kt), .int (nI ks), .ref zg, .int (nI al)]))] (fun (r_ : Int32) (_ : Unit) => r_ = nI (if rlc rc = 0 then rc else 0)) (fun (_ : Unit) => [(z, .inr (5, [.int (nI (rlc rc)), .int (nI n), .ref zk, .int (nI (if rlc rc = 0 then rc + 1 else rc)), .ref zn, .ref zs, .int (nI ta), .ref zw, .int (nI st), .ref zf, .int (bI kp), .int (nI kd), .int (nI kq), .int (nI kt), .int (nI ks), .ref zg, .int (nI al)]))]) := by
  refine cs_sI (own := RX5) (cc := cX5_rule) (maxL := 1) (ret := (some .int)) (by decide) rfl rfl (Nat.le_of_ble_eq_true rfl) ?_
  intro p e s m below meth c A hx hb hr hml hts hown hlocks hinit hA hK hP hD hS ls hl
  have hin5 := in5_X5_rule
  have hl : lv_has ls 1 [(0, .ref z)] := hl
  refine lv_aload_n hx hb dX5_rule_0 rfl (lv_at hl 0 rfl) ?_
  refine lv_iconst (v := nI 0) hx hb dX5_rule_1 (by decide +kernel) ?_
  refine va_put (D := G.1) (ci := 5) (v := .int (nI 0)) (ty := .int) (C := RX5) (T := TX5) (N := 17) hx hb hts hin5 tyX5 tyX5_ok nmX5 hown hK hP hD hS 0 rfl rfl 0 (by decide) (hts (.fieldLink RX5 28 "FaultShrinkerModel" "thrown" "I") (List.mem_of_getElem? (i := 1) rfl)) (fun _ h9 => h9) rfl (by decide +kernel) rfl rfl (Nat.le_of_ble_eq_true rfl) dX5_rule_2 (fun H locs hP hD hS => ?_)
  have hP : va_P G.1 vwCl [(z, .inr (5, [.int (nI 0), .int (nI n), .ref zk, .int (nI rc), .ref zn, .ref zs, .int (nI ta), .ref zw, .int (nI st), .ref zf, .int (bI kp), .int (nI kd), .int (nI kq), .int (nI kt), .int (nI ks), .ref zg, .int (nI al)]))] _ := hP
  have hD : va_D A [(z, .inr (5, [.int (nI 0), .int (nI n), .ref zk, .int (nI rc), .ref zn, .ref zs, .int (nI ta), .ref zw, .int (nI st), .ref zf, .int (bI kp), .int (nI kd), .int (nI kq), .int (nI kt), .int (nI ks), .ref zg, .int (nI al)]))] := hD
  refine lv_aload_n hx hb dX5_rule_5 rfl (lv_at hl 0 rfl) ?_
  refine va_get (D := G.1) (ci := 5) (v := .int (nI rc)) (C := RX5) (T := TX5) (N := 17) hx hb hts hin5 hown hK hP 0 rfl rfl 3 (by decide) (hts (.fieldLink RX5 32 "FaultShrinkerModel" "rules" "I") (List.mem_of_getElem? (i := 2) rfl)) (fun _ h9 => h9) rfl dX5_rule_6 ?_
  refine lv_bipush (v := nI 6) hx hb dX5_rule_9 (by decide +kernel) ?_
  refine lv_icmp_ne (tgt := 20) hx hb dX5_rule_11 (by decide) (fun c_11 => ?_) (fun c_11 => ?_)
  · have c_11 := (nI_neI (by omega) (by omega)).mp c_11
    have hc : rlc rc = 0 := if_neg c_11
    refine lv_aload_n hx hb dX5_rule_20 rfl (lv_at hl 0 rfl) ?_
    refine lv_dup hx hb dX5_rule_21 rfl ?_
    refine va_get (D := G.1) (ci := 5) (v := .int (nI rc)) (C := RX5) (T := TX5) (N := 17) hx hb hts hin5 hown hK hP 0 rfl rfl 3 (by decide) (hts (.fieldLink RX5 32 "FaultShrinkerModel" "rules" "I") (List.mem_of_getElem? (i := 2) rfl)) (fun _ h9 => h9) rfl dX5_rule_22 ?_
    refine lv_iconst (v := nI 1) hx hb dX5_rule_25 (by decide +kernel) ?_
    refine lv_iadd hx hb dX5_rule_26 ?_
    refine cs_i (y := nI (rc + 1)) (nI_add _ _) ?_
    refine va_put (D := G.1) (ci := 5) (v := .int (nI (rc + 1))) (ty := .int) (C := RX5) (T := TX5) (N := 17) hx hb hts hin5 tyX5 tyX5_ok nmX5 hown hK hP hD hS 0 rfl rfl 3 (by decide) (hts (.fieldLink RX5 32 "FaultShrinkerModel" "rules" "I") (List.mem_of_getElem? (i := 2) rfl)) (fun _ h9 => h9) rfl (by decide +kernel) rfl rfl (Nat.le_of_ble_eq_true rfl) dX5_rule_27 (fun H locs hP hD hS => ?_)
    have hP : va_P G.1 vwCl [(z, .inr (5, [.int (nI 0), .int (nI n), .ref zk, .int (nI (rc + 1)), .ref zn, .ref zs, .int (nI ta), .ref zw, .int (nI st), .ref zf, .int (bI kp), .int (nI kd), .int (nI kq), .int (nI kt), .int (nI ks), .ref zg, .int (nI al)]))] _ := hP
    have hD : va_D A [(z, .inr (5, [.int (nI 0), .int (nI n), .ref zk, .int (nI (rc + 1)), .ref zn, .ref zs, .int (nI ta), .ref zw, .int (nI st), .ref zf, .int (bI kp), .int (nI kd), .int (nI kq), .int (nI kt), .int (nI ks), .ref zg, .int (nI al)]))] := hD
    refine lv_aload_n hx hb dX5_rule_30 rfl (lv_at hl 0 rfl) ?_
    refine va_get (D := G.1) (ci := 5) (v := .int (nI (rc + 1))) (C := RX5) (T := TX5) (N := 17) hx hb hts hin5 hown hK hP 0 rfl rfl 3 (by decide) (hts (.fieldLink RX5 32 "FaultShrinkerModel" "rules" "I") (List.mem_of_getElem? (i := 2) rfl)) (fun _ h9 => h9) rfl dX5_rule_31 ?_
    refine lv_iconst (v := nI 1) hx hb dX5_rule_34 (by decide +kernel) ?_
    refine lv_isub hx hb dX5_rule_35 ?_
    refine cs_i (y := nI ((rc + 1) - 1)) (pk_sub (by omega)) ?_
    exact cs_iret hx hb hr hlocks hK hP hD hS (v := nI ((rc + 1) - 1)) () (by first | rw [hc, if_pos rfl, vN_nI (by omega), vN_nI (by omega)] | rw [hc, if_pos rfl, vN_nI (by omega)] | (rw [hc, if_pos rfl] <;> rfl) | (rw [hc, if_neg (by decide)] <;> rfl) | (rw [hc, vN_nI (by omega), vN_nI (by omega)] <;> rfl) | (rw [hc, vN_nI (by omega)] <;> rfl) | (rw [hc] <;> rfl)) (by first | (rw [hc, vN_nI (by omega), vN_nI (by omega)] <;> rfl) | (rw [hc, vN_nI (by omega)] <;> rfl) | (rw [hc] <;> rfl)) dX5_rule_36
  · have c_11 := (nI_eq (by omega) (by omega)).mp c_11
    have hc : rlc rc = 1 := if_pos c_11
    refine lv_aload_n hx hb dX5_rule_14 rfl (lv_at hl 0 rfl) ?_
    refine lv_iconst (v := nI 1) hx hb dX5_rule_15 (by decide +kernel) ?_
    refine cs_vi (As := [.int (nI 1)]) (rest := []) (wr := []) ⟨hx, hb, hml, hown, hts⟩ hK hP hD hS hA (c_X5_no l G z zk zn zs zw zf zg 0 n rc ta st kp kd kq kt ks al 1) (cwV 1 hts gX5_rule_X5_no rfl rfl rfl (by decide +kernel) ⟨Nat.le_of_ble_eq_true rfl, Nat.le_of_ble_eq_true rfl⟩) [0] [] ⟨rfl, rfl, by decide, by decide, by decide⟩ 0 5 rfl rfl rfl hl.1 rfl (Nat.le_of_ble_eq_true rfl) ⟨Nat.le_of_ble_eq_true rfl, Nat.le_of_ble_eq_true rfl⟩ dX5_rule_16 (fun r u H locs hw hP hD hS => ?_)
    have hP : va_P G.1 vwCl [(z, .inr (5, [.int (nI 1), .int (nI n), .ref zk, .int (nI rc), .ref zn, .ref zs, .int (nI ta), .ref zw, .int (nI st), .ref zf, .int (bI kp), .int (nI kd), .int (nI kq), .int (nI kt), .int (nI ks), .ref zg, .int (nI al)]))] H := hP.sub [0] rfl
    have hD : va_D A [(z, .inr (5, [.int (nI 1), .int (nI n), .ref zk, .int (nI rc), .ref zn, .ref zs, .int (nI ta), .ref zw, .int (nI st), .ref zf, .int (bI kp), .int (nI kd), .int (nI kq), .int (nI kt), .int (nI ks), .ref zg, .int (nI al)]))] := hD.sub [0] (by decide) rfl
    subst hw
    exact cs_iret hx hb hr hlocks hK hP hD hS (v := nI 0) () (by first | rw [hc, if_pos rfl, vN_nI (by omega), vN_nI (by omega)] | rw [hc, if_pos rfl, vN_nI (by omega)] | (rw [hc, if_pos rfl] <;> rfl) | (rw [hc, if_neg (by decide)] <;> rfl) | (rw [hc, vN_nI (by omega), vN_nI (by omega)] <;> rfl) | (rw [hc, vN_nI (by omega)] <;> rfl) | (rw [hc] <;> rfl)) (by first | (rw [hc, vN_nI (by omega), vN_nI (by omega)] <;> rfl) | (rw [hc, vN_nI (by omega)] <;> rfl) | (rw [hc] <;> rfl)) dX5_rule_19

set_option maxRecDepth 100000 in
theorem in5_X5_set : ∀ w ∈ wsX50, w ∈ wsX5_set := by decide +kernel
set_option maxHeartbeats 4000000 in
set_option maxRecDepth 100000 in
theorem c_X5_seta (l : Launch) (G : cG) (z zk zn zs zw zf zg th n rc ta st : Nat) (kp : Bool) (kd kq kt ks al : Nat) (hn : n ≤ 24) (hrc : rc ≤ 6) (ne sp : Nat → Nat) (hne : ∀ j, j < 6 → ne j < 65536) (hsp : ∀ j, j < 6 → sp j < 65536) (x1 x2 : Int32) (ib : Bool) : cMI l G yX5_set wsX5_set ({ frames := 2, cells := 0, slots := 0, locals := 43 }) [.ref z, .ref zn, .ref zs, .int x1, .int x2, .int (bI ib)] [(z, .inr (5, [.int (nI th), .int (nI n), .ref zk, .int (nI rc), .ref zn, .ref zs, .int (nI ta), .ref zw, .int (nI st), .ref zf, .int (bI kp), .int (nI kd), .int (nI kq), .int (nI kt), .int (nI ks), .ref zg, .int (nI al)])), (zn, .inl (G.2.1, 6, .inl (nF ne))), (zs, .inl (G.2.1, 6, .inl (nF sp)))] (fun (r_ : Int32) (_ : Unit) => r_ = bI (decide (stc x1 x2 ib rc sp = 0) && (ne (vN x1)).testBit (vN x2))) (fun (_ : Unit) => [(z, .inr (5, [.int (nI (stc x1 x2 ib rc sp)), .int (nI n), .ref zk, .int (nI rc), .ref zn, .ref zs, .int (nI ta), .ref zw, .int (nI st), .ref zf, .int (bI kp), .int (nI kd), .int (nI kq), .int (nI kt), .int (nI ks), .ref zg, .int (nI al)])), (zn, .inl (G.2.1, 6, .inl (nF (if stc x1 x2 ib rc sp = 0 then va_up ne (vN x1) (wb (ne (vN x1)) (vN x2) ib) else ne)))), (zs, .inl (G.2.1, 6, .inl (nF sp)))]) := by
  refine cs_sI (own := RX5) (cc := cX5_set) (maxL := 7) (ret := (some .boolean)) (by decide) rfl rfl (Nat.le_of_ble_eq_true rfl) ?_
  intro p e s m below meth c A hx hb hr hml hts hown hlocks hinit hA hK hP hD hS ls hl
  have hin5 := in5_X5_set
  have hl : lv_has ls 7 [(0, .ref z), (1, .ref zn), (2, .ref zs), (3, .int x1), (4, .int x2), (5, .int (bI ib))] := hl
  refine lv_aload_n hx hb dX5_set_0 rfl (lv_at hl 0 rfl) ?_
  refine lv_aload_n hx hb dX5_set_1 rfl (lv_at hl 0 rfl) ?_
  refine lv_iload_n hx hb dX5_set_2 rfl (lv_at hl 3 rfl) ?_
  refine cs_vi (As := [.int x1]) (rest := [.ref z]) (wr := [(zn, .inl (G.2.1, 6, .inl (nF ne))), (zs, .inl (G.2.1, 6, .inl (nF sp)))]) ⟨hx, hb, hml, hown, hts⟩ hK hP hD hS hA (c_X5_isRule l G z zk zn zs zw zf zg th n rc ta st kp kd kq kt ks al (by first | assumption | omega) (by first | assumption | omega) x1) (cwV 1 hts gX5_set_X5_isRule rfl rfl rfl (by decide +kernel) ⟨Nat.le_of_ble_eq_true rfl, Nat.le_of_ble_eq_true rfl⟩) [0] [1, 2] ⟨rfl, rfl, by decide, by decide, by decide⟩ 0 5 rfl rfl rfl hl.1 rfl (Nat.le_of_ble_eq_true rfl) ⟨Nat.le_of_ble_eq_true rfl, Nat.le_of_ble_eq_true rfl⟩ dX5_set_3 (fun r u H locs hw hP hD hS => ?_)
  have hP : va_P G.1 vwCl [(z, .inr (5, [.int (nI th), .int (nI n), .ref zk, .int (nI rc), .ref zn, .ref zs, .int (nI ta), .ref zw, .int (nI st), .ref zf, .int (bI kp), .int (nI kd), .int (nI kq), .int (nI kt), .int (nI ks), .ref zg, .int (nI al)])), (zn, .inl (G.2.1, 6, .inl (nF ne))), (zs, .inl (G.2.1, 6, .inl (nF sp)))] H := hP.sub [2, 0, 1] rfl
  have hD : va_D A [(z, .inr (5, [.int (nI th), .int (nI n), .ref zk, .int (nI rc), .ref zn, .ref zs, .int (nI ta), .ref zw, .int (nI st), .ref zf, .int (bI kp), .int (nI kd), .int (nI kq), .int (nI kt), .int (nI ks), .ref zg, .int (nI al)])), (zn, .inl (G.2.1, 6, .inl (nF ne))), (zs, .inl (G.2.1, 6, .inl (nF sp)))] := hD.sub [2, 0, 1] (by decide) rfl
  subst hw
  refine lv_if_eq (tgt := 20) hx hb dX5_set_6 (by decide) (fun c_6 => ?_) (fun c_6 => ?_)
  · have c_6 := bI_0 c_6
    have hc : stc x1 x2 ib rc sp = 1 := if_neg (fun z9 => by rw [c_6] at z9; cases z9.1)
    refine lv_iconst (v := nI 1) hx hb dX5_set_20 (by decide +kernel) ?_
    refine lv_goto (tgt := 46) hx hb dX5_set_21 (by decide) ?_
    refine va_put (D := G.1) (ci := 5) (v := .int (nI 1)) (ty := .int) (C := RX5) (T := TX5) (N := 17) hx hb hts hin5 tyX5 tyX5_ok nmX5 hown hK hP hD hS 0 rfl rfl 0 (by decide) (hts (.fieldLink RX5 28 "FaultShrinkerModel" "thrown" "I") (List.mem_of_getElem? (i := 1) rfl)) (fun _ h9 => h9) rfl (by decide +kernel) rfl rfl (Nat.le_of_ble_eq_true rfl) dX5_set_46 (fun H locs hP hD hS => ?_)
    have hP : va_P G.1 vwCl [(z, .inr (5, [.int (nI 1), .int (nI n), .ref zk, .int (nI rc), .ref zn, .ref zs, .int (nI ta), .ref zw, .int (nI st), .ref zf, .int (bI kp), .int (nI kd), .int (nI kq), .int (nI kt), .int (nI ks), .ref zg, .int (nI al)])), (zn, .inl (G.2.1, 6, .inl (nF ne))), (zs, .inl (G.2.1, 6, .inl (nF sp)))] _ := hP
    have hD : va_D A [(z, .inr (5, [.int (nI 1), .int (nI n), .ref zk, .int (nI rc), .ref zn, .ref zs, .int (nI ta), .ref zw, .int (nI st), .ref zf, .int (bI kp), .int (nI kd), .int (nI kq), .int (nI kt), .int (nI ks), .ref zg, .int (nI al)])), (zn, .inl (G.2.1, 6, .inl (nF ne))), (zs, .inl (G.2.1, 6, .inl (nF sp)))] := hD
    refine lv_aload_n hx hb dX5_set_49 rfl (lv_at hl 0 rfl) ?_
    refine va_get (D := G.1) (ci := 5) (v := .int (nI 1)) (C := RX5) (T := TX5) (N := 17) hx hb hts hin5 hown hK hP 0 rfl rfl 0 (by decide) (hts (.fieldLink RX5 28 "FaultShrinkerModel" "thrown" "I") (List.mem_of_getElem? (i := 1) rfl)) (fun _ h9 => h9) rfl dX5_set_50 ?_
    refine lv_if_eq (tgt := 58) hx hb dX5_set_53 (by decide) (fun c_53 => ?_) (fun c_53 => ?_)
    · exact absurd c_53 (by decide +kernel)
    · refine lv_iconst (v := nI 0) hx hb dX5_set_56 (by decide +kernel) ?_
      exact cs_zret hx hb hr hlocks hK hP hD hS (v := nI 0) (rfl) () (by rw [hc]; rfl) (by rw [hc] <;> rfl) dX5_set_57
  · have c_6 := bI_n0 c_6
    refine lv_iload hx hb dX5_set_9 (lv_at hl 4 rfl) ?_
    refine lv_iconst (v := nI 0) hx hb dX5_set_11 (by decide +kernel) ?_
    refine lv_bipush (v := nI 15) hx hb dX5_set_12 (by decide +kernel) ?_
    refine cs_si (As := [.int x2, .int (nI 0), .int (nI 15)]) (rest := [.ref z]) (wr := [(z, .inr (5, [.int (nI th), .int (nI n), .ref zk, .int (nI rc), .ref zn, .ref zs, .int (nI ta), .ref zw, .int (nI st), .ref zf, .int (bI kp), .int (nI kd), .int (nI kq), .int (nI kt), .int (nI ks), .ref zg, .int (nI al)])), (zn, .inl (G.2.1, 6, .inl (nF ne))), (zs, .inl (G.2.1, 6, .inl (nF sp)))]) ⟨hx, hb, hml, hown, hts⟩ hK hP hD hS hA (c_X5_isIn l G x2 (nI 0) (nI 15)) (va_cwS 3 hts gX5_set_X5_isIn rfl rfl rfl (by decide +kernel) ⟨Nat.le_of_ble_eq_true rfl, Nat.le_of_ble_eq_true rfl⟩) [] [0, 1, 2] ⟨rfl, rfl, by decide, by decide, by decide⟩ rfl hl.1 rfl (Nat.le_of_ble_eq_true rfl) ⟨Nat.le_of_ble_eq_true rfl, Nat.le_of_ble_eq_true rfl⟩ dX5_set_14 (fun r u H locs hw hP hD hS => ?_)
    have hP : va_P G.1 vwCl [(z, .inr (5, [.int (nI th), .int (nI n), .ref zk, .int (nI rc), .ref zn, .ref zs, .int (nI ta), .ref zw, .int (nI st), .ref zf, .int (bI kp), .int (nI kd), .int (nI kq), .int (nI kt), .int (nI ks), .ref zg, .int (nI al)])), (zn, .inl (G.2.1, 6, .inl (nF ne))), (zs, .inl (G.2.1, 6, .inl (nF sp)))] H := hP.sub [0, 1, 2] rfl
    have hD : va_D A [(z, .inr (5, [.int (nI th), .int (nI n), .ref zk, .int (nI rc), .ref zn, .ref zs, .int (nI ta), .ref zw, .int (nI st), .ref zf, .int (bI kp), .int (nI kd), .int (nI kq), .int (nI kt), .int (nI ks), .ref zg, .int (nI al)])), (zn, .inl (G.2.1, 6, .inl (nF ne))), (zs, .inl (G.2.1, 6, .inl (nF sp)))] := hD.sub [0, 1, 2] (by decide) rfl
    subst hw
    refine cs_i (y := bI (hp x2 16)) (congrArg bI (inI_n x2 (by omega))) ?_
    refine lv_if_ne (tgt := 24) hx hb dX5_set_17 (by decide) (fun c_17 => ?_) (fun c_17 => ?_)
    · have c_17 := bI_n0 c_17
      have hcb : hp x1 rc = true ∧ hp x2 16 = true := ⟨c_6, c_17⟩
      obtain ⟨j1, hj1, rfl⟩ := hp_of2 (by omega) c_6
      obtain ⟨j2, hj2, rfl⟩ := hp_of2 (by omega) c_17
      have hnj := hne j1 (by omega)
      have hsj := hsp j1 (by omega)
      refine lv_iload hx hb dX5_set_24 (lv_at hl 5 rfl) ?_
      refine lv_if_eq (tgt := 45) hx hb dX5_set_26 (by decide) (fun c_26 => ?_) (fun c_26 => ?_)
      · have c_26 := bI_0 c_26
        have hc : stc (nI j1) (nI j2) ib rc sp = 0 := by unfold stc; rw [if_pos hcb, if_neg (fun z9 => by rw [c_26] at z9; cases z9.1)]
        refine lv_iconst (v := nI 0) hx hb dX5_set_45 (by decide +kernel) ?_
        refine va_put (D := G.1) (ci := 5) (v := .int (nI 0)) (ty := .int) (C := RX5) (T := TX5) (N := 17) hx hb hts hin5 tyX5 tyX5_ok nmX5 hown hK hP hD hS 0 rfl rfl 0 (by decide) (hts (.fieldLink RX5 28 "FaultShrinkerModel" "thrown" "I") (List.mem_of_getElem? (i := 1) rfl)) (fun _ h9 => h9) rfl (by decide +kernel) rfl rfl (Nat.le_of_ble_eq_true rfl) dX5_set_46 (fun H locs hP hD hS => ?_)
        have hP : va_P G.1 vwCl [(z, .inr (5, [.int (nI 0), .int (nI n), .ref zk, .int (nI rc), .ref zn, .ref zs, .int (nI ta), .ref zw, .int (nI st), .ref zf, .int (bI kp), .int (nI kd), .int (nI kq), .int (nI kt), .int (nI ks), .ref zg, .int (nI al)])), (zn, .inl (G.2.1, 6, .inl (nF ne))), (zs, .inl (G.2.1, 6, .inl (nF sp)))] _ := hP
        have hD : va_D A [(z, .inr (5, [.int (nI 0), .int (nI n), .ref zk, .int (nI rc), .ref zn, .ref zs, .int (nI ta), .ref zw, .int (nI st), .ref zf, .int (bI kp), .int (nI kd), .int (nI kq), .int (nI kt), .int (nI ks), .ref zg, .int (nI al)])), (zn, .inl (G.2.1, 6, .inl (nF ne))), (zs, .inl (G.2.1, 6, .inl (nF sp)))] := hD
        refine lv_aload_n hx hb dX5_set_49 rfl (lv_at hl 0 rfl) ?_
        refine va_get (D := G.1) (ci := 5) (v := .int (nI 0)) (C := RX5) (T := TX5) (N := 17) hx hb hts hin5 hown hK hP 0 rfl rfl 0 (by decide) (hts (.fieldLink RX5 28 "FaultShrinkerModel" "thrown" "I") (List.mem_of_getElem? (i := 1) rfl)) (fun _ h9 => h9) rfl dX5_set_50 ?_
        refine lv_if_eq (tgt := 58) hx hb dX5_set_53 (by decide) (fun c_53 => ?_) (fun c_53 => ?_)
        · refine lv_aload_n hx hb dX5_set_58 rfl (lv_at hl 1 rfl) ?_
          refine lv_iload_n hx hb dX5_set_59 rfl (lv_at hl 3 rfl) ?_
          refine va_iald hx hb hK hP 1 0 rfl rfl (vp_in_nI (by omega) (by omega)) dX5_set_60 ?_
          refine cs_i (y := nI (ne j1)) (nF_at _ (by omega)) ?_
          refine lv_iload hx hb dX5_set_61 (lv_at hl 4 rfl) ?_
          refine lv_ishr hx hb dX5_set_63 ?_
          refine cs_i (y := nI ((ne j1) >>> j2)) (nI_shr (by omega) (by omega)) ?_
          refine lv_iconst (v := nI 1) hx hb dX5_set_64 (by decide +kernel) ?_
          refine lv_iand hx hb dX5_set_65 ?_
          refine cs_i (y := bI ((ne j1).testBit j2)) (by rw [fa_and]; exact bitI _ _) ?_
          refine lv_iconst (v := nI 1) hx hb dX5_set_66 (by decide +kernel) ?_
          refine lv_icmp_ne (tgt := 74) hx hb dX5_set_67 (by decide) (fun c_67 => ?_) (fun c_67 => ?_)
          · have c_67 := bI_n1 c_67
            refine lv_iconst (v := nI 0) hx hb dX5_set_74 (by decide +kernel) ?_
            refine cs_i (y := bI false) (rfl) ?_
            refine lv_istore (lv' := [(6, .int (bI false)), (0, .ref z), (1, .ref zn), (2, .ref zs), (3, .int (nI j1)), (4, .int (nI j2)), (5, .int (bI ib))]) hx hb dX5_set_75 hl (by decide) rfl (fun ls hl => ?_)
            refine lv_iload hx hb dX5_set_77 (lv_at hl 0 rfl) ?_
            refine lv_iload hx hb dX5_set_79 (lv_at hl 6 rfl) ?_
            refine lv_icmp_eq (tgt := 94) hx hb dX5_set_81 (by decide) (fun c_81 => ?_) (fun c_81 => ?_)
            · have h81 : (ne j1).testBit j2 = ib := c_67.trans (bI_inj c_81)
              refine lv_iload hx hb dX5_set_94 (lv_at hl 0 rfl) ?_
              exact cs_zret hx hb hr hlocks hK hP hD hS (v := bI false) (bI_nar _) () (by rw [hc, vN_nI (by omega), vN_nI (by omega)]; rw [c_67]; rfl) (by rw [hc, vN_nI (by omega), vN_nI (by omega)]; first | rfl | (rw [wb_same h81, va_up_same]; rfl)) dX5_set_96
            · have h81 : ¬ (ne j1).testBit j2 = ib := fun z9 => c_81 (congrArg bI (c_67.symm.trans z9))
              refine lv_aload_n hx hb dX5_set_84 rfl (lv_at hl 2 rfl) ?_
              refine lv_iload_n hx hb dX5_set_85 rfl (lv_at hl 4 rfl) ?_
              refine lv_dup2_11 hx hb dX5_set_86 rfl rfl ?_
              refine va_iald hx hb hK hP 1 0 rfl rfl (vp_in_nI (by omega) (by omega)) dX5_set_87 ?_
              refine cs_i (y := nI (ne j1)) (nF_at _ (by omega)) ?_
              refine lv_iconst (v := nI 1) hx hb dX5_set_88 (by decide +kernel) ?_
              refine lv_iload hx hb dX5_set_89 (lv_at hl 5 rfl) ?_
              refine lv_ishl hx hb dX5_set_91 ?_
              refine cs_i (y := nI (2 ^ j2)) (nI_one_shl (by omega)) ?_
              refine lv_ixor hx hb dX5_set_92 ?_
              refine cs_i (y := nI ((ne j1) ^^^ (2 ^ j2))) (fb_xorI _ _) ?_
              refine va_iast hx hb hK hP hD hS 1 0 rfl rfl (vp_in_nI (by omega) (by omega)) dX5_set_93 (fun H locs hP hD hS => ?_)
              rw [nF_upd _ (by omega)] at hP hD
              have hP : va_P G.1 vwCl [(z, .inr (5, [.int (nI 0), .int (nI n), .ref zk, .int (nI rc), .ref zn, .ref zs, .int (nI ta), .ref zw, .int (nI st), .ref zf, .int (bI kp), .int (nI kd), .int (nI kq), .int (nI kt), .int (nI ks), .ref zg, .int (nI al)])), (zn, .inl (G.2.1, 6, .inl (nF (va_up ne j1 ((ne j1) ^^^ (2 ^ j2)))))), (zs, .inl (G.2.1, 6, .inl (nF sp)))] _ := hP
              have hD : va_D A [(z, .inr (5, [.int (nI 0), .int (nI n), .ref zk, .int (nI rc), .ref zn, .ref zs, .int (nI ta), .ref zw, .int (nI st), .ref zf, .int (bI kp), .int (nI kd), .int (nI kq), .int (nI kt), .int (nI ks), .ref zg, .int (nI al)])), (zn, .inl (G.2.1, 6, .inl (nF (va_up ne j1 ((ne j1) ^^^ (2 ^ j2)))))), (zs, .inl (G.2.1, 6, .inl (nF sp)))] := hD
              have e9 : nF (va_up ne j1 ((ne j1) ^^^ (2 ^ j2))) = nF (va_up ne j1 (wb (ne j1) j2 ib)) := congrArg (fun y9 => nF (va_up ne j1 y9)) (wb_x h81)
              rw [e9] at hP hD
              have hP : va_P G.1 vwCl [(z, .inr (5, [.int (nI 0), .int (nI n), .ref zk, .int (nI rc), .ref zn, .ref zs, .int (nI ta), .ref zw, .int (nI st), .ref zf, .int (bI kp), .int (nI kd), .int (nI kq), .int (nI kt), .int (nI ks), .ref zg, .int (nI al)])), (zn, .inl (G.2.1, 6, .inl (nF (va_up ne j1 (wb (ne j1) j2 ib))))), (zs, .inl (G.2.1, 6, .inl (nF sp)))] _ := hP
              have hD : va_D A [(z, .inr (5, [.int (nI 0), .int (nI n), .ref zk, .int (nI rc), .ref zn, .ref zs, .int (nI ta), .ref zw, .int (nI st), .ref zf, .int (bI kp), .int (nI kd), .int (nI kq), .int (nI kt), .int (nI ks), .ref zg, .int (nI al)])), (zn, .inl (G.2.1, 6, .inl (nF (va_up ne j1 (wb (ne j1) j2 ib))))), (zs, .inl (G.2.1, 6, .inl (nF sp)))] := hD
              refine lv_iload hx hb dX5_set_94 (lv_at hl 0 rfl) ?_
              exact cs_zret hx hb hr hlocks hK hP hD hS (v := bI false) (bI_nar _) () (by rw [hc, vN_nI (by omega), vN_nI (by omega)]; rw [c_67]; rfl) (by rw [hc, vN_nI (by omega), vN_nI (by omega)]; first | rfl | (rw [wb_same h81, va_up_same]; rfl)) dX5_set_96
          · have c_67 := bI_1 c_67
            refine lv_iconst (v := nI 1) hx hb dX5_set_70 (by decide +kernel) ?_
            refine cs_i (y := bI true) (rfl) ?_
            refine lv_goto (tgt := 75) hx hb dX5_set_71 (by decide) ?_
            refine lv_istore (lv' := [(6, .int (bI true)), (0, .ref z), (1, .ref zn), (2, .ref zs), (3, .int (nI j1)), (4, .int (nI j2)), (5, .int (bI ib))]) hx hb dX5_set_75 hl (by decide) rfl (fun ls hl => ?_)
            refine lv_iload hx hb dX5_set_77 (lv_at hl 0 rfl) ?_
            refine lv_iload hx hb dX5_set_79 (lv_at hl 6 rfl) ?_
            refine lv_icmp_eq (tgt := 94) hx hb dX5_set_81 (by decide) (fun c_81 => ?_) (fun c_81 => ?_)
            · have h81 : (ne j1).testBit j2 = ib := c_67.trans (bI_inj c_81)
              refine lv_iload hx hb dX5_set_94 (lv_at hl 0 rfl) ?_
              exact cs_zret hx hb hr hlocks hK hP hD hS (v := bI true) (bI_nar _) () (by rw [hc, vN_nI (by omega), vN_nI (by omega)]; rw [c_67]; rfl) (by rw [hc, vN_nI (by omega), vN_nI (by omega)]; first | rfl | (rw [wb_same h81, va_up_same]; rfl)) dX5_set_96
            · have h81 : ¬ (ne j1).testBit j2 = ib := fun z9 => c_81 (congrArg bI (c_67.symm.trans z9))
              refine lv_aload_n hx hb dX5_set_84 rfl (lv_at hl 2 rfl) ?_
              refine lv_iload_n hx hb dX5_set_85 rfl (lv_at hl 4 rfl) ?_
              refine lv_dup2_11 hx hb dX5_set_86 rfl rfl ?_
              refine va_iald hx hb hK hP 1 0 rfl rfl (vp_in_nI (by omega) (by omega)) dX5_set_87 ?_
              refine cs_i (y := nI (ne j1)) (nF_at _ (by omega)) ?_
              refine lv_iconst (v := nI 1) hx hb dX5_set_88 (by decide +kernel) ?_
              refine lv_iload hx hb dX5_set_89 (lv_at hl 5 rfl) ?_
              refine lv_ishl hx hb dX5_set_91 ?_
              refine cs_i (y := nI (2 ^ j2)) (nI_one_shl (by omega)) ?_
              refine lv_ixor hx hb dX5_set_92 ?_
              refine cs_i (y := nI ((ne j1) ^^^ (2 ^ j2))) (fb_xorI _ _) ?_
              refine va_iast hx hb hK hP hD hS 1 0 rfl rfl (vp_in_nI (by omega) (by omega)) dX5_set_93 (fun H locs hP hD hS => ?_)
              rw [nF_upd _ (by omega)] at hP hD
              have hP : va_P G.1 vwCl [(z, .inr (5, [.int (nI 0), .int (nI n), .ref zk, .int (nI rc), .ref zn, .ref zs, .int (nI ta), .ref zw, .int (nI st), .ref zf, .int (bI kp), .int (nI kd), .int (nI kq), .int (nI kt), .int (nI ks), .ref zg, .int (nI al)])), (zn, .inl (G.2.1, 6, .inl (nF (va_up ne j1 ((ne j1) ^^^ (2 ^ j2)))))), (zs, .inl (G.2.1, 6, .inl (nF sp)))] _ := hP
              have hD : va_D A [(z, .inr (5, [.int (nI 0), .int (nI n), .ref zk, .int (nI rc), .ref zn, .ref zs, .int (nI ta), .ref zw, .int (nI st), .ref zf, .int (bI kp), .int (nI kd), .int (nI kq), .int (nI kt), .int (nI ks), .ref zg, .int (nI al)])), (zn, .inl (G.2.1, 6, .inl (nF (va_up ne j1 ((ne j1) ^^^ (2 ^ j2)))))), (zs, .inl (G.2.1, 6, .inl (nF sp)))] := hD
              have e9 : nF (va_up ne j1 ((ne j1) ^^^ (2 ^ j2))) = nF (va_up ne j1 (wb (ne j1) j2 ib)) := congrArg (fun y9 => nF (va_up ne j1 y9)) (wb_x h81)
              rw [e9] at hP hD
              have hP : va_P G.1 vwCl [(z, .inr (5, [.int (nI 0), .int (nI n), .ref zk, .int (nI rc), .ref zn, .ref zs, .int (nI ta), .ref zw, .int (nI st), .ref zf, .int (bI kp), .int (nI kd), .int (nI kq), .int (nI kt), .int (nI ks), .ref zg, .int (nI al)])), (zn, .inl (G.2.1, 6, .inl (nF (va_up ne j1 (wb (ne j1) j2 ib))))), (zs, .inl (G.2.1, 6, .inl (nF sp)))] _ := hP
              have hD : va_D A [(z, .inr (5, [.int (nI 0), .int (nI n), .ref zk, .int (nI rc), .ref zn, .ref zs, .int (nI ta), .ref zw, .int (nI st), .ref zf, .int (bI kp), .int (nI kd), .int (nI kq), .int (nI kt), .int (nI ks), .ref zg, .int (nI al)])), (zn, .inl (G.2.1, 6, .inl (nF (va_up ne j1 (wb (ne j1) j2 ib))))), (zs, .inl (G.2.1, 6, .inl (nF sp)))] := hD
              refine lv_iload hx hb dX5_set_94 (lv_at hl 0 rfl) ?_
              exact cs_zret hx hb hr hlocks hK hP hD hS (v := bI true) (bI_nar _) () (by rw [hc, vN_nI (by omega), vN_nI (by omega)]; rw [c_67]; rfl) (by rw [hc, vN_nI (by omega), vN_nI (by omega)]; first | rfl | (rw [wb_same h81, va_up_same]; rfl)) dX5_set_96
        · exact absurd (by decide +kernel) c_53
      · have c_26 := bI_n0 c_26
        refine lv_aload_n hx hb dX5_set_29 rfl (lv_at hl 2 rfl) ?_
        refine lv_iload_n hx hb dX5_set_30 rfl (lv_at hl 3 rfl) ?_
        refine va_iald hx hb hK hP 2 0 rfl rfl (vp_in_nI (by omega) (by omega)) dX5_set_31 ?_
        refine cs_i (y := nI (sp j1)) (nF_at _ (by omega)) ?_
        refine lv_iload hx hb dX5_set_32 (lv_at hl 4 rfl) ?_
        refine lv_ishr hx hb dX5_set_34 ?_
        refine cs_i (y := nI ((sp j1) >>> j2)) (nI_shr (by omega) (by omega)) ?_
        refine lv_iconst (v := nI 1) hx hb dX5_set_35 (by decide +kernel) ?_
        refine lv_iand hx hb dX5_set_36 ?_
        refine cs_i (y := bI ((sp j1).testBit j2)) (by rw [fa_and]; exact bitI _ _) ?_
        refine lv_iconst (v := nI 1) hx hb dX5_set_37 (by decide +kernel) ?_
        refine lv_icmp_ne (tgt := 45) hx hb dX5_set_38 (by decide) (fun c_38 => ?_) (fun c_38 => ?_)
        · have c_38 := bI_n1 c_38
          have hc : stc (nI j1) (nI j2) ib rc sp = 0 := by unfold stc; rw [if_pos hcb, vN_nI (by omega), vN_nI (by omega), if_neg (fun z9 => by rw [c_38] at z9; cases z9.2)]
          refine lv_iconst (v := nI 0) hx hb dX5_set_45 (by decide +kernel) ?_
          refine va_put (D := G.1) (ci := 5) (v := .int (nI 0)) (ty := .int) (C := RX5) (T := TX5) (N := 17) hx hb hts hin5 tyX5 tyX5_ok nmX5 hown hK hP hD hS 0 rfl rfl 0 (by decide) (hts (.fieldLink RX5 28 "FaultShrinkerModel" "thrown" "I") (List.mem_of_getElem? (i := 1) rfl)) (fun _ h9 => h9) rfl (by decide +kernel) rfl rfl (Nat.le_of_ble_eq_true rfl) dX5_set_46 (fun H locs hP hD hS => ?_)
          have hP : va_P G.1 vwCl [(z, .inr (5, [.int (nI 0), .int (nI n), .ref zk, .int (nI rc), .ref zn, .ref zs, .int (nI ta), .ref zw, .int (nI st), .ref zf, .int (bI kp), .int (nI kd), .int (nI kq), .int (nI kt), .int (nI ks), .ref zg, .int (nI al)])), (zn, .inl (G.2.1, 6, .inl (nF ne))), (zs, .inl (G.2.1, 6, .inl (nF sp)))] _ := hP
          have hD : va_D A [(z, .inr (5, [.int (nI 0), .int (nI n), .ref zk, .int (nI rc), .ref zn, .ref zs, .int (nI ta), .ref zw, .int (nI st), .ref zf, .int (bI kp), .int (nI kd), .int (nI kq), .int (nI kt), .int (nI ks), .ref zg, .int (nI al)])), (zn, .inl (G.2.1, 6, .inl (nF ne))), (zs, .inl (G.2.1, 6, .inl (nF sp)))] := hD
          refine lv_aload_n hx hb dX5_set_49 rfl (lv_at hl 0 rfl) ?_
          refine va_get (D := G.1) (ci := 5) (v := .int (nI 0)) (C := RX5) (T := TX5) (N := 17) hx hb hts hin5 hown hK hP 0 rfl rfl 0 (by decide) (hts (.fieldLink RX5 28 "FaultShrinkerModel" "thrown" "I") (List.mem_of_getElem? (i := 1) rfl)) (fun _ h9 => h9) rfl dX5_set_50 ?_
          refine lv_if_eq (tgt := 58) hx hb dX5_set_53 (by decide) (fun c_53 => ?_) (fun c_53 => ?_)
          · refine lv_aload_n hx hb dX5_set_58 rfl (lv_at hl 1 rfl) ?_
            refine lv_iload_n hx hb dX5_set_59 rfl (lv_at hl 3 rfl) ?_
            refine va_iald hx hb hK hP 1 0 rfl rfl (vp_in_nI (by omega) (by omega)) dX5_set_60 ?_
            refine cs_i (y := nI (ne j1)) (nF_at _ (by omega)) ?_
            refine lv_iload hx hb dX5_set_61 (lv_at hl 4 rfl) ?_
            refine lv_ishr hx hb dX5_set_63 ?_
            refine cs_i (y := nI ((ne j1) >>> j2)) (nI_shr (by omega) (by omega)) ?_
            refine lv_iconst (v := nI 1) hx hb dX5_set_64 (by decide +kernel) ?_
            refine lv_iand hx hb dX5_set_65 ?_
            refine cs_i (y := bI ((ne j1).testBit j2)) (by rw [fa_and]; exact bitI _ _) ?_
            refine lv_iconst (v := nI 1) hx hb dX5_set_66 (by decide +kernel) ?_
            refine lv_icmp_ne (tgt := 74) hx hb dX5_set_67 (by decide) (fun c_67 => ?_) (fun c_67 => ?_)
            · have c_67 := bI_n1 c_67
              refine lv_iconst (v := nI 0) hx hb dX5_set_74 (by decide +kernel) ?_
              refine cs_i (y := bI false) (rfl) ?_
              refine lv_istore (lv' := [(6, .int (bI false)), (0, .ref z), (1, .ref zn), (2, .ref zs), (3, .int (nI j1)), (4, .int (nI j2)), (5, .int (bI ib))]) hx hb dX5_set_75 hl (by decide) rfl (fun ls hl => ?_)
              refine lv_iload hx hb dX5_set_77 (lv_at hl 0 rfl) ?_
              refine lv_iload hx hb dX5_set_79 (lv_at hl 6 rfl) ?_
              refine lv_icmp_eq (tgt := 94) hx hb dX5_set_81 (by decide) (fun c_81 => ?_) (fun c_81 => ?_)
              · have h81 : (ne j1).testBit j2 = ib := c_67.trans (bI_inj c_81)
                refine lv_iload hx hb dX5_set_94 (lv_at hl 0 rfl) ?_
                exact cs_zret hx hb hr hlocks hK hP hD hS (v := bI false) (bI_nar _) () (by rw [hc, vN_nI (by omega), vN_nI (by omega)]; rw [c_67]; rfl) (by rw [hc, vN_nI (by omega), vN_nI (by omega)]; first | rfl | (rw [wb_same h81, va_up_same]; rfl)) dX5_set_96
              · have h81 : ¬ (ne j1).testBit j2 = ib := fun z9 => c_81 (congrArg bI (c_67.symm.trans z9))
                refine lv_aload_n hx hb dX5_set_84 rfl (lv_at hl 2 rfl) ?_
                refine lv_iload_n hx hb dX5_set_85 rfl (lv_at hl 4 rfl) ?_
                refine lv_dup2_11 hx hb dX5_set_86 rfl rfl ?_
                refine va_iald hx hb hK hP 1 0 rfl rfl (vp_in_nI (by omega) (by omega)) dX5_set_87 ?_
                refine cs_i (y := nI (ne j1)) (nF_at _ (by omega)) ?_
                refine lv_iconst (v := nI 1) hx hb dX5_set_88 (by decide +kernel) ?_
                refine lv_iload hx hb dX5_set_89 (lv_at hl 5 rfl) ?_
                refine lv_ishl hx hb dX5_set_91 ?_
                refine cs_i (y := nI (2 ^ j2)) (nI_one_shl (by omega)) ?_
                refine lv_ixor hx hb dX5_set_92 ?_
                refine cs_i (y := nI ((ne j1) ^^^ (2 ^ j2))) (fb_xorI _ _) ?_
                refine va_iast hx hb hK hP hD hS 1 0 rfl rfl (vp_in_nI (by omega) (by omega)) dX5_set_93 (fun H locs hP hD hS => ?_)
                rw [nF_upd _ (by omega)] at hP hD
                have hP : va_P G.1 vwCl [(z, .inr (5, [.int (nI 0), .int (nI n), .ref zk, .int (nI rc), .ref zn, .ref zs, .int (nI ta), .ref zw, .int (nI st), .ref zf, .int (bI kp), .int (nI kd), .int (nI kq), .int (nI kt), .int (nI ks), .ref zg, .int (nI al)])), (zn, .inl (G.2.1, 6, .inl (nF (va_up ne j1 ((ne j1) ^^^ (2 ^ j2)))))), (zs, .inl (G.2.1, 6, .inl (nF sp)))] _ := hP
                have hD : va_D A [(z, .inr (5, [.int (nI 0), .int (nI n), .ref zk, .int (nI rc), .ref zn, .ref zs, .int (nI ta), .ref zw, .int (nI st), .ref zf, .int (bI kp), .int (nI kd), .int (nI kq), .int (nI kt), .int (nI ks), .ref zg, .int (nI al)])), (zn, .inl (G.2.1, 6, .inl (nF (va_up ne j1 ((ne j1) ^^^ (2 ^ j2)))))), (zs, .inl (G.2.1, 6, .inl (nF sp)))] := hD
                have e9 : nF (va_up ne j1 ((ne j1) ^^^ (2 ^ j2))) = nF (va_up ne j1 (wb (ne j1) j2 ib)) := congrArg (fun y9 => nF (va_up ne j1 y9)) (wb_x h81)
                rw [e9] at hP hD
                have hP : va_P G.1 vwCl [(z, .inr (5, [.int (nI 0), .int (nI n), .ref zk, .int (nI rc), .ref zn, .ref zs, .int (nI ta), .ref zw, .int (nI st), .ref zf, .int (bI kp), .int (nI kd), .int (nI kq), .int (nI kt), .int (nI ks), .ref zg, .int (nI al)])), (zn, .inl (G.2.1, 6, .inl (nF (va_up ne j1 (wb (ne j1) j2 ib))))), (zs, .inl (G.2.1, 6, .inl (nF sp)))] _ := hP
                have hD : va_D A [(z, .inr (5, [.int (nI 0), .int (nI n), .ref zk, .int (nI rc), .ref zn, .ref zs, .int (nI ta), .ref zw, .int (nI st), .ref zf, .int (bI kp), .int (nI kd), .int (nI kq), .int (nI kt), .int (nI ks), .ref zg, .int (nI al)])), (zn, .inl (G.2.1, 6, .inl (nF (va_up ne j1 (wb (ne j1) j2 ib))))), (zs, .inl (G.2.1, 6, .inl (nF sp)))] := hD
                refine lv_iload hx hb dX5_set_94 (lv_at hl 0 rfl) ?_
                exact cs_zret hx hb hr hlocks hK hP hD hS (v := bI false) (bI_nar _) () (by rw [hc, vN_nI (by omega), vN_nI (by omega)]; rw [c_67]; rfl) (by rw [hc, vN_nI (by omega), vN_nI (by omega)]; first | rfl | (rw [wb_same h81, va_up_same]; rfl)) dX5_set_96
            · have c_67 := bI_1 c_67
              refine lv_iconst (v := nI 1) hx hb dX5_set_70 (by decide +kernel) ?_
              refine cs_i (y := bI true) (rfl) ?_
              refine lv_goto (tgt := 75) hx hb dX5_set_71 (by decide) ?_
              refine lv_istore (lv' := [(6, .int (bI true)), (0, .ref z), (1, .ref zn), (2, .ref zs), (3, .int (nI j1)), (4, .int (nI j2)), (5, .int (bI ib))]) hx hb dX5_set_75 hl (by decide) rfl (fun ls hl => ?_)
              refine lv_iload hx hb dX5_set_77 (lv_at hl 0 rfl) ?_
              refine lv_iload hx hb dX5_set_79 (lv_at hl 6 rfl) ?_
              refine lv_icmp_eq (tgt := 94) hx hb dX5_set_81 (by decide) (fun c_81 => ?_) (fun c_81 => ?_)
              · have h81 : (ne j1).testBit j2 = ib := c_67.trans (bI_inj c_81)
                refine lv_iload hx hb dX5_set_94 (lv_at hl 0 rfl) ?_
                exact cs_zret hx hb hr hlocks hK hP hD hS (v := bI true) (bI_nar _) () (by rw [hc, vN_nI (by omega), vN_nI (by omega)]; rw [c_67]; rfl) (by rw [hc, vN_nI (by omega), vN_nI (by omega)]; first | rfl | (rw [wb_same h81, va_up_same]; rfl)) dX5_set_96
              · have h81 : ¬ (ne j1).testBit j2 = ib := fun z9 => c_81 (congrArg bI (c_67.symm.trans z9))
                refine lv_aload_n hx hb dX5_set_84 rfl (lv_at hl 2 rfl) ?_
                refine lv_iload_n hx hb dX5_set_85 rfl (lv_at hl 4 rfl) ?_
                refine lv_dup2_11 hx hb dX5_set_86 rfl rfl ?_
                refine va_iald hx hb hK hP 1 0 rfl rfl (vp_in_nI (by omega) (by omega)) dX5_set_87 ?_
                refine cs_i (y := nI (ne j1)) (nF_at _ (by omega)) ?_
                refine lv_iconst (v := nI 1) hx hb dX5_set_88 (by decide +kernel) ?_
                refine lv_iload hx hb dX5_set_89 (lv_at hl 5 rfl) ?_
                refine lv_ishl hx hb dX5_set_91 ?_
                refine cs_i (y := nI (2 ^ j2)) (nI_one_shl (by omega)) ?_
                refine lv_ixor hx hb dX5_set_92 ?_
                refine cs_i (y := nI ((ne j1) ^^^ (2 ^ j2))) (fb_xorI _ _) ?_
                refine va_iast hx hb hK hP hD hS 1 0 rfl rfl (vp_in_nI (by omega) (by omega)) dX5_set_93 (fun H locs hP hD hS => ?_)
                rw [nF_upd _ (by omega)] at hP hD
                have hP : va_P G.1 vwCl [(z, .inr (5, [.int (nI 0), .int (nI n), .ref zk, .int (nI rc), .ref zn, .ref zs, .int (nI ta), .ref zw, .int (nI st), .ref zf, .int (bI kp), .int (nI kd), .int (nI kq), .int (nI kt), .int (nI ks), .ref zg, .int (nI al)])), (zn, .inl (G.2.1, 6, .inl (nF (va_up ne j1 ((ne j1) ^^^ (2 ^ j2)))))), (zs, .inl (G.2.1, 6, .inl (nF sp)))] _ := hP
                have hD : va_D A [(z, .inr (5, [.int (nI 0), .int (nI n), .ref zk, .int (nI rc), .ref zn, .ref zs, .int (nI ta), .ref zw, .int (nI st), .ref zf, .int (bI kp), .int (nI kd), .int (nI kq), .int (nI kt), .int (nI ks), .ref zg, .int (nI al)])), (zn, .inl (G.2.1, 6, .inl (nF (va_up ne j1 ((ne j1) ^^^ (2 ^ j2)))))), (zs, .inl (G.2.1, 6, .inl (nF sp)))] := hD
                have e9 : nF (va_up ne j1 ((ne j1) ^^^ (2 ^ j2))) = nF (va_up ne j1 (wb (ne j1) j2 ib)) := congrArg (fun y9 => nF (va_up ne j1 y9)) (wb_x h81)
                rw [e9] at hP hD
                have hP : va_P G.1 vwCl [(z, .inr (5, [.int (nI 0), .int (nI n), .ref zk, .int (nI rc), .ref zn, .ref zs, .int (nI ta), .ref zw, .int (nI st), .ref zf, .int (bI kp), .int (nI kd), .int (nI kq), .int (nI kt), .int (nI ks), .ref zg, .int (nI al)])), (zn, .inl (G.2.1, 6, .inl (nF (va_up ne j1 (wb (ne j1) j2 ib))))), (zs, .inl (G.2.1, 6, .inl (nF sp)))] _ := hP
                have hD : va_D A [(z, .inr (5, [.int (nI 0), .int (nI n), .ref zk, .int (nI rc), .ref zn, .ref zs, .int (nI ta), .ref zw, .int (nI st), .ref zf, .int (bI kp), .int (nI kd), .int (nI kq), .int (nI kt), .int (nI ks), .ref zg, .int (nI al)])), (zn, .inl (G.2.1, 6, .inl (nF (va_up ne j1 (wb (ne j1) j2 ib))))), (zs, .inl (G.2.1, 6, .inl (nF sp)))] := hD
                refine lv_iload hx hb dX5_set_94 (lv_at hl 0 rfl) ?_
                exact cs_zret hx hb hr hlocks hK hP hD hS (v := bI true) (bI_nar _) () (by rw [hc, vN_nI (by omega), vN_nI (by omega)]; rw [c_67]; rfl) (by rw [hc, vN_nI (by omega), vN_nI (by omega)]; first | rfl | (rw [wb_same h81, va_up_same]; rfl)) dX5_set_96
          · exact absurd (by decide +kernel) c_53
        · have c_38 := bI_1 c_38
          have hc : stc (nI j1) (nI j2) ib rc sp = 2 := by unfold stc; rw [if_pos hcb, vN_nI (by omega), vN_nI (by omega), if_pos ⟨c_26, c_38⟩]
          refine lv_iconst (v := nI 2) hx hb dX5_set_41 (by decide +kernel) ?_
          refine lv_goto (tgt := 46) hx hb dX5_set_42 (by decide) ?_
          refine va_put (D := G.1) (ci := 5) (v := .int (nI 2)) (ty := .int) (C := RX5) (T := TX5) (N := 17) hx hb hts hin5 tyX5 tyX5_ok nmX5 hown hK hP hD hS 0 rfl rfl 0 (by decide) (hts (.fieldLink RX5 28 "FaultShrinkerModel" "thrown" "I") (List.mem_of_getElem? (i := 1) rfl)) (fun _ h9 => h9) rfl (by decide +kernel) rfl rfl (Nat.le_of_ble_eq_true rfl) dX5_set_46 (fun H locs hP hD hS => ?_)
          have hP : va_P G.1 vwCl [(z, .inr (5, [.int (nI 2), .int (nI n), .ref zk, .int (nI rc), .ref zn, .ref zs, .int (nI ta), .ref zw, .int (nI st), .ref zf, .int (bI kp), .int (nI kd), .int (nI kq), .int (nI kt), .int (nI ks), .ref zg, .int (nI al)])), (zn, .inl (G.2.1, 6, .inl (nF ne))), (zs, .inl (G.2.1, 6, .inl (nF sp)))] _ := hP
          have hD : va_D A [(z, .inr (5, [.int (nI 2), .int (nI n), .ref zk, .int (nI rc), .ref zn, .ref zs, .int (nI ta), .ref zw, .int (nI st), .ref zf, .int (bI kp), .int (nI kd), .int (nI kq), .int (nI kt), .int (nI ks), .ref zg, .int (nI al)])), (zn, .inl (G.2.1, 6, .inl (nF ne))), (zs, .inl (G.2.1, 6, .inl (nF sp)))] := hD
          refine lv_aload_n hx hb dX5_set_49 rfl (lv_at hl 0 rfl) ?_
          refine va_get (D := G.1) (ci := 5) (v := .int (nI 2)) (C := RX5) (T := TX5) (N := 17) hx hb hts hin5 hown hK hP 0 rfl rfl 0 (by decide) (hts (.fieldLink RX5 28 "FaultShrinkerModel" "thrown" "I") (List.mem_of_getElem? (i := 1) rfl)) (fun _ h9 => h9) rfl dX5_set_50 ?_
          refine lv_if_eq (tgt := 58) hx hb dX5_set_53 (by decide) (fun c_53 => ?_) (fun c_53 => ?_)
          · exact absurd c_53 (by decide +kernel)
          · refine lv_iconst (v := nI 0) hx hb dX5_set_56 (by decide +kernel) ?_
            exact cs_zret hx hb hr hlocks hK hP hD hS (v := nI 0) (rfl) () (by rw [hc]; rfl) (by rw [hc] <;> rfl) dX5_set_57
    · have c_17 := bI_0 c_17
      have hc : stc x1 x2 ib rc sp = 1 := if_neg (fun z9 => by rw [c_17] at z9; cases z9.2)
      refine lv_iconst (v := nI 1) hx hb dX5_set_20 (by decide +kernel) ?_
      refine lv_goto (tgt := 46) hx hb dX5_set_21 (by decide) ?_
      refine va_put (D := G.1) (ci := 5) (v := .int (nI 1)) (ty := .int) (C := RX5) (T := TX5) (N := 17) hx hb hts hin5 tyX5 tyX5_ok nmX5 hown hK hP hD hS 0 rfl rfl 0 (by decide) (hts (.fieldLink RX5 28 "FaultShrinkerModel" "thrown" "I") (List.mem_of_getElem? (i := 1) rfl)) (fun _ h9 => h9) rfl (by decide +kernel) rfl rfl (Nat.le_of_ble_eq_true rfl) dX5_set_46 (fun H locs hP hD hS => ?_)
      have hP : va_P G.1 vwCl [(z, .inr (5, [.int (nI 1), .int (nI n), .ref zk, .int (nI rc), .ref zn, .ref zs, .int (nI ta), .ref zw, .int (nI st), .ref zf, .int (bI kp), .int (nI kd), .int (nI kq), .int (nI kt), .int (nI ks), .ref zg, .int (nI al)])), (zn, .inl (G.2.1, 6, .inl (nF ne))), (zs, .inl (G.2.1, 6, .inl (nF sp)))] _ := hP
      have hD : va_D A [(z, .inr (5, [.int (nI 1), .int (nI n), .ref zk, .int (nI rc), .ref zn, .ref zs, .int (nI ta), .ref zw, .int (nI st), .ref zf, .int (bI kp), .int (nI kd), .int (nI kq), .int (nI kt), .int (nI ks), .ref zg, .int (nI al)])), (zn, .inl (G.2.1, 6, .inl (nF ne))), (zs, .inl (G.2.1, 6, .inl (nF sp)))] := hD
      refine lv_aload_n hx hb dX5_set_49 rfl (lv_at hl 0 rfl) ?_
      refine va_get (D := G.1) (ci := 5) (v := .int (nI 1)) (C := RX5) (T := TX5) (N := 17) hx hb hts hin5 hown hK hP 0 rfl rfl 0 (by decide) (hts (.fieldLink RX5 28 "FaultShrinkerModel" "thrown" "I") (List.mem_of_getElem? (i := 1) rfl)) (fun _ h9 => h9) rfl dX5_set_50 ?_
      refine lv_if_eq (tgt := 58) hx hb dX5_set_53 (by decide) (fun c_53 => ?_) (fun c_53 => ?_)
      · exact absurd c_53 (by decide +kernel)
      · refine lv_iconst (v := nI 0) hx hb dX5_set_56 (by decide +kernel) ?_
        exact cs_zret hx hb hr hlocks hK hP hD hS (v := nI 0) (rfl) () (by rw [hc]; rfl) (by rw [hc] <;> rfl) dX5_set_57

set_option maxHeartbeats 4000000 in
set_option maxRecDepth 100000 in
theorem c_X5_setb (l : Launch) (G : cG) (z zk zn zs zw zf zg th n rc ta st : Nat) (kp : Bool) (kd kq kt ks al : Nat) (hn : n ≤ 24) (hrc : rc ≤ 6) (ne sp : Nat → Nat) (hne : ∀ j, j < 6 → ne j < 65536) (hsp : ∀ j, j < 6 → sp j < 65536) (x1 x2 : Int32) (ib : Bool) : cMI l G yX5_set wsX5_set ({ frames := 2, cells := 0, slots := 0, locals := 43 }) [.ref z, .ref zs, .ref zn, .int x1, .int x2, .int (bI ib)] [(z, .inr (5, [.int (nI th), .int (nI n), .ref zk, .int (nI rc), .ref zn, .ref zs, .int (nI ta), .ref zw, .int (nI st), .ref zf, .int (bI kp), .int (nI kd), .int (nI kq), .int (nI kt), .int (nI ks), .ref zg, .int (nI al)])), (zn, .inl (G.2.1, 6, .inl (nF ne))), (zs, .inl (G.2.1, 6, .inl (nF sp)))] (fun (r_ : Int32) (_ : Unit) => r_ = bI (decide (stc x1 x2 ib rc ne = 0) && (sp (vN x1)).testBit (vN x2))) (fun (_ : Unit) => [(z, .inr (5, [.int (nI (stc x1 x2 ib rc ne)), .int (nI n), .ref zk, .int (nI rc), .ref zn, .ref zs, .int (nI ta), .ref zw, .int (nI st), .ref zf, .int (bI kp), .int (nI kd), .int (nI kq), .int (nI kt), .int (nI ks), .ref zg, .int (nI al)])), (zn, .inl (G.2.1, 6, .inl (nF ne))), (zs, .inl (G.2.1, 6, .inl (nF (if stc x1 x2 ib rc ne = 0 then va_up sp (vN x1) (wb (sp (vN x1)) (vN x2) ib) else sp))))]) := by
  refine cs_sI (own := RX5) (cc := cX5_set) (maxL := 7) (ret := (some .boolean)) (by decide) rfl rfl (Nat.le_of_ble_eq_true rfl) ?_
  intro p e s m below meth c A hx hb hr hml hts hown hlocks hinit hA hK hP hD hS ls hl
  have hin5 := in5_X5_set
  have hl : lv_has ls 7 [(0, .ref z), (1, .ref zs), (2, .ref zn), (3, .int x1), (4, .int x2), (5, .int (bI ib))] := hl
  refine lv_aload_n hx hb dX5_set_0 rfl (lv_at hl 0 rfl) ?_
  refine lv_aload_n hx hb dX5_set_1 rfl (lv_at hl 0 rfl) ?_
  refine lv_iload_n hx hb dX5_set_2 rfl (lv_at hl 3 rfl) ?_
  refine cs_vi (As := [.int x1]) (rest := [.ref z]) (wr := [(zn, .inl (G.2.1, 6, .inl (nF ne))), (zs, .inl (G.2.1, 6, .inl (nF sp)))]) ⟨hx, hb, hml, hown, hts⟩ hK hP hD hS hA (c_X5_isRule l G z zk zn zs zw zf zg th n rc ta st kp kd kq kt ks al (by first | assumption | omega) (by first | assumption | omega) x1) (cwV 1 hts gX5_set_X5_isRule rfl rfl rfl (by decide +kernel) ⟨Nat.le_of_ble_eq_true rfl, Nat.le_of_ble_eq_true rfl⟩) [0] [1, 2] ⟨rfl, rfl, by decide, by decide, by decide⟩ 0 5 rfl rfl rfl hl.1 rfl (Nat.le_of_ble_eq_true rfl) ⟨Nat.le_of_ble_eq_true rfl, Nat.le_of_ble_eq_true rfl⟩ dX5_set_3 (fun r u H locs hw hP hD hS => ?_)
  have hP : va_P G.1 vwCl [(z, .inr (5, [.int (nI th), .int (nI n), .ref zk, .int (nI rc), .ref zn, .ref zs, .int (nI ta), .ref zw, .int (nI st), .ref zf, .int (bI kp), .int (nI kd), .int (nI kq), .int (nI kt), .int (nI ks), .ref zg, .int (nI al)])), (zn, .inl (G.2.1, 6, .inl (nF ne))), (zs, .inl (G.2.1, 6, .inl (nF sp)))] H := hP.sub [2, 0, 1] rfl
  have hD : va_D A [(z, .inr (5, [.int (nI th), .int (nI n), .ref zk, .int (nI rc), .ref zn, .ref zs, .int (nI ta), .ref zw, .int (nI st), .ref zf, .int (bI kp), .int (nI kd), .int (nI kq), .int (nI kt), .int (nI ks), .ref zg, .int (nI al)])), (zn, .inl (G.2.1, 6, .inl (nF ne))), (zs, .inl (G.2.1, 6, .inl (nF sp)))] := hD.sub [2, 0, 1] (by decide) rfl
  subst hw
  refine lv_if_eq (tgt := 20) hx hb dX5_set_6 (by decide) (fun c_6 => ?_) (fun c_6 => ?_)
  · have c_6 := bI_0 c_6
    have hc : stc x1 x2 ib rc ne = 1 := if_neg (fun z9 => by rw [c_6] at z9; cases z9.1)
    refine lv_iconst (v := nI 1) hx hb dX5_set_20 (by decide +kernel) ?_
    refine lv_goto (tgt := 46) hx hb dX5_set_21 (by decide) ?_
    refine va_put (D := G.1) (ci := 5) (v := .int (nI 1)) (ty := .int) (C := RX5) (T := TX5) (N := 17) hx hb hts hin5 tyX5 tyX5_ok nmX5 hown hK hP hD hS 0 rfl rfl 0 (by decide) (hts (.fieldLink RX5 28 "FaultShrinkerModel" "thrown" "I") (List.mem_of_getElem? (i := 1) rfl)) (fun _ h9 => h9) rfl (by decide +kernel) rfl rfl (Nat.le_of_ble_eq_true rfl) dX5_set_46 (fun H locs hP hD hS => ?_)
    have hP : va_P G.1 vwCl [(z, .inr (5, [.int (nI 1), .int (nI n), .ref zk, .int (nI rc), .ref zn, .ref zs, .int (nI ta), .ref zw, .int (nI st), .ref zf, .int (bI kp), .int (nI kd), .int (nI kq), .int (nI kt), .int (nI ks), .ref zg, .int (nI al)])), (zn, .inl (G.2.1, 6, .inl (nF ne))), (zs, .inl (G.2.1, 6, .inl (nF sp)))] _ := hP
    have hD : va_D A [(z, .inr (5, [.int (nI 1), .int (nI n), .ref zk, .int (nI rc), .ref zn, .ref zs, .int (nI ta), .ref zw, .int (nI st), .ref zf, .int (bI kp), .int (nI kd), .int (nI kq), .int (nI kt), .int (nI ks), .ref zg, .int (nI al)])), (zn, .inl (G.2.1, 6, .inl (nF ne))), (zs, .inl (G.2.1, 6, .inl (nF sp)))] := hD
    refine lv_aload_n hx hb dX5_set_49 rfl (lv_at hl 0 rfl) ?_
    refine va_get (D := G.1) (ci := 5) (v := .int (nI 1)) (C := RX5) (T := TX5) (N := 17) hx hb hts hin5 hown hK hP 0 rfl rfl 0 (by decide) (hts (.fieldLink RX5 28 "FaultShrinkerModel" "thrown" "I") (List.mem_of_getElem? (i := 1) rfl)) (fun _ h9 => h9) rfl dX5_set_50 ?_
    refine lv_if_eq (tgt := 58) hx hb dX5_set_53 (by decide) (fun c_53 => ?_) (fun c_53 => ?_)
    · exact absurd c_53 (by decide +kernel)
    · refine lv_iconst (v := nI 0) hx hb dX5_set_56 (by decide +kernel) ?_
      exact cs_zret hx hb hr hlocks hK hP hD hS (v := nI 0) (rfl) () (by rw [hc]; rfl) (by rw [hc] <;> rfl) dX5_set_57
  · have c_6 := bI_n0 c_6
    refine lv_iload hx hb dX5_set_9 (lv_at hl 4 rfl) ?_
    refine lv_iconst (v := nI 0) hx hb dX5_set_11 (by decide +kernel) ?_
    refine lv_bipush (v := nI 15) hx hb dX5_set_12 (by decide +kernel) ?_
    refine cs_si (As := [.int x2, .int (nI 0), .int (nI 15)]) (rest := [.ref z]) (wr := [(z, .inr (5, [.int (nI th), .int (nI n), .ref zk, .int (nI rc), .ref zn, .ref zs, .int (nI ta), .ref zw, .int (nI st), .ref zf, .int (bI kp), .int (nI kd), .int (nI kq), .int (nI kt), .int (nI ks), .ref zg, .int (nI al)])), (zn, .inl (G.2.1, 6, .inl (nF ne))), (zs, .inl (G.2.1, 6, .inl (nF sp)))]) ⟨hx, hb, hml, hown, hts⟩ hK hP hD hS hA (c_X5_isIn l G x2 (nI 0) (nI 15)) (va_cwS 3 hts gX5_set_X5_isIn rfl rfl rfl (by decide +kernel) ⟨Nat.le_of_ble_eq_true rfl, Nat.le_of_ble_eq_true rfl⟩) [] [0, 1, 2] ⟨rfl, rfl, by decide, by decide, by decide⟩ rfl hl.1 rfl (Nat.le_of_ble_eq_true rfl) ⟨Nat.le_of_ble_eq_true rfl, Nat.le_of_ble_eq_true rfl⟩ dX5_set_14 (fun r u H locs hw hP hD hS => ?_)
    have hP : va_P G.1 vwCl [(z, .inr (5, [.int (nI th), .int (nI n), .ref zk, .int (nI rc), .ref zn, .ref zs, .int (nI ta), .ref zw, .int (nI st), .ref zf, .int (bI kp), .int (nI kd), .int (nI kq), .int (nI kt), .int (nI ks), .ref zg, .int (nI al)])), (zn, .inl (G.2.1, 6, .inl (nF ne))), (zs, .inl (G.2.1, 6, .inl (nF sp)))] H := hP.sub [0, 1, 2] rfl
    have hD : va_D A [(z, .inr (5, [.int (nI th), .int (nI n), .ref zk, .int (nI rc), .ref zn, .ref zs, .int (nI ta), .ref zw, .int (nI st), .ref zf, .int (bI kp), .int (nI kd), .int (nI kq), .int (nI kt), .int (nI ks), .ref zg, .int (nI al)])), (zn, .inl (G.2.1, 6, .inl (nF ne))), (zs, .inl (G.2.1, 6, .inl (nF sp)))] := hD.sub [0, 1, 2] (by decide) rfl
    subst hw
    refine cs_i (y := bI (hp x2 16)) (congrArg bI (inI_n x2 (by omega))) ?_
    refine lv_if_ne (tgt := 24) hx hb dX5_set_17 (by decide) (fun c_17 => ?_) (fun c_17 => ?_)
    · have c_17 := bI_n0 c_17
      have hcb : hp x1 rc = true ∧ hp x2 16 = true := ⟨c_6, c_17⟩
      obtain ⟨j1, hj1, rfl⟩ := hp_of2 (by omega) c_6
      obtain ⟨j2, hj2, rfl⟩ := hp_of2 (by omega) c_17
      have hnj := hne j1 (by omega)
      have hsj := hsp j1 (by omega)
      refine lv_iload hx hb dX5_set_24 (lv_at hl 5 rfl) ?_
      refine lv_if_eq (tgt := 45) hx hb dX5_set_26 (by decide) (fun c_26 => ?_) (fun c_26 => ?_)
      · have c_26 := bI_0 c_26
        have hc : stc (nI j1) (nI j2) ib rc ne = 0 := by unfold stc; rw [if_pos hcb, if_neg (fun z9 => by rw [c_26] at z9; cases z9.1)]
        refine lv_iconst (v := nI 0) hx hb dX5_set_45 (by decide +kernel) ?_
        refine va_put (D := G.1) (ci := 5) (v := .int (nI 0)) (ty := .int) (C := RX5) (T := TX5) (N := 17) hx hb hts hin5 tyX5 tyX5_ok nmX5 hown hK hP hD hS 0 rfl rfl 0 (by decide) (hts (.fieldLink RX5 28 "FaultShrinkerModel" "thrown" "I") (List.mem_of_getElem? (i := 1) rfl)) (fun _ h9 => h9) rfl (by decide +kernel) rfl rfl (Nat.le_of_ble_eq_true rfl) dX5_set_46 (fun H locs hP hD hS => ?_)
        have hP : va_P G.1 vwCl [(z, .inr (5, [.int (nI 0), .int (nI n), .ref zk, .int (nI rc), .ref zn, .ref zs, .int (nI ta), .ref zw, .int (nI st), .ref zf, .int (bI kp), .int (nI kd), .int (nI kq), .int (nI kt), .int (nI ks), .ref zg, .int (nI al)])), (zn, .inl (G.2.1, 6, .inl (nF ne))), (zs, .inl (G.2.1, 6, .inl (nF sp)))] _ := hP
        have hD : va_D A [(z, .inr (5, [.int (nI 0), .int (nI n), .ref zk, .int (nI rc), .ref zn, .ref zs, .int (nI ta), .ref zw, .int (nI st), .ref zf, .int (bI kp), .int (nI kd), .int (nI kq), .int (nI kt), .int (nI ks), .ref zg, .int (nI al)])), (zn, .inl (G.2.1, 6, .inl (nF ne))), (zs, .inl (G.2.1, 6, .inl (nF sp)))] := hD
        refine lv_aload_n hx hb dX5_set_49 rfl (lv_at hl 0 rfl) ?_
        refine va_get (D := G.1) (ci := 5) (v := .int (nI 0)) (C := RX5) (T := TX5) (N := 17) hx hb hts hin5 hown hK hP 0 rfl rfl 0 (by decide) (hts (.fieldLink RX5 28 "FaultShrinkerModel" "thrown" "I") (List.mem_of_getElem? (i := 1) rfl)) (fun _ h9 => h9) rfl dX5_set_50 ?_
        refine lv_if_eq (tgt := 58) hx hb dX5_set_53 (by decide) (fun c_53 => ?_) (fun c_53 => ?_)
        · refine lv_aload_n hx hb dX5_set_58 rfl (lv_at hl 1 rfl) ?_
          refine lv_iload_n hx hb dX5_set_59 rfl (lv_at hl 3 rfl) ?_
          refine va_iald hx hb hK hP 2 0 rfl rfl (vp_in_nI (by omega) (by omega)) dX5_set_60 ?_
          refine cs_i (y := nI (sp j1)) (nF_at _ (by omega)) ?_
          refine lv_iload hx hb dX5_set_61 (lv_at hl 4 rfl) ?_
          refine lv_ishr hx hb dX5_set_63 ?_
          refine cs_i (y := nI ((sp j1) >>> j2)) (nI_shr (by omega) (by omega)) ?_
          refine lv_iconst (v := nI 1) hx hb dX5_set_64 (by decide +kernel) ?_
          refine lv_iand hx hb dX5_set_65 ?_
          refine cs_i (y := bI ((sp j1).testBit j2)) (by rw [fa_and]; exact bitI _ _) ?_
          refine lv_iconst (v := nI 1) hx hb dX5_set_66 (by decide +kernel) ?_
          refine lv_icmp_ne (tgt := 74) hx hb dX5_set_67 (by decide) (fun c_67 => ?_) (fun c_67 => ?_)
          · have c_67 := bI_n1 c_67
            refine lv_iconst (v := nI 0) hx hb dX5_set_74 (by decide +kernel) ?_
            refine cs_i (y := bI false) (rfl) ?_
            refine lv_istore (lv' := [(6, .int (bI false)), (0, .ref z), (1, .ref zs), (2, .ref zn), (3, .int (nI j1)), (4, .int (nI j2)), (5, .int (bI ib))]) hx hb dX5_set_75 hl (by decide) rfl (fun ls hl => ?_)
            refine lv_iload hx hb dX5_set_77 (lv_at hl 0 rfl) ?_
            refine lv_iload hx hb dX5_set_79 (lv_at hl 6 rfl) ?_
            refine lv_icmp_eq (tgt := 94) hx hb dX5_set_81 (by decide) (fun c_81 => ?_) (fun c_81 => ?_)
            · have h81 : (sp j1).testBit j2 = ib := c_67.trans (bI_inj c_81)
              refine lv_iload hx hb dX5_set_94 (lv_at hl 0 rfl) ?_
              exact cs_zret hx hb hr hlocks hK hP hD hS (v := bI false) (bI_nar _) () (by rw [hc, vN_nI (by omega), vN_nI (by omega)]; rw [c_67]; rfl) (by rw [hc, vN_nI (by omega), vN_nI (by omega)]; first | rfl | (rw [wb_same h81, va_up_same]; rfl)) dX5_set_96
            · have h81 : ¬ (sp j1).testBit j2 = ib := fun z9 => c_81 (congrArg bI (c_67.symm.trans z9))
              refine lv_aload_n hx hb dX5_set_84 rfl (lv_at hl 2 rfl) ?_
              refine lv_iload_n hx hb dX5_set_85 rfl (lv_at hl 4 rfl) ?_
              refine lv_dup2_11 hx hb dX5_set_86 rfl rfl ?_
              refine va_iald hx hb hK hP 2 0 rfl rfl (vp_in_nI (by omega) (by omega)) dX5_set_87 ?_
              refine cs_i (y := nI (sp j1)) (nF_at _ (by omega)) ?_
              refine lv_iconst (v := nI 1) hx hb dX5_set_88 (by decide +kernel) ?_
              refine lv_iload hx hb dX5_set_89 (lv_at hl 5 rfl) ?_
              refine lv_ishl hx hb dX5_set_91 ?_
              refine cs_i (y := nI (2 ^ j2)) (nI_one_shl (by omega)) ?_
              refine lv_ixor hx hb dX5_set_92 ?_
              refine cs_i (y := nI ((sp j1) ^^^ (2 ^ j2))) (fb_xorI _ _) ?_
              refine va_iast hx hb hK hP hD hS 2 0 rfl rfl (vp_in_nI (by omega) (by omega)) dX5_set_93 (fun H locs hP hD hS => ?_)
              rw [nF_upd _ (by omega)] at hP hD
              have hP : va_P G.1 vwCl [(z, .inr (5, [.int (nI 0), .int (nI n), .ref zk, .int (nI rc), .ref zn, .ref zs, .int (nI ta), .ref zw, .int (nI st), .ref zf, .int (bI kp), .int (nI kd), .int (nI kq), .int (nI kt), .int (nI ks), .ref zg, .int (nI al)])), (zn, .inl (G.2.1, 6, .inl (nF ne))), (zs, .inl (G.2.1, 6, .inl (nF (va_up sp j1 ((sp j1) ^^^ (2 ^ j2))))))] _ := hP
              have hD : va_D A [(z, .inr (5, [.int (nI 0), .int (nI n), .ref zk, .int (nI rc), .ref zn, .ref zs, .int (nI ta), .ref zw, .int (nI st), .ref zf, .int (bI kp), .int (nI kd), .int (nI kq), .int (nI kt), .int (nI ks), .ref zg, .int (nI al)])), (zn, .inl (G.2.1, 6, .inl (nF ne))), (zs, .inl (G.2.1, 6, .inl (nF (va_up sp j1 ((sp j1) ^^^ (2 ^ j2))))))] := hD
              have e9 : nF (va_up sp j1 ((sp j1) ^^^ (2 ^ j2))) = nF (va_up sp j1 (wb (sp j1) j2 ib)) := congrArg (fun y9 => nF (va_up sp j1 y9)) (wb_x h81)
              rw [e9] at hP hD
              have hP : va_P G.1 vwCl [(z, .inr (5, [.int (nI 0), .int (nI n), .ref zk, .int (nI rc), .ref zn, .ref zs, .int (nI ta), .ref zw, .int (nI st), .ref zf, .int (bI kp), .int (nI kd), .int (nI kq), .int (nI kt), .int (nI ks), .ref zg, .int (nI al)])), (zn, .inl (G.2.1, 6, .inl (nF ne))), (zs, .inl (G.2.1, 6, .inl (nF (va_up sp j1 (wb (sp j1) j2 ib)))))] _ := hP
              have hD : va_D A [(z, .inr (5, [.int (nI 0), .int (nI n), .ref zk, .int (nI rc), .ref zn, .ref zs, .int (nI ta), .ref zw, .int (nI st), .ref zf, .int (bI kp), .int (nI kd), .int (nI kq), .int (nI kt), .int (nI ks), .ref zg, .int (nI al)])), (zn, .inl (G.2.1, 6, .inl (nF ne))), (zs, .inl (G.2.1, 6, .inl (nF (va_up sp j1 (wb (sp j1) j2 ib)))))] := hD
              refine lv_iload hx hb dX5_set_94 (lv_at hl 0 rfl) ?_
              exact cs_zret hx hb hr hlocks hK hP hD hS (v := bI false) (bI_nar _) () (by rw [hc, vN_nI (by omega), vN_nI (by omega)]; rw [c_67]; rfl) (by rw [hc, vN_nI (by omega), vN_nI (by omega)]; first | rfl | (rw [wb_same h81, va_up_same]; rfl)) dX5_set_96
          · have c_67 := bI_1 c_67
            refine lv_iconst (v := nI 1) hx hb dX5_set_70 (by decide +kernel) ?_
            refine cs_i (y := bI true) (rfl) ?_
            refine lv_goto (tgt := 75) hx hb dX5_set_71 (by decide) ?_
            refine lv_istore (lv' := [(6, .int (bI true)), (0, .ref z), (1, .ref zs), (2, .ref zn), (3, .int (nI j1)), (4, .int (nI j2)), (5, .int (bI ib))]) hx hb dX5_set_75 hl (by decide) rfl (fun ls hl => ?_)
            refine lv_iload hx hb dX5_set_77 (lv_at hl 0 rfl) ?_
            refine lv_iload hx hb dX5_set_79 (lv_at hl 6 rfl) ?_
            refine lv_icmp_eq (tgt := 94) hx hb dX5_set_81 (by decide) (fun c_81 => ?_) (fun c_81 => ?_)
            · have h81 : (sp j1).testBit j2 = ib := c_67.trans (bI_inj c_81)
              refine lv_iload hx hb dX5_set_94 (lv_at hl 0 rfl) ?_
              exact cs_zret hx hb hr hlocks hK hP hD hS (v := bI true) (bI_nar _) () (by rw [hc, vN_nI (by omega), vN_nI (by omega)]; rw [c_67]; rfl) (by rw [hc, vN_nI (by omega), vN_nI (by omega)]; first | rfl | (rw [wb_same h81, va_up_same]; rfl)) dX5_set_96
            · have h81 : ¬ (sp j1).testBit j2 = ib := fun z9 => c_81 (congrArg bI (c_67.symm.trans z9))
              refine lv_aload_n hx hb dX5_set_84 rfl (lv_at hl 2 rfl) ?_
              refine lv_iload_n hx hb dX5_set_85 rfl (lv_at hl 4 rfl) ?_
              refine lv_dup2_11 hx hb dX5_set_86 rfl rfl ?_
              refine va_iald hx hb hK hP 2 0 rfl rfl (vp_in_nI (by omega) (by omega)) dX5_set_87 ?_
              refine cs_i (y := nI (sp j1)) (nF_at _ (by omega)) ?_
              refine lv_iconst (v := nI 1) hx hb dX5_set_88 (by decide +kernel) ?_
              refine lv_iload hx hb dX5_set_89 (lv_at hl 5 rfl) ?_
              refine lv_ishl hx hb dX5_set_91 ?_
              refine cs_i (y := nI (2 ^ j2)) (nI_one_shl (by omega)) ?_
              refine lv_ixor hx hb dX5_set_92 ?_
              refine cs_i (y := nI ((sp j1) ^^^ (2 ^ j2))) (fb_xorI _ _) ?_
              refine va_iast hx hb hK hP hD hS 2 0 rfl rfl (vp_in_nI (by omega) (by omega)) dX5_set_93 (fun H locs hP hD hS => ?_)
              rw [nF_upd _ (by omega)] at hP hD
              have hP : va_P G.1 vwCl [(z, .inr (5, [.int (nI 0), .int (nI n), .ref zk, .int (nI rc), .ref zn, .ref zs, .int (nI ta), .ref zw, .int (nI st), .ref zf, .int (bI kp), .int (nI kd), .int (nI kq), .int (nI kt), .int (nI ks), .ref zg, .int (nI al)])), (zn, .inl (G.2.1, 6, .inl (nF ne))), (zs, .inl (G.2.1, 6, .inl (nF (va_up sp j1 ((sp j1) ^^^ (2 ^ j2))))))] _ := hP
              have hD : va_D A [(z, .inr (5, [.int (nI 0), .int (nI n), .ref zk, .int (nI rc), .ref zn, .ref zs, .int (nI ta), .ref zw, .int (nI st), .ref zf, .int (bI kp), .int (nI kd), .int (nI kq), .int (nI kt), .int (nI ks), .ref zg, .int (nI al)])), (zn, .inl (G.2.1, 6, .inl (nF ne))), (zs, .inl (G.2.1, 6, .inl (nF (va_up sp j1 ((sp j1) ^^^ (2 ^ j2))))))] := hD
              have e9 : nF (va_up sp j1 ((sp j1) ^^^ (2 ^ j2))) = nF (va_up sp j1 (wb (sp j1) j2 ib)) := congrArg (fun y9 => nF (va_up sp j1 y9)) (wb_x h81)
              rw [e9] at hP hD
              have hP : va_P G.1 vwCl [(z, .inr (5, [.int (nI 0), .int (nI n), .ref zk, .int (nI rc), .ref zn, .ref zs, .int (nI ta), .ref zw, .int (nI st), .ref zf, .int (bI kp), .int (nI kd), .int (nI kq), .int (nI kt), .int (nI ks), .ref zg, .int (nI al)])), (zn, .inl (G.2.1, 6, .inl (nF ne))), (zs, .inl (G.2.1, 6, .inl (nF (va_up sp j1 (wb (sp j1) j2 ib)))))] _ := hP
              have hD : va_D A [(z, .inr (5, [.int (nI 0), .int (nI n), .ref zk, .int (nI rc), .ref zn, .ref zs, .int (nI ta), .ref zw, .int (nI st), .ref zf, .int (bI kp), .int (nI kd), .int (nI kq), .int (nI kt), .int (nI ks), .ref zg, .int (nI al)])), (zn, .inl (G.2.1, 6, .inl (nF ne))), (zs, .inl (G.2.1, 6, .inl (nF (va_up sp j1 (wb (sp j1) j2 ib)))))] := hD
              refine lv_iload hx hb dX5_set_94 (lv_at hl 0 rfl) ?_
              exact cs_zret hx hb hr hlocks hK hP hD hS (v := bI true) (bI_nar _) () (by rw [hc, vN_nI (by omega), vN_nI (by omega)]; rw [c_67]; rfl) (by rw [hc, vN_nI (by omega), vN_nI (by omega)]; first | rfl | (rw [wb_same h81, va_up_same]; rfl)) dX5_set_96
        · exact absurd (by decide +kernel) c_53
      · have c_26 := bI_n0 c_26
        refine lv_aload_n hx hb dX5_set_29 rfl (lv_at hl 2 rfl) ?_
        refine lv_iload_n hx hb dX5_set_30 rfl (lv_at hl 3 rfl) ?_
        refine va_iald hx hb hK hP 1 0 rfl rfl (vp_in_nI (by omega) (by omega)) dX5_set_31 ?_
        refine cs_i (y := nI (ne j1)) (nF_at _ (by omega)) ?_
        refine lv_iload hx hb dX5_set_32 (lv_at hl 4 rfl) ?_
        refine lv_ishr hx hb dX5_set_34 ?_
        refine cs_i (y := nI ((ne j1) >>> j2)) (nI_shr (by omega) (by omega)) ?_
        refine lv_iconst (v := nI 1) hx hb dX5_set_35 (by decide +kernel) ?_
        refine lv_iand hx hb dX5_set_36 ?_
        refine cs_i (y := bI ((ne j1).testBit j2)) (by rw [fa_and]; exact bitI _ _) ?_
        refine lv_iconst (v := nI 1) hx hb dX5_set_37 (by decide +kernel) ?_
        refine lv_icmp_ne (tgt := 45) hx hb dX5_set_38 (by decide) (fun c_38 => ?_) (fun c_38 => ?_)
        · have c_38 := bI_n1 c_38
          have hc : stc (nI j1) (nI j2) ib rc ne = 0 := by unfold stc; rw [if_pos hcb, vN_nI (by omega), vN_nI (by omega), if_neg (fun z9 => by rw [c_38] at z9; cases z9.2)]
          refine lv_iconst (v := nI 0) hx hb dX5_set_45 (by decide +kernel) ?_
          refine va_put (D := G.1) (ci := 5) (v := .int (nI 0)) (ty := .int) (C := RX5) (T := TX5) (N := 17) hx hb hts hin5 tyX5 tyX5_ok nmX5 hown hK hP hD hS 0 rfl rfl 0 (by decide) (hts (.fieldLink RX5 28 "FaultShrinkerModel" "thrown" "I") (List.mem_of_getElem? (i := 1) rfl)) (fun _ h9 => h9) rfl (by decide +kernel) rfl rfl (Nat.le_of_ble_eq_true rfl) dX5_set_46 (fun H locs hP hD hS => ?_)
          have hP : va_P G.1 vwCl [(z, .inr (5, [.int (nI 0), .int (nI n), .ref zk, .int (nI rc), .ref zn, .ref zs, .int (nI ta), .ref zw, .int (nI st), .ref zf, .int (bI kp), .int (nI kd), .int (nI kq), .int (nI kt), .int (nI ks), .ref zg, .int (nI al)])), (zn, .inl (G.2.1, 6, .inl (nF ne))), (zs, .inl (G.2.1, 6, .inl (nF sp)))] _ := hP
          have hD : va_D A [(z, .inr (5, [.int (nI 0), .int (nI n), .ref zk, .int (nI rc), .ref zn, .ref zs, .int (nI ta), .ref zw, .int (nI st), .ref zf, .int (bI kp), .int (nI kd), .int (nI kq), .int (nI kt), .int (nI ks), .ref zg, .int (nI al)])), (zn, .inl (G.2.1, 6, .inl (nF ne))), (zs, .inl (G.2.1, 6, .inl (nF sp)))] := hD
          refine lv_aload_n hx hb dX5_set_49 rfl (lv_at hl 0 rfl) ?_
          refine va_get (D := G.1) (ci := 5) (v := .int (nI 0)) (C := RX5) (T := TX5) (N := 17) hx hb hts hin5 hown hK hP 0 rfl rfl 0 (by decide) (hts (.fieldLink RX5 28 "FaultShrinkerModel" "thrown" "I") (List.mem_of_getElem? (i := 1) rfl)) (fun _ h9 => h9) rfl dX5_set_50 ?_
          refine lv_if_eq (tgt := 58) hx hb dX5_set_53 (by decide) (fun c_53 => ?_) (fun c_53 => ?_)
          · refine lv_aload_n hx hb dX5_set_58 rfl (lv_at hl 1 rfl) ?_
            refine lv_iload_n hx hb dX5_set_59 rfl (lv_at hl 3 rfl) ?_
            refine va_iald hx hb hK hP 2 0 rfl rfl (vp_in_nI (by omega) (by omega)) dX5_set_60 ?_
            refine cs_i (y := nI (sp j1)) (nF_at _ (by omega)) ?_
            refine lv_iload hx hb dX5_set_61 (lv_at hl 4 rfl) ?_
            refine lv_ishr hx hb dX5_set_63 ?_
            refine cs_i (y := nI ((sp j1) >>> j2)) (nI_shr (by omega) (by omega)) ?_
            refine lv_iconst (v := nI 1) hx hb dX5_set_64 (by decide +kernel) ?_
            refine lv_iand hx hb dX5_set_65 ?_
            refine cs_i (y := bI ((sp j1).testBit j2)) (by rw [fa_and]; exact bitI _ _) ?_
            refine lv_iconst (v := nI 1) hx hb dX5_set_66 (by decide +kernel) ?_
            refine lv_icmp_ne (tgt := 74) hx hb dX5_set_67 (by decide) (fun c_67 => ?_) (fun c_67 => ?_)
            · have c_67 := bI_n1 c_67
              refine lv_iconst (v := nI 0) hx hb dX5_set_74 (by decide +kernel) ?_
              refine cs_i (y := bI false) (rfl) ?_
              refine lv_istore (lv' := [(6, .int (bI false)), (0, .ref z), (1, .ref zs), (2, .ref zn), (3, .int (nI j1)), (4, .int (nI j2)), (5, .int (bI ib))]) hx hb dX5_set_75 hl (by decide) rfl (fun ls hl => ?_)
              refine lv_iload hx hb dX5_set_77 (lv_at hl 0 rfl) ?_
              refine lv_iload hx hb dX5_set_79 (lv_at hl 6 rfl) ?_
              refine lv_icmp_eq (tgt := 94) hx hb dX5_set_81 (by decide) (fun c_81 => ?_) (fun c_81 => ?_)
              · have h81 : (sp j1).testBit j2 = ib := c_67.trans (bI_inj c_81)
                refine lv_iload hx hb dX5_set_94 (lv_at hl 0 rfl) ?_
                exact cs_zret hx hb hr hlocks hK hP hD hS (v := bI false) (bI_nar _) () (by rw [hc, vN_nI (by omega), vN_nI (by omega)]; rw [c_67]; rfl) (by rw [hc, vN_nI (by omega), vN_nI (by omega)]; first | rfl | (rw [wb_same h81, va_up_same]; rfl)) dX5_set_96
              · have h81 : ¬ (sp j1).testBit j2 = ib := fun z9 => c_81 (congrArg bI (c_67.symm.trans z9))
                refine lv_aload_n hx hb dX5_set_84 rfl (lv_at hl 2 rfl) ?_
                refine lv_iload_n hx hb dX5_set_85 rfl (lv_at hl 4 rfl) ?_
                refine lv_dup2_11 hx hb dX5_set_86 rfl rfl ?_
                refine va_iald hx hb hK hP 2 0 rfl rfl (vp_in_nI (by omega) (by omega)) dX5_set_87 ?_
                refine cs_i (y := nI (sp j1)) (nF_at _ (by omega)) ?_
                refine lv_iconst (v := nI 1) hx hb dX5_set_88 (by decide +kernel) ?_
                refine lv_iload hx hb dX5_set_89 (lv_at hl 5 rfl) ?_
                refine lv_ishl hx hb dX5_set_91 ?_
                refine cs_i (y := nI (2 ^ j2)) (nI_one_shl (by omega)) ?_
                refine lv_ixor hx hb dX5_set_92 ?_
                refine cs_i (y := nI ((sp j1) ^^^ (2 ^ j2))) (fb_xorI _ _) ?_
                refine va_iast hx hb hK hP hD hS 2 0 rfl rfl (vp_in_nI (by omega) (by omega)) dX5_set_93 (fun H locs hP hD hS => ?_)
                rw [nF_upd _ (by omega)] at hP hD
                have hP : va_P G.1 vwCl [(z, .inr (5, [.int (nI 0), .int (nI n), .ref zk, .int (nI rc), .ref zn, .ref zs, .int (nI ta), .ref zw, .int (nI st), .ref zf, .int (bI kp), .int (nI kd), .int (nI kq), .int (nI kt), .int (nI ks), .ref zg, .int (nI al)])), (zn, .inl (G.2.1, 6, .inl (nF ne))), (zs, .inl (G.2.1, 6, .inl (nF (va_up sp j1 ((sp j1) ^^^ (2 ^ j2))))))] _ := hP
                have hD : va_D A [(z, .inr (5, [.int (nI 0), .int (nI n), .ref zk, .int (nI rc), .ref zn, .ref zs, .int (nI ta), .ref zw, .int (nI st), .ref zf, .int (bI kp), .int (nI kd), .int (nI kq), .int (nI kt), .int (nI ks), .ref zg, .int (nI al)])), (zn, .inl (G.2.1, 6, .inl (nF ne))), (zs, .inl (G.2.1, 6, .inl (nF (va_up sp j1 ((sp j1) ^^^ (2 ^ j2))))))] := hD
                have e9 : nF (va_up sp j1 ((sp j1) ^^^ (2 ^ j2))) = nF (va_up sp j1 (wb (sp j1) j2 ib)) := congrArg (fun y9 => nF (va_up sp j1 y9)) (wb_x h81)
                rw [e9] at hP hD
                have hP : va_P G.1 vwCl [(z, .inr (5, [.int (nI 0), .int (nI n), .ref zk, .int (nI rc), .ref zn, .ref zs, .int (nI ta), .ref zw, .int (nI st), .ref zf, .int (bI kp), .int (nI kd), .int (nI kq), .int (nI kt), .int (nI ks), .ref zg, .int (nI al)])), (zn, .inl (G.2.1, 6, .inl (nF ne))), (zs, .inl (G.2.1, 6, .inl (nF (va_up sp j1 (wb (sp j1) j2 ib)))))] _ := hP
                have hD : va_D A [(z, .inr (5, [.int (nI 0), .int (nI n), .ref zk, .int (nI rc), .ref zn, .ref zs, .int (nI ta), .ref zw, .int (nI st), .ref zf, .int (bI kp), .int (nI kd), .int (nI kq), .int (nI kt), .int (nI ks), .ref zg, .int (nI al)])), (zn, .inl (G.2.1, 6, .inl (nF ne))), (zs, .inl (G.2.1, 6, .inl (nF (va_up sp j1 (wb (sp j1) j2 ib)))))] := hD
                refine lv_iload hx hb dX5_set_94 (lv_at hl 0 rfl) ?_
                exact cs_zret hx hb hr hlocks hK hP hD hS (v := bI false) (bI_nar _) () (by rw [hc, vN_nI (by omega), vN_nI (by omega)]; rw [c_67]; rfl) (by rw [hc, vN_nI (by omega), vN_nI (by omega)]; first | rfl | (rw [wb_same h81, va_up_same]; rfl)) dX5_set_96
            · have c_67 := bI_1 c_67
              refine lv_iconst (v := nI 1) hx hb dX5_set_70 (by decide +kernel) ?_
              refine cs_i (y := bI true) (rfl) ?_
              refine lv_goto (tgt := 75) hx hb dX5_set_71 (by decide) ?_
              refine lv_istore (lv' := [(6, .int (bI true)), (0, .ref z), (1, .ref zs), (2, .ref zn), (3, .int (nI j1)), (4, .int (nI j2)), (5, .int (bI ib))]) hx hb dX5_set_75 hl (by decide) rfl (fun ls hl => ?_)
              refine lv_iload hx hb dX5_set_77 (lv_at hl 0 rfl) ?_
              refine lv_iload hx hb dX5_set_79 (lv_at hl 6 rfl) ?_
              refine lv_icmp_eq (tgt := 94) hx hb dX5_set_81 (by decide) (fun c_81 => ?_) (fun c_81 => ?_)
              · have h81 : (sp j1).testBit j2 = ib := c_67.trans (bI_inj c_81)
                refine lv_iload hx hb dX5_set_94 (lv_at hl 0 rfl) ?_
                exact cs_zret hx hb hr hlocks hK hP hD hS (v := bI true) (bI_nar _) () (by rw [hc, vN_nI (by omega), vN_nI (by omega)]; rw [c_67]; rfl) (by rw [hc, vN_nI (by omega), vN_nI (by omega)]; first | rfl | (rw [wb_same h81, va_up_same]; rfl)) dX5_set_96
              · have h81 : ¬ (sp j1).testBit j2 = ib := fun z9 => c_81 (congrArg bI (c_67.symm.trans z9))
                refine lv_aload_n hx hb dX5_set_84 rfl (lv_at hl 2 rfl) ?_
                refine lv_iload_n hx hb dX5_set_85 rfl (lv_at hl 4 rfl) ?_
                refine lv_dup2_11 hx hb dX5_set_86 rfl rfl ?_
                refine va_iald hx hb hK hP 2 0 rfl rfl (vp_in_nI (by omega) (by omega)) dX5_set_87 ?_
                refine cs_i (y := nI (sp j1)) (nF_at _ (by omega)) ?_
                refine lv_iconst (v := nI 1) hx hb dX5_set_88 (by decide +kernel) ?_
                refine lv_iload hx hb dX5_set_89 (lv_at hl 5 rfl) ?_
                refine lv_ishl hx hb dX5_set_91 ?_
                refine cs_i (y := nI (2 ^ j2)) (nI_one_shl (by omega)) ?_
                refine lv_ixor hx hb dX5_set_92 ?_
                refine cs_i (y := nI ((sp j1) ^^^ (2 ^ j2))) (fb_xorI _ _) ?_
                refine va_iast hx hb hK hP hD hS 2 0 rfl rfl (vp_in_nI (by omega) (by omega)) dX5_set_93 (fun H locs hP hD hS => ?_)
                rw [nF_upd _ (by omega)] at hP hD
                have hP : va_P G.1 vwCl [(z, .inr (5, [.int (nI 0), .int (nI n), .ref zk, .int (nI rc), .ref zn, .ref zs, .int (nI ta), .ref zw, .int (nI st), .ref zf, .int (bI kp), .int (nI kd), .int (nI kq), .int (nI kt), .int (nI ks), .ref zg, .int (nI al)])), (zn, .inl (G.2.1, 6, .inl (nF ne))), (zs, .inl (G.2.1, 6, .inl (nF (va_up sp j1 ((sp j1) ^^^ (2 ^ j2))))))] _ := hP
                have hD : va_D A [(z, .inr (5, [.int (nI 0), .int (nI n), .ref zk, .int (nI rc), .ref zn, .ref zs, .int (nI ta), .ref zw, .int (nI st), .ref zf, .int (bI kp), .int (nI kd), .int (nI kq), .int (nI kt), .int (nI ks), .ref zg, .int (nI al)])), (zn, .inl (G.2.1, 6, .inl (nF ne))), (zs, .inl (G.2.1, 6, .inl (nF (va_up sp j1 ((sp j1) ^^^ (2 ^ j2))))))] := hD
                have e9 : nF (va_up sp j1 ((sp j1) ^^^ (2 ^ j2))) = nF (va_up sp j1 (wb (sp j1) j2 ib)) := congrArg (fun y9 => nF (va_up sp j1 y9)) (wb_x h81)
                rw [e9] at hP hD
                have hP : va_P G.1 vwCl [(z, .inr (5, [.int (nI 0), .int (nI n), .ref zk, .int (nI rc), .ref zn, .ref zs, .int (nI ta), .ref zw, .int (nI st), .ref zf, .int (bI kp), .int (nI kd), .int (nI kq), .int (nI kt), .int (nI ks), .ref zg, .int (nI al)])), (zn, .inl (G.2.1, 6, .inl (nF ne))), (zs, .inl (G.2.1, 6, .inl (nF (va_up sp j1 (wb (sp j1) j2 ib)))))] _ := hP
                have hD : va_D A [(z, .inr (5, [.int (nI 0), .int (nI n), .ref zk, .int (nI rc), .ref zn, .ref zs, .int (nI ta), .ref zw, .int (nI st), .ref zf, .int (bI kp), .int (nI kd), .int (nI kq), .int (nI kt), .int (nI ks), .ref zg, .int (nI al)])), (zn, .inl (G.2.1, 6, .inl (nF ne))), (zs, .inl (G.2.1, 6, .inl (nF (va_up sp j1 (wb (sp j1) j2 ib)))))] := hD
                refine lv_iload hx hb dX5_set_94 (lv_at hl 0 rfl) ?_
                exact cs_zret hx hb hr hlocks hK hP hD hS (v := bI true) (bI_nar _) () (by rw [hc, vN_nI (by omega), vN_nI (by omega)]; rw [c_67]; rfl) (by rw [hc, vN_nI (by omega), vN_nI (by omega)]; first | rfl | (rw [wb_same h81, va_up_same]; rfl)) dX5_set_96
          · exact absurd (by decide +kernel) c_53
        · have c_38 := bI_1 c_38
          have hc : stc (nI j1) (nI j2) ib rc ne = 2 := by unfold stc; rw [if_pos hcb, vN_nI (by omega), vN_nI (by omega), if_pos ⟨c_26, c_38⟩]
          refine lv_iconst (v := nI 2) hx hb dX5_set_41 (by decide +kernel) ?_
          refine lv_goto (tgt := 46) hx hb dX5_set_42 (by decide) ?_
          refine va_put (D := G.1) (ci := 5) (v := .int (nI 2)) (ty := .int) (C := RX5) (T := TX5) (N := 17) hx hb hts hin5 tyX5 tyX5_ok nmX5 hown hK hP hD hS 0 rfl rfl 0 (by decide) (hts (.fieldLink RX5 28 "FaultShrinkerModel" "thrown" "I") (List.mem_of_getElem? (i := 1) rfl)) (fun _ h9 => h9) rfl (by decide +kernel) rfl rfl (Nat.le_of_ble_eq_true rfl) dX5_set_46 (fun H locs hP hD hS => ?_)
          have hP : va_P G.1 vwCl [(z, .inr (5, [.int (nI 2), .int (nI n), .ref zk, .int (nI rc), .ref zn, .ref zs, .int (nI ta), .ref zw, .int (nI st), .ref zf, .int (bI kp), .int (nI kd), .int (nI kq), .int (nI kt), .int (nI ks), .ref zg, .int (nI al)])), (zn, .inl (G.2.1, 6, .inl (nF ne))), (zs, .inl (G.2.1, 6, .inl (nF sp)))] _ := hP
          have hD : va_D A [(z, .inr (5, [.int (nI 2), .int (nI n), .ref zk, .int (nI rc), .ref zn, .ref zs, .int (nI ta), .ref zw, .int (nI st), .ref zf, .int (bI kp), .int (nI kd), .int (nI kq), .int (nI kt), .int (nI ks), .ref zg, .int (nI al)])), (zn, .inl (G.2.1, 6, .inl (nF ne))), (zs, .inl (G.2.1, 6, .inl (nF sp)))] := hD
          refine lv_aload_n hx hb dX5_set_49 rfl (lv_at hl 0 rfl) ?_
          refine va_get (D := G.1) (ci := 5) (v := .int (nI 2)) (C := RX5) (T := TX5) (N := 17) hx hb hts hin5 hown hK hP 0 rfl rfl 0 (by decide) (hts (.fieldLink RX5 28 "FaultShrinkerModel" "thrown" "I") (List.mem_of_getElem? (i := 1) rfl)) (fun _ h9 => h9) rfl dX5_set_50 ?_
          refine lv_if_eq (tgt := 58) hx hb dX5_set_53 (by decide) (fun c_53 => ?_) (fun c_53 => ?_)
          · exact absurd c_53 (by decide +kernel)
          · refine lv_iconst (v := nI 0) hx hb dX5_set_56 (by decide +kernel) ?_
            exact cs_zret hx hb hr hlocks hK hP hD hS (v := nI 0) (rfl) () (by rw [hc]; rfl) (by rw [hc] <;> rfl) dX5_set_57
    · have c_17 := bI_0 c_17
      have hc : stc x1 x2 ib rc ne = 1 := if_neg (fun z9 => by rw [c_17] at z9; cases z9.2)
      refine lv_iconst (v := nI 1) hx hb dX5_set_20 (by decide +kernel) ?_
      refine lv_goto (tgt := 46) hx hb dX5_set_21 (by decide) ?_
      refine va_put (D := G.1) (ci := 5) (v := .int (nI 1)) (ty := .int) (C := RX5) (T := TX5) (N := 17) hx hb hts hin5 tyX5 tyX5_ok nmX5 hown hK hP hD hS 0 rfl rfl 0 (by decide) (hts (.fieldLink RX5 28 "FaultShrinkerModel" "thrown" "I") (List.mem_of_getElem? (i := 1) rfl)) (fun _ h9 => h9) rfl (by decide +kernel) rfl rfl (Nat.le_of_ble_eq_true rfl) dX5_set_46 (fun H locs hP hD hS => ?_)
      have hP : va_P G.1 vwCl [(z, .inr (5, [.int (nI 1), .int (nI n), .ref zk, .int (nI rc), .ref zn, .ref zs, .int (nI ta), .ref zw, .int (nI st), .ref zf, .int (bI kp), .int (nI kd), .int (nI kq), .int (nI kt), .int (nI ks), .ref zg, .int (nI al)])), (zn, .inl (G.2.1, 6, .inl (nF ne))), (zs, .inl (G.2.1, 6, .inl (nF sp)))] _ := hP
      have hD : va_D A [(z, .inr (5, [.int (nI 1), .int (nI n), .ref zk, .int (nI rc), .ref zn, .ref zs, .int (nI ta), .ref zw, .int (nI st), .ref zf, .int (bI kp), .int (nI kd), .int (nI kq), .int (nI kt), .int (nI ks), .ref zg, .int (nI al)])), (zn, .inl (G.2.1, 6, .inl (nF ne))), (zs, .inl (G.2.1, 6, .inl (nF sp)))] := hD
      refine lv_aload_n hx hb dX5_set_49 rfl (lv_at hl 0 rfl) ?_
      refine va_get (D := G.1) (ci := 5) (v := .int (nI 1)) (C := RX5) (T := TX5) (N := 17) hx hb hts hin5 hown hK hP 0 rfl rfl 0 (by decide) (hts (.fieldLink RX5 28 "FaultShrinkerModel" "thrown" "I") (List.mem_of_getElem? (i := 1) rfl)) (fun _ h9 => h9) rfl dX5_set_50 ?_
      refine lv_if_eq (tgt := 58) hx hb dX5_set_53 (by decide) (fun c_53 => ?_) (fun c_53 => ?_)
      · exact absurd c_53 (by decide +kernel)
      · refine lv_iconst (v := nI 0) hx hb dX5_set_56 (by decide +kernel) ?_
        exact cs_zret hx hb hr hlocks hK hP hD hS (v := nI 0) (rfl) () (by rw [hc]; rfl) (by rw [hc] <;> rfl) dX5_set_57

set_option maxRecDepth 100000 in
theorem in5_X5_setNeeds : ∀ w ∈ wsX50, w ∈ wsX5_setNeeds := by decide +kernel
set_option maxHeartbeats 4000000 in
set_option maxRecDepth 100000 in
theorem c_X5_setNeeds (l : Launch) (G : cG) (z zk zn zs zw zf zg th n rc ta st : Nat) (kp : Bool) (kd kq kt ks al : Nat) (hn : n ≤ 24) (hrc : rc ≤ 6) (ne sp : Nat → Nat) (hne : ∀ j, j < 6 → ne j < 65536) (hsp : ∀ j, j < 6 → sp j < 65536) (x1 x2 : Int32) (ib : Bool) : cMI l G yX5_setNeeds wsX5_setNeeds ({ frames := 3, cells := 0, slots := 0, locals := 69 }) [.ref z, .int x1, .int x2, .int (bI ib)] [(z, .inr (5, [.int (nI th), .int (nI n), .ref zk, .int (nI rc), .ref zn, .ref zs, .int (nI ta), .ref zw, .int (nI st), .ref zf, .int (bI kp), .int (nI kd), .int (nI kq), .int (nI kt), .int (nI ks), .ref zg, .int (nI al)])), (zn, .inl (G.2.1, 6, .inl (nF ne))), (zs, .inl (G.2.1, 6, .inl (nF sp)))] (fun (r_ : Int32) (_ : Unit) => r_ = bI (decide (stc x1 x2 ib rc sp = 0) && (ne (vN x1)).testBit (vN x2))) (fun (_ : Unit) => [(z, .inr (5, [.int (nI (stc x1 x2 ib rc sp)), .int (nI n), .ref zk, .int (nI rc), .ref zn, .ref zs, .int (nI ta), .ref zw, .int (nI st), .ref zf, .int (bI kp), .int (nI kd), .int (nI kq), .int (nI kt), .int (nI ks), .ref zg, .int (nI al)])), (zn, .inl (G.2.1, 6, .inl (nF (if stc x1 x2 ib rc sp = 0 then va_up ne (vN x1) (wb (ne (vN x1)) (vN x2) ib) else ne)))), (zs, .inl (G.2.1, 6, .inl (nF sp)))]) := by
  refine cs_sI (own := RX5) (cc := cX5_setNeeds) (maxL := 4) (ret := (some .boolean)) (by decide) rfl rfl (Nat.le_of_ble_eq_true rfl) ?_
  intro p e s m below meth c A hx hb hr hml hts hown hlocks hinit hA hK hP hD hS ls hl
  have hin5 := in5_X5_setNeeds
  have hl : lv_has ls 4 [(0, .ref z), (1, .int x1), (2, .int x2), (3, .int (bI ib))] := hl
  refine lv_aload_n hx hb dX5_setNeeds_0 rfl (lv_at hl 0 rfl) ?_
  refine lv_aload_n hx hb dX5_setNeeds_1 rfl (lv_at hl 0 rfl) ?_
  refine va_get (D := G.1) (ci := 5) (v := .ref zn) (C := RX5) (T := TX5) (N := 17) hx hb hts hin5 hown hK hP 0 rfl rfl 4 (by decide) (hts (.fieldLink RX5 13 "FaultShrinkerModel" "needs" "[I") (List.mem_of_getElem? (i := 1) rfl)) (fun _ h9 => h9) rfl dX5_setNeeds_2 ?_
  refine lv_aload_n hx hb dX5_setNeeds_5 rfl (lv_at hl 0 rfl) ?_
  refine va_get (D := G.1) (ci := 5) (v := .ref zs) (C := RX5) (T := TX5) (N := 17) hx hb hts hin5 hown hK hP 0 rfl rfl 5 (by decide) (hts (.fieldLink RX5 16 "FaultShrinkerModel" "spares" "[I") (List.mem_of_getElem? (i := 2) rfl)) (fun _ h9 => h9) rfl dX5_setNeeds_6 ?_
  refine lv_iload_n hx hb dX5_setNeeds_9 rfl (lv_at hl 1 rfl) ?_
  refine lv_iload_n hx hb dX5_setNeeds_10 rfl (lv_at hl 2 rfl) ?_
  refine lv_iload_n hx hb dX5_setNeeds_11 rfl (lv_at hl 3 rfl) ?_
  refine cs_vi (As := [.ref zn, .ref zs, .int x1, .int x2, .int (bI ib)]) (rest := []) (wr := []) ⟨hx, hb, hml, hown, hts⟩ hK hP hD hS hA (c_X5_seta l G z zk zn zs zw zf zg th n rc ta st kp kd kq kt ks al (by first | assumption | omega) (by first | assumption | omega) ne sp (by first | assumption | omega) (by first | assumption | omega) x1 x2 ib) (cwV 5 hts gX5_setNeeds_X5_set rfl rfl rfl (by decide +kernel) ⟨Nat.le_of_ble_eq_true rfl, Nat.le_of_ble_eq_true rfl⟩) [0, 1, 2] [] ⟨rfl, rfl, by decide, by decide, by decide⟩ 0 5 rfl rfl rfl hl.1 rfl (Nat.le_of_ble_eq_true rfl) ⟨Nat.le_of_ble_eq_true rfl, Nat.le_of_ble_eq_true rfl⟩ dX5_setNeeds_12 (fun r u H locs hw hP hD hS => ?_)
  have hP : va_P G.1 vwCl [(z, .inr (5, [.int (nI (stc x1 x2 ib rc sp)), .int (nI n), .ref zk, .int (nI rc), .ref zn, .ref zs, .int (nI ta), .ref zw, .int (nI st), .ref zf, .int (bI kp), .int (nI kd), .int (nI kq), .int (nI kt), .int (nI ks), .ref zg, .int (nI al)])), (zn, .inl (G.2.1, 6, .inl (nF (if stc x1 x2 ib rc sp = 0 then va_up ne (vN x1) (wb (ne (vN x1)) (vN x2) ib) else ne)))), (zs, .inl (G.2.1, 6, .inl (nF sp)))] H := hP.sub [0, 1, 2] rfl
  have hD : va_D A [(z, .inr (5, [.int (nI (stc x1 x2 ib rc sp)), .int (nI n), .ref zk, .int (nI rc), .ref zn, .ref zs, .int (nI ta), .ref zw, .int (nI st), .ref zf, .int (bI kp), .int (nI kd), .int (nI kq), .int (nI kt), .int (nI ks), .ref zg, .int (nI al)])), (zn, .inl (G.2.1, 6, .inl (nF (if stc x1 x2 ib rc sp = 0 then va_up ne (vN x1) (wb (ne (vN x1)) (vN x2) ib) else ne)))), (zs, .inl (G.2.1, 6, .inl (nF sp)))] := hD.sub [0, 1, 2] (by decide) rfl
  subst hw
  exact cs_zret hx hb hr hlocks hK hP hD hS (v := bI (decide (stc x1 x2 ib rc sp = 0) && (ne (vN x1)).testBit (vN x2))) (bI_nar _) () (by first | rfl | assumption) (rfl) dX5_setNeeds_15

set_option maxRecDepth 100000 in
theorem in5_X5_setSpares : ∀ w ∈ wsX50, w ∈ wsX5_setSpares := by decide +kernel
set_option maxHeartbeats 4000000 in
set_option maxRecDepth 100000 in
theorem c_X5_setSpares (l : Launch) (G : cG) (z zk zn zs zw zf zg th n rc ta st : Nat) (kp : Bool) (kd kq kt ks al : Nat) (hn : n ≤ 24) (hrc : rc ≤ 6) (ne sp : Nat → Nat) (hne : ∀ j, j < 6 → ne j < 65536) (hsp : ∀ j, j < 6 → sp j < 65536) (x1 x2 : Int32) (ib : Bool) : cMI l G yX5_setSpares wsX5_setSpares ({ frames := 3, cells := 0, slots := 0, locals := 69 }) [.ref z, .int x1, .int x2, .int (bI ib)] [(z, .inr (5, [.int (nI th), .int (nI n), .ref zk, .int (nI rc), .ref zn, .ref zs, .int (nI ta), .ref zw, .int (nI st), .ref zf, .int (bI kp), .int (nI kd), .int (nI kq), .int (nI kt), .int (nI ks), .ref zg, .int (nI al)])), (zn, .inl (G.2.1, 6, .inl (nF ne))), (zs, .inl (G.2.1, 6, .inl (nF sp)))] (fun (r_ : Int32) (_ : Unit) => r_ = bI (decide (stc x1 x2 ib rc ne = 0) && (sp (vN x1)).testBit (vN x2))) (fun (_ : Unit) => [(z, .inr (5, [.int (nI (stc x1 x2 ib rc ne)), .int (nI n), .ref zk, .int (nI rc), .ref zn, .ref zs, .int (nI ta), .ref zw, .int (nI st), .ref zf, .int (bI kp), .int (nI kd), .int (nI kq), .int (nI kt), .int (nI ks), .ref zg, .int (nI al)])), (zn, .inl (G.2.1, 6, .inl (nF ne))), (zs, .inl (G.2.1, 6, .inl (nF (if stc x1 x2 ib rc ne = 0 then va_up sp (vN x1) (wb (sp (vN x1)) (vN x2) ib) else sp))))]) := by
  refine cs_sI (own := RX5) (cc := cX5_setSpares) (maxL := 4) (ret := (some .boolean)) (by decide) rfl rfl (Nat.le_of_ble_eq_true rfl) ?_
  intro p e s m below meth c A hx hb hr hml hts hown hlocks hinit hA hK hP hD hS ls hl
  have hin5 := in5_X5_setSpares
  have hl : lv_has ls 4 [(0, .ref z), (1, .int x1), (2, .int x2), (3, .int (bI ib))] := hl
  refine lv_aload_n hx hb dX5_setSpares_0 rfl (lv_at hl 0 rfl) ?_
  refine lv_aload_n hx hb dX5_setSpares_1 rfl (lv_at hl 0 rfl) ?_
  refine va_get (D := G.1) (ci := 5) (v := .ref zs) (C := RX5) (T := TX5) (N := 17) hx hb hts hin5 hown hK hP 0 rfl rfl 5 (by decide) (hts (.fieldLink RX5 16 "FaultShrinkerModel" "spares" "[I") (List.mem_of_getElem? (i := 1) rfl)) (fun _ h9 => h9) rfl dX5_setSpares_2 ?_
  refine lv_aload_n hx hb dX5_setSpares_5 rfl (lv_at hl 0 rfl) ?_
  refine va_get (D := G.1) (ci := 5) (v := .ref zn) (C := RX5) (T := TX5) (N := 17) hx hb hts hin5 hown hK hP 0 rfl rfl 4 (by decide) (hts (.fieldLink RX5 13 "FaultShrinkerModel" "needs" "[I") (List.mem_of_getElem? (i := 2) rfl)) (fun _ h9 => h9) rfl dX5_setSpares_6 ?_
  refine lv_iload_n hx hb dX5_setSpares_9 rfl (lv_at hl 1 rfl) ?_
  refine lv_iload_n hx hb dX5_setSpares_10 rfl (lv_at hl 2 rfl) ?_
  refine lv_iload_n hx hb dX5_setSpares_11 rfl (lv_at hl 3 rfl) ?_
  refine cs_vi (As := [.ref zs, .ref zn, .int x1, .int x2, .int (bI ib)]) (rest := []) (wr := []) ⟨hx, hb, hml, hown, hts⟩ hK hP hD hS hA (c_X5_setb l G z zk zn zs zw zf zg th n rc ta st kp kd kq kt ks al (by first | assumption | omega) (by first | assumption | omega) ne sp (by first | assumption | omega) (by first | assumption | omega) x1 x2 ib) (cwV 5 hts gX5_setSpares_X5_set rfl rfl rfl (by decide +kernel) ⟨Nat.le_of_ble_eq_true rfl, Nat.le_of_ble_eq_true rfl⟩) [0, 1, 2] [] ⟨rfl, rfl, by decide, by decide, by decide⟩ 0 5 rfl rfl rfl hl.1 rfl (Nat.le_of_ble_eq_true rfl) ⟨Nat.le_of_ble_eq_true rfl, Nat.le_of_ble_eq_true rfl⟩ dX5_setSpares_12 (fun r u H locs hw hP hD hS => ?_)
  have hP : va_P G.1 vwCl [(z, .inr (5, [.int (nI (stc x1 x2 ib rc ne)), .int (nI n), .ref zk, .int (nI rc), .ref zn, .ref zs, .int (nI ta), .ref zw, .int (nI st), .ref zf, .int (bI kp), .int (nI kd), .int (nI kq), .int (nI kt), .int (nI ks), .ref zg, .int (nI al)])), (zn, .inl (G.2.1, 6, .inl (nF ne))), (zs, .inl (G.2.1, 6, .inl (nF (if stc x1 x2 ib rc ne = 0 then va_up sp (vN x1) (wb (sp (vN x1)) (vN x2) ib) else sp))))] H := hP.sub [0, 1, 2] rfl
  have hD : va_D A [(z, .inr (5, [.int (nI (stc x1 x2 ib rc ne)), .int (nI n), .ref zk, .int (nI rc), .ref zn, .ref zs, .int (nI ta), .ref zw, .int (nI st), .ref zf, .int (bI kp), .int (nI kd), .int (nI kq), .int (nI kt), .int (nI ks), .ref zg, .int (nI al)])), (zn, .inl (G.2.1, 6, .inl (nF ne))), (zs, .inl (G.2.1, 6, .inl (nF (if stc x1 x2 ib rc ne = 0 then va_up sp (vN x1) (wb (sp (vN x1)) (vN x2) ib) else sp))))] := hD.sub [0, 1, 2] (by decide) rfl
  subst hw
  exact cs_zret hx hb hr hlocks hK hP hD hS (v := bI (decide (stc x1 x2 ib rc ne = 0) && (sp (vN x1)).testBit (vN x2))) (bI_nar _) () (by first | rfl | assumption) (rfl) dX5_setSpares_15
