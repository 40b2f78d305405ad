set_option maxRecDepth 100000 in
theorem in3_X3_begin : ∀ w ∈ wsX30, w ∈ wsX3_begin := by decide +kernel
set_option maxHeartbeats 4000000 in
set_option maxRecDepth 100000 in
theorem c_X3_begin (l : Launch) (G : cG) (t kn a b sn ta : Nat) (T : Nat → Int64) : cMV l G yX3_begin wsX3_begin ({ frames := 0, cells := 0, slots := 0, locals := 0 }) [.ref t] [(t, .inr (3, [.ref a, .ref b, .ref kn, .long (lN sn), .int (nI ta)])), (kn, .inl (G.2.2, 4096, .inr (.inl T)))] (fun (_ : Unit) => True) (fun (_ : Unit) => [(t, .inr (3, [.ref a, .ref b, .ref kn, .long (lN (sn + 1)), .int (nI 0)])), (kn, .inl (G.2.2, 4096, .inr (.inl T)))]) := by
  refine cs_sV (own := RX3) (cc := cX3_begin) (maxL := 1) (ret := none) (by decide) rfl rfl (Nat.le_of_ble_eq_true rfl) ?_
  intro p e s m below meth c A hx hb hr hml hts hown hlocks hinit hA hK hP hD hS ls hl
  have hin3 := in3_X3_begin
  have hl : lv_has ls 1 [(0, .ref t)] := hl
  refine lv_aload_n hx hb dX3_begin_0 rfl (lv_at hl 0 rfl) ?_
  refine lv_dup hx hb dX3_begin_1 rfl ?_
  refine va_get (D := G.1) (ci := 3) (v := .long (lN sn)) (C := RX3) (T := TX3) (N := 5) hx hb hts hin3 hown hK hP 0 rfl rfl 3 (by decide) (hts (.fieldLink RX3 23 "FaultShrinker$Taster" "search" "J") (List.mem_of_getElem? (i := 1) rfl)) (fun _ h9 => h9) rfl dX3_begin_2 ?_
  refine lv_lconst (v := lN 1) hx hb dX3_begin_5 (by decide +kernel) ?_
  refine lv_ladd hx hb dX3_begin_6 ?_
  refine cs_l (y := lN (sn + 1)) (lN_add sn 1) ?_
  refine va_put (D := G.1) (ci := 3) (v := .long (lN (sn + 1))) (ty := .long) (C := RX3) (T := TX3) (N := 5) hx hb hts hin3 tyX3 tyX3_ok nmX3 hown hK hP hD hS 0 rfl rfl 3 (by decide) (hts (.fieldLink RX3 23 "FaultShrinker$Taster" "search" "J") (List.mem_of_getElem? (i := 1) rfl)) (fun _ h9 => h9) rfl (by decide +kernel) rfl rfl (Nat.le_of_ble_eq_true rfl) dX3_begin_7 (fun H locs hP hD hS => ?_)
  have hP : va_P G.1 vwCl [(t, .inr (3, [.ref a, .ref b, .ref kn, .long (lN (sn + 1)), .int (nI ta)])), (kn, .inl (G.2.2, 4096, .inr (.inl T)))] H := hP
  have hD : va_D A [(t, .inr (3, [.ref a, .ref b, .ref kn, .long (lN (sn + 1)), .int (nI ta)])), (kn, .inl (G.2.2, 4096, .inr (.inl T)))] := hD
  refine lv_aload_n hx hb dX3_begin_10 rfl (lv_at hl 0 rfl) ?_
  refine lv_iconst (v := nI 0) hx hb dX3_begin_11 (by decide +kernel) ?_
  refine va_put (D := G.1) (ci := 3) (v := .int (nI 0)) (ty := .int) (C := RX3) (T := TX3) (N := 5) hx hb hts hin3 tyX3 tyX3_ok nmX3 hown hK hP hD hS 0 rfl rfl 4 (by decide) (hts (.fieldLink RX3 27 "FaultShrinker$Taster" "tastings" "I") (List.mem_of_getElem? (i := 2) rfl)) (fun _ h9 => h9) rfl (by decide +kernel) rfl rfl (Nat.le_of_ble_eq_true rfl) dX3_begin_12 (fun H locs hP hD hS => ?_)
  have hP : va_P G.1 vwCl [(t, .inr (3, [.ref a, .ref b, .ref kn, .long (lN (sn + 1)), .int (nI 0)])), (kn, .inl (G.2.2, 4096, .inr (.inl T)))] H := hP
  have hD : va_D A [(t, .inr (3, [.ref a, .ref b, .ref kn, .long (lN (sn + 1)), .int (nI 0)])), (kn, .inl (G.2.2, 4096, .inr (.inl T)))] := hD
  exact cs_vret hx hb hr hlocks hK hP hD hS () (trivial) rfl dX3_begin_15

set_option maxRecDepth 100000 in
theorem in3_X3_tastings : ∀ w ∈ wsX30, w ∈ wsX3_tastings := by decide +kernel
set_option maxHeartbeats 4000000 in
set_option maxRecDepth 100000 in
theorem c_X3_tastings (l : Launch) (G : cG) (t kn a b sn ta : Nat) (T : Nat → Int64) : cMI l G yX3_tastings wsX3_tastings ({ frames := 0, cells := 0, slots := 0, locals := 0 }) [.ref t] [(t, .inr (3, [.ref a, .ref b, .ref kn, .long (lN sn), .int (nI ta)])), (kn, .inl (G.2.2, 4096, .inr (.inl T)))] (fun (r_ : Int32) (_ : Unit) => r_ = nI ta) (fun (_ : Unit) => [(t, .inr (3, [.ref a, .ref b, .ref kn, .long (lN sn), .int (nI ta)])), (kn, .inl (G.2.2, 4096, .inr (.inl T)))]) := by
  refine cs_sI (own := RX3) (cc := cX3_tastings) (maxL := 1) (ret := (some .int)) (by decide) rfl rfl (Nat.le_of_ble_eq_true rfl) ?_
  intro p e s m below meth c A hx hb hr hml hts hown hlocks hinit hA hK hP hD hS ls hl
  have hin3 := in3_X3_tastings
  have hl : lv_has ls 1 [(0, .ref t)] := hl
  refine lv_aload_n hx hb dX3_tastings_0 rfl (lv_at hl 0 rfl) ?_
  refine va_get (D := G.1) (ci := 3) (v := .int (nI ta)) (C := RX3) (T := TX3) (N := 5) hx hb hts hin3 hown hK hP 0 rfl rfl 4 (by decide) (hts (.fieldLink RX3 27 "FaultShrinker$Taster" "tastings" "I") (List.mem_of_getElem? (i := 1) rfl)) (fun _ h9 => h9) rfl dX3_tastings_1 ?_
  exact cs_iret hx hb hr hlocks hK hP hD hS (v := nI ta) () (by first | rfl | assumption) rfl dX3_tastings_4

set_option maxRecDepth 100000 in
theorem in3_X3_learn : ∀ w ∈ wsX30, w ∈ wsX3_learn := by decide +kernel
set_option maxHeartbeats 4000000 in
set_option maxRecDepth 100000 in
theorem c_X3_learn (l : Launch) (G : cG) (t kn a b sn ta : Nat) (T : Nat → Int64) (K : List Nat) (d : Nat) (hsn : sn < 2 ^ 36) (hT : TI T sn K) (hKl : K.length < 4000) (hd : d < 2 ^ 24) : cMI l G yX3_learn wsX3_learn ({ frames := 0, cells := 0, slots := 0, locals := 0 }) [.ref t, .int (nI d)] [(t, .inr (3, [.ref a, .ref b, .ref kn, .long (lN sn), .int (nI ta)])), (kn, .inl (G.2.2, 4096, .inr (.inl T)))] (fun (r_ : Int32) (T9 : Nat → Int64) => r_ = bI (decide (¬ d ∈ K)) ∧ TI T9 sn (lk K d)) (fun (T9 : Nat → Int64) => [(t, .inr (3, [.ref a, .ref b, .ref kn, .long (lN sn), .int (nI ta)])), (kn, .inl (G.2.2, 4096, .inr (.inl T9)))]) := by
  refine cs_sI (own := RX3) (cc := cX3_learn) (maxL := 7) (ret := (some .boolean)) (by decide) rfl rfl (Nat.le_of_ble_eq_true rfl) ?_
  intro p e s m below meth c A hx hb hr hml hts hown hlocks hinit hA hK hP hD hS ls hl
  have hin3 := in3_X3_learn
  have hl : lv_has ls 7 [(0, .ref t), (1, .int (nI d))] := hl
  obtain ⟨v, hv, hT2⟩ := hT
  refine lv_aload_n hx hb dX3_learn_0 rfl (lv_at hl 0 rfl) ?_
  refine va_get (D := G.1) (ci := 3) (v := .long (lN sn)) (C := RX3) (T := TX3) (N := 5) hx hb hts hin3 hown hK hP 0 rfl rfl 3 (by decide) (hts (.fieldLink RX3 23 "FaultShrinker$Taster" "search" "J") (List.mem_of_getElem? (i := 1) rfl)) (fun _ h9 => h9) rfl dX3_learn_1 ?_
  refine lv_bipush (v := nI 24) hx hb dX3_learn_4 (by decide +kernel) ?_
  refine lv_lshl (v := lN (sn * 2 ^ 24)) hx hb dX3_learn_6 (wb_shl sn (by decide)) ?_
  refine lv_iload_n hx hb dX3_learn_7 rfl (lv_at hl 1 rfl) ?_
  refine lv_i2l (v := lN d) hx hb dX3_learn_8 (nI_l (by omega)) ?_
  refine lv_lor hx hb dX3_learn_9 ?_
  refine cs_l (y := lN (sn * 2 ^ 24 + d)) (g_or (k := 24) rfl (by omega) (by omega)) ?_
  refine lv_lstore_n (lv' := [(2, .long (lN (sn * 2 ^ 24 + d))), (0, .ref t), (1, .int (nI d))]) hx hb dX3_learn_10 rfl hl (by decide) rfl (fun ls hl => ?_)
  refine lv_iload_n hx hb dX3_learn_11 rfl (lv_at hl 2 rfl) ?_
  refine lv_ldc (v := (-1640531535)) hx hb hown (hts (.constant RX3 46 (-1640531535)) (List.mem_of_getElem? (i := 2) rfl)) dX3_learn_12 ?_
  refine lv_imul hx hb dX3_learn_14 ?_
  refine lv_bipush (v := nI 20) hx hb dX3_learn_15 (by decide +kernel) ?_
  refine lv_iushr (v := nI (hm d)) hx hb dX3_learn_17 (hm_e d) ?_
  refine lv_istore (lv' := [(4, .int (nI (hm d))), (2, .long (lN (sn * 2 ^ 24 + d))), (0, .ref t), (1, .int (nI d))]) hx hb dX3_learn_18 hl (by decide) rfl (fun ls hl => ?_)
  refine lv_iconst (v := nI 0) hx hb dX3_learn_20 (by decide +kernel) ?_
  refine lv_istore (lv' := [(5, .int (nI 0)), (4, .int (nI (hm d))), (2, .long (lN (sn * 2 ^ 24 + d))), (0, .ref t), (1, .int (nI d))]) hx hb dX3_learn_21 hl (by decide) rfl (fun ls hl => ?_)
  refine cs_loop (G := G) (nL := 7) (σ := Nat) (fun (i : Nat) => 4096 - i) (fun (i : Nat) => i ≤ 4096 ∧ ∀ r, r < i → v ((hm d + r) % 4096) / 2 ^ 24 = sn ∧ v ((hm d + r) % 4096) ≠ sn * 2 ^ 24 + d) (fun (i : Nat) => [(t, .inr (3, [.ref a, .ref b, .ref kn, .long (lN sn), .int (nI ta)])), (kn, .inl (G.2.2, 4096, .inr (.inl T)))]) (fun (i : Nat) => [(0, .ref t), (1, .int (nI d)), (2, .long (lN (sn * 2 ^ 24 + d))), (4, .int (nI (hm d))), (5, .int (nI i))]) ?_ (0) (⟨by omega, fun r h => absurd h (Nat.not_lt_zero r)⟩) (hP.sub (ws' := [(t, .inr (3, [.ref a, .ref b, .ref kn, .long (lN sn), .int (nI ta)])), (kn, .inl (G.2.2, 4096, .inr (.inl T)))]) [0, 1] rfl) (hD.sub (ws' := [(t, .inr (3, [.ref a, .ref b, .ref kn, .long (lN sn), .int (nI ta)])), (kn, .inl (G.2.2, 4096, .inr (.inl T)))]) [0, 1] (by decide) rfl) hS (lv_sub (l' := [(0, .ref t), (1, .int (nI d)), (2, .long (lN (sn * 2 ^ 24 + d))), (4, .int (nI (hm d))), (5, .int (nI 0))]) hl [3, 4, 2, 1, 0] rfl)
  rintro i hinv ih H locs ls hP hD hS hl
  have hP : va_P G.1 vwCl [(t, .inr (3, [.ref a, .ref b, .ref kn, .long (lN sn), .int (nI ta)])), (kn, .inl (G.2.2, 4096, .inr (.inl T)))] H := hP
  have hD : va_D A [(t, .inr (3, [.ref a, .ref b, .ref kn, .long (lN sn), .int (nI ta)])), (kn, .inl (G.2.2, 4096, .inr (.inl T)))] := hD
  have hl : lv_has ls 7 [(0, .ref t), (1, .int (nI d)), (2, .long (lN (sn * 2 ^ 24 + d))), (4, .int (nI (hm d))), (5, .int (nI i))] := hl
  have hinv : i ≤ 4096 ∧ ∀ r, r < i → v ((hm d + r) % 4096) / 2 ^ 24 = sn ∧ v ((hm d + r) % 4096) ≠ sn * 2 ^ 24 + d := hinv
  obtain ⟨hi, hri⟩ := hinv
  refine lv_iload hx hb dX3_learn_23 (lv_at hl 4 rfl) ?_
  refine lv_sipush (v := nI 4096) hx hb dX3_learn_25 (by decide +kernel) ?_
  refine lv_icmp_ge (tgt := 90) hx hb dX3_learn_28 (by decide) (fun c_28 => ?_) (fun c_28 => ?_)
  · have c_28 := (nI_leI (by omega) (by omega)).mp c_28
    exact (TI2_full hT2 (by omega) (b := hm d) (fun r h => (hri r (by omega)).1)).elim
  · have c_28 := mt (nI_leI (by omega) (by omega)).mpr c_28
    have hil : i < 4096 := by omega
    have hxl : (hm d + i) % 4096 < 4096 := Nat.mod_lt _ (by decide)
    have hvx := hT2.1 _ hxl
    have hmd := hm_lt d
    refine lv_iload hx hb dX3_learn_31 (lv_at hl 3 rfl) ?_
    refine lv_iload hx hb dX3_learn_33 (lv_at hl 4 rfl) ?_
    refine lv_iadd hx hb dX3_learn_35 ?_
    refine cs_i (y := nI ((hm d) + i)) (nI_add _ _) ?_
    refine lv_sipush (v := nI 4095) hx hb dX3_learn_36 (by decide +kernel) ?_
    refine lv_iand hx hb dX3_learn_39 ?_
    refine cs_i (y := nI ((hm d + i) % 4096)) (pk_andN (by omega) 12 (by decide +kernel)) ?_
    refine lv_istore (lv' := [(6, .int (nI ((hm d + i) % 4096))), (0, .ref t), (1, .int (nI d)), (2, .long (lN (sn * 2 ^ 24 + d))), (4, .int (nI (hm d))), (5, .int (nI i))]) hx hb dX3_learn_40 hl (by decide) rfl (fun ls hl => ?_)
    refine lv_aload_n hx hb dX3_learn_42 rfl (lv_at hl 1 rfl) ?_
    refine va_get (D := G.1) (ci := 3) (v := .ref kn) (C := RX3) (T := TX3) (N := 5) hx hb hts hin3 hown hK hP 0 rfl rfl 2 (by decide) (hts (.fieldLink RX3 11 "FaultShrinker$Taster" "known" "[J") (List.mem_of_getElem? (i := 3) rfl)) (fun _ h9 => h9) rfl dX3_learn_43 ?_
    refine lv_iload hx hb dX3_learn_46 (lv_at hl 0 rfl) ?_
    refine va_lald hx hb hK hP 1 1 rfl rfl (vp_in_nI (by omega) (by omega)) dX3_learn_48 ?_
    refine cs_l (y := lN (v ((hm d + i) % 4096))) (by rw [nI_clamp (by omega)]; exact hv _ hxl) ?_
    refine lv_lload_n hx hb dX3_learn_49 rfl (lv_at hl 3 rfl) ?_
    refine W.lcmp hx hb dX3_learn_50 ?_
    refine lv_if_ne (tgt := 56) hx hb dX3_learn_51 (by decide) (fun c_51 => ?_) (fun c_51 => ?_)
    · have c_51 := mt (lg_cmp_eq _ _).mpr c_51
      refine lv_aload_n hx hb dX3_learn_56 rfl (lv_at hl 1 rfl) ?_
      refine va_get (D := G.1) (ci := 3) (v := .ref kn) (C := RX3) (T := TX3) (N := 5) hx hb hts hin3 hown hK hP 0 rfl rfl 2 (by decide) (hts (.fieldLink RX3 11 "FaultShrinker$Taster" "known" "[J") (List.mem_of_getElem? (i := 3) rfl)) (fun _ h9 => h9) rfl dX3_learn_57 ?_
      refine lv_iload hx hb dX3_learn_60 (lv_at hl 0 rfl) ?_
      refine va_lald hx hb hK hP 1 1 rfl rfl (vp_in_nI (by omega) (by omega)) dX3_learn_62 ?_
      refine cs_l (y := lN (v ((hm d + i) % 4096))) (by rw [nI_clamp (by omega)]; exact hv _ hxl) ?_
      refine lv_bipush (v := nI 24) hx hb dX3_learn_63 (by decide +kernel) ?_
      refine lv_lshr (v := lN (v ((hm d + i) % 4096) / 2 ^ 24)) hx hb dX3_learn_65 (pf_shr (by decide +kernel) hvx.1) ?_
      refine lv_aload_n hx hb dX3_learn_66 rfl (lv_at hl 1 rfl) ?_
      refine va_get (D := G.1) (ci := 3) (v := .long (lN sn)) (C := RX3) (T := TX3) (N := 5) hx hb hts hin3 hown hK hP 0 rfl rfl 3 (by decide) (hts (.fieldLink RX3 23 "FaultShrinker$Taster" "search" "J") (List.mem_of_getElem? (i := 1) rfl)) (fun _ h9 => h9) rfl dX3_learn_67 ?_
      refine W.lcmp hx hb dX3_learn_70 ?_
      refine lv_if_eq (tgt := 84) hx hb dX3_learn_71 (by decide) (fun c_71 => ?_) (fun c_71 => ?_)
      · have c_71 := (lg_cmp_eq _ _).mp c_71
        have c8 := (fb_lN_inj (by omega) (by omega)).mp c_71
        refine lv_iinc (v := nI (i + 1)) (lv' := [(5, .int (nI (i + 1))), (6, .int (nI ((hm d + i) % 4096))), (0, .ref t), (1, .int (nI d)), (2, .long (lN (sn * 2 ^ 24 + d))), (4, .int (nI (hm d)))]) hx hb dX3_learn_84 hl (k := 5) rfl ((nI_succ i).symm) (by decide) rfl (fun ls hl => ?_)
        refine lv_goto (tgt := 23) hx hb dX3_learn_87 (by decide) ?_
        exact ih (i + 1) (by show 4096 - (i + 1) < 4096 - i; omega) (⟨by omega, fun r h => by rcases Nat.lt_or_ge r i with z | z <;> first | exact hri r z | (have e9 : r = i := (by omega); subst e9; exact ⟨c8, fun z => c_51 (by rw [z])⟩)⟩) _ _ _ (hP.sub (ws' := [(t, .inr (3, [.ref a, .ref b, .ref kn, .long (lN sn), .int (nI ta)])), (kn, .inl (G.2.2, 4096, .inr (.inl T)))]) [0, 1] rfl) (hD.sub (ws' := [(t, .inr (3, [.ref a, .ref b, .ref kn, .long (lN sn), .int (nI ta)])), (kn, .inl (G.2.2, 4096, .inr (.inl T)))]) [0, 1] (by decide) rfl) hS (lv_sub (l' := [(0, .ref t), (1, .int (nI d)), (2, .long (lN (sn * 2 ^ 24 + d))), (4, .int (nI (hm d))), (5, .int (nI (i + 1)))]) hl [2, 3, 4, 5, 0] rfl)
      · have c_71 := mt (lg_cmp_eq _ _).mpr c_71
        have c8 : ¬ v ((hm d + i) % 4096) / 2 ^ 24 = sn := fun z => c_71 (by rw [z])
        have hn9 := TI2_out hT2 hil hri c8
        refine lv_aload_n hx hb dX3_learn_74 rfl (lv_at hl 1 rfl) ?_
        refine va_get (D := G.1) (ci := 3) (v := .ref kn) (C := RX3) (T := TX3) (N := 5) hx hb hts hin3 hown hK hP 0 rfl rfl 2 (by decide) (hts (.fieldLink RX3 11 "FaultShrinker$Taster" "known" "[J") (List.mem_of_getElem? (i := 3) rfl)) (fun _ h9 => h9) rfl dX3_learn_75 ?_
        refine lv_iload hx hb dX3_learn_78 (lv_at hl 0 rfl) ?_
        refine lv_lload_n hx hb dX3_learn_80 rfl (lv_at hl 3 rfl) ?_
        refine va_last hx hb hK hP hD hS 1 1 rfl rfl (vp_in_nI (by omega) (by omega)) dX3_learn_81 (fun H locs hP hD hS => ?_)
        rw [jF_upd _ (by omega)] at hP hD
        have hP : va_P G.1 vwCl [(t, .inr (3, [.ref a, .ref b, .ref kn, .long (lN sn), .int (nI ta)])), (kn, .inl (G.2.2, 4096, .inr (.inl (va_up T ((hm d + i) % 4096) (lN (sn * 2 ^ 24 + d))))))] H := hP
        have hD : va_D A [(t, .inr (3, [.ref a, .ref b, .ref kn, .long (lN sn), .int (nI ta)])), (kn, .inl (G.2.2, 4096, .inr (.inl (va_up T ((hm d + i) % 4096) (lN (sn * 2 ^ 24 + d))))))] := hD
        refine lv_iconst (v := nI 1) hx hb dX3_learn_82 (by decide +kernel) ?_
        exact cs_zret hx hb hr hlocks hK hP hD hS (v := nI 1) (rfl) (va_up T ((hm d + i) % 4096) (lN (sn * 2 ^ 24 + d))) (⟨by rw [decide_eq_true hn9]; rfl, by rw [lk_new hn9]; exact ⟨_, TI_v hv _ _, TI2_put hT2 hsn hd hil (fun r h => (hri r h).1) c8 hn9⟩⟩) rfl dX3_learn_83
    · have c_51 := (lg_cmp_eq _ _).mp c_51
      have c9 := (fb_lN_inj (by omega) (by omega)).mp c_51
      have hin9 := TI2_in hT2 hxl hd c9
      refine lv_iconst (v := nI 0) hx hb dX3_learn_54 (by decide +kernel) ?_
      exact cs_zret hx hb hr hlocks hK hP hD hS (v := nI 0) (rfl) T (⟨by rw [decide_eq_false (fun z => z hin9)]; rfl, by rw [lk_in hin9]; exact ⟨v, hv, hT2⟩⟩) rfl dX3_learn_55

set_option maxRecDepth 100000 in
theorem in3_X3_looksSpoiled : ∀ w ∈ wsX30, w ∈ wsX3_looksSpoiled := by decide +kernel
set_option maxHeartbeats 4000000 in
set_option maxRecDepth 100000 in
theorem c_X3_looksSpoiled (l : Launch) (G : cG) (t kn sn : Nat) (T : Nat → Int64) (K : List Nat) (d : Nat) (a ka n : Nat) (k : Nat → Nat) (b nb sb rc : Nat) (ne sp : Nat → Nat) (hn : n ≤ 24) (hk : ∀ j, j < n → k j < 16) (hrc : rc ≤ 6) (hne : ∀ j, j < 6 → ne j < 65536) (hsp : ∀ j, j < 6 → sp j < 65536) (hsn : sn < 2 ^ 36) (hT : TI T sn K) (hKl : K.length < 4000) (hd : d < 2 ^ 24) : cMI l G yX3_looksSpoiled wsX3_looksSpoiled ({ frames := 2, cells := 0, slots := 0, locals := 45 }) [.ref t, .int (nI d)] [(t, .inr (3, [.ref a, .ref b, .ref kn, .long (lN sn), .int (nI K.length)])), (kn, .inl (G.2.2, 4096, .inr (.inl T))), (a, .inr (0, [.ref ka, .int (nI n)])), (ka, .inl (G.2.1, 24, .inl (nF k))), (b, .inr (1, [.ref nb, .ref sb, .int (nI rc)])), (nb, .inl (G.2.1, 6, .inl (nF ne))), (sb, .inl (G.2.1, 6, .inl (nF sp)))] (fun (r_ : Int32) (T9 : Nat → Int64) => r_ = bI (spl k ne sp n rc d) ∧ TI T9 sn (lk K d)) (fun (T9 : Nat → Int64) => [(t, .inr (3, [.ref a, .ref b, .ref kn, .long (lN sn), .int (nI ((lk K d).length))])), (kn, .inl (G.2.2, 4096, .inr (.inl T9))), (a, .inr (0, [.ref ka, .int (nI n)])), (ka, .inl (G.2.1, 24, .inl (nF k))), (b, .inr (1, [.ref nb, .ref sb, .int (nI rc)])), (nb, .inl (G.2.1, 6, .inl (nF ne))), (sb, .inl (G.2.1, 6, .inl (nF sp)))]) := by
  refine cs_sI (own := RX3) (cc := cX3_looksSpoiled) (maxL := 2) (ret := (some .boolean)) (by decide) rfl rfl (Nat.le_of_ble_eq_true rfl) ?_
  intro p e s m below meth c A hx hb hr hml hts hown hlocks hinit hA hK hP hD hS ls hl
  have hin3 := in3_X3_looksSpoiled
  have hl : lv_has ls 2 [(0, .ref t), (1, .int (nI d))] := hl
  refine lv_aload_n hx hb dX3_looksSpoiled_0 rfl (lv_at hl 0 rfl) ?_
  refine lv_iload_n hx hb dX3_looksSpoiled_1 rfl (lv_at hl 1 rfl) ?_
  refine cs_vi (As := [.int (nI d)]) (rest := []) (wr := [(a, .inr (0, [.ref ka, .int (nI n)])), (ka, .inl (G.2.1, 24, .inl (nF k))), (b, .inr (1, [.ref nb, .ref sb, .int (nI rc)])), (nb, .inl (G.2.1, 6, .inl (nF ne))), (sb, .inl (G.2.1, 6, .inl (nF sp)))]) ⟨hx, hb, hml, hown, hts⟩ hK hP hD hS hA (c_X3_learn l G t kn a b sn K.length T K d (by first | assumption | omega) (by first | assumption | omega) (by first | assumption | omega) (by first | assumption | omega)) (cwV 1 hts gX3_looksSpoiled_X3_learn rfl rfl rfl (by decide +kernel) ⟨Nat.le_of_ble_eq_true rfl, Nat.le_of_ble_eq_true rfl⟩) [0, 1] [2, 3, 4, 5, 6] ⟨rfl, rfl, by decide, by decide, by decide⟩ 0 3 rfl rfl rfl hl.1 rfl (Nat.le_of_ble_eq_true rfl) ⟨Nat.le_of_ble_eq_true rfl, Nat.le_of_ble_eq_true rfl⟩ dX3_looksSpoiled_2 (fun r u_1 H locs hw hP hD hS => ?_)
  obtain ⟨rfl, hT⟩ := hw
  have hP : va_P G.1 vwCl [(t, .inr (3, [.ref a, .ref b, .ref kn, .long (lN sn), .int (nI K.length)])), (kn, .inl (G.2.2, 4096, .inr (.inl u_1))), (a, .inr (0, [.ref ka, .int (nI n)])), (ka, .inl (G.2.1, 24, .inl (nF k))), (b, .inr (1, [.ref nb, .ref sb, .int (nI rc)])), (nb, .inl (G.2.1, 6, .inl (nF ne))), (sb, .inl (G.2.1, 6, .inl (nF sp)))] H := hP.sub [5, 6, 0, 1, 2, 3, 4] rfl
  have hD : va_D A [(t, .inr (3, [.ref a, .ref b, .ref kn, .long (lN sn), .int (nI K.length)])), (kn, .inl (G.2.2, 4096, .inr (.inl u_1))), (a, .inr (0, [.ref ka, .int (nI n)])), (ka, .inl (G.2.1, 24, .inl (nF k))), (b, .inr (1, [.ref nb, .ref sb, .int (nI rc)])), (nb, .inl (G.2.1, 6, .inl (nF ne))), (sb, .inl (G.2.1, 6, .inl (nF sp)))] := hD.sub [5, 6, 0, 1, 2, 3, 4] (by decide) rfl
  refine lv_if_eq (tgt := 18) hx hb dX3_looksSpoiled_5 (by decide) (fun c_5 => ?_) (fun c_5 => ?_)
  · have c_5 := bI_0 c_5
    have e9 : nI K.length = nI ((lk K d).length) := by first | rw [lk_new (of_decide_eq_true c_5), List.length_append]; rfl | rw [lk_in (Classical.not_not.mp (of_decide_eq_false c_5))]
    rw [e9] at hP hD
    have hP : va_P G.1 vwCl [(t, .inr (3, [.ref a, .ref b, .ref kn, .long (lN sn), .int (nI ((lk K d).length))])), (kn, .inl (G.2.2, 4096, .inr (.inl u_1))), (a, .inr (0, [.ref ka, .int (nI n)])), (ka, .inl (G.2.1, 24, .inl (nF k))), (b, .inr (1, [.ref nb, .ref sb, .int (nI rc)])), (nb, .inl (G.2.1, 6, .inl (nF ne))), (sb, .inl (G.2.1, 6, .inl (nF sp)))] H := hP
    have hD : va_D A [(t, .inr (3, [.ref a, .ref b, .ref kn, .long (lN sn), .int (nI ((lk K d).length))])), (kn, .inl (G.2.2, 4096, .inr (.inl u_1))), (a, .inr (0, [.ref ka, .int (nI n)])), (ka, .inl (G.2.1, 24, .inl (nF k))), (b, .inr (1, [.ref nb, .ref sb, .int (nI rc)])), (nb, .inl (G.2.1, 6, .inl (nF ne))), (sb, .inl (G.2.1, 6, .inl (nF sp)))] := hD
    refine lv_aload_n hx hb dX3_looksSpoiled_18 rfl (lv_at hl 0 rfl) ?_
    refine va_get (D := G.1) (ci := 3) (v := .ref b) (C := RX3) (T := TX3) (N := 5) hx hb hts hin3 hown hK hP 0 rfl rfl 1 (by decide) (hts (.fieldLink RX3 19 "FaultShrinker$Taster" "rules" "LFaultShrinker$RuleBook;") (List.mem_of_getElem? (i := 2) rfl)) (fun _ h9 => h9) rfl dX3_looksSpoiled_19 ?_
    refine lv_aload_n hx hb dX3_looksSpoiled_22 rfl (lv_at hl 0 rfl) ?_
    refine va_get (D := G.1) (ci := 3) (v := .ref a) (C := RX3) (T := TX3) (N := 5) hx hb hts hin3 hown hK hP 0 rfl rfl 0 (by decide) (hts (.fieldLink RX3 15 "FaultShrinker$Taster" "recipe" "LFaultShrinker$Recipe;") (List.mem_of_getElem? (i := 3) rfl)) (fun _ h9 => h9) rfl dX3_looksSpoiled_23 ?_
    refine lv_iload_n hx hb dX3_looksSpoiled_26 rfl (lv_at hl 1 rfl) ?_
    refine cs_vi (As := [.int (nI d)]) (rest := [.ref b]) (wr := [(t, .inr (3, [.ref a, .ref b, .ref kn, .long (lN sn), .int (nI ((lk K d).length))])), (kn, .inl (G.2.2, 4096, .inr (.inl u_1))), (b, .inr (1, [.ref nb, .ref sb, .int (nI rc)])), (nb, .inl (G.2.1, 6, .inl (nF ne))), (sb, .inl (G.2.1, 6, .inl (nF sp)))]) ⟨hx, hb, hml, hown, hts⟩ hK hP hD hS hA (c_X0_kindsOf l G a ka n k d (by first | assumption | omega) (by first | assumption | omega) (by first | assumption | omega)) (cwV 1 hts gX3_looksSpoiled_X0_kindsOf rfl rfl rfl (by decide +kernel) ⟨Nat.le_of_ble_eq_true rfl, Nat.le_of_ble_eq_true rfl⟩) [2, 3] [0, 1, 4, 5, 6] ⟨rfl, rfl, by decide, by decide, by decide⟩ 2 0 rfl rfl rfl hl.1 rfl (Nat.le_of_ble_eq_true rfl) ⟨Nat.le_of_ble_eq_true rfl, Nat.le_of_ble_eq_true rfl⟩ dX3_looksSpoiled_27 (fun r u H locs hw hP hD hS => ?_)
    have hP : va_P G.1 vwCl [(t, .inr (3, [.ref a, .ref b, .ref kn, .long (lN sn), .int (nI ((lk K d).length))])), (kn, .inl (G.2.2, 4096, .inr (.inl u_1))), (a, .inr (0, [.ref ka, .int (nI n)])), (ka, .inl (G.2.1, 24, .inl (nF k))), (b, .inr (1, [.ref nb, .ref sb, .int (nI rc)])), (nb, .inl (G.2.1, 6, .inl (nF ne))), (sb, .inl (G.2.1, 6, .inl (nF sp)))] H := hP.sub [0, 1, 5, 6, 2, 3, 4] rfl
    have hD : va_D A [(t, .inr (3, [.ref a, .ref b, .ref kn, .long (lN sn), .int (nI ((lk K d).length))])), (kn, .inl (G.2.2, 4096, .inr (.inl u_1))), (a, .inr (0, [.ref ka, .int (nI n)])), (ka, .inl (G.2.1, 24, .inl (nF k))), (b, .inr (1, [.ref nb, .ref sb, .int (nI rc)])), (nb, .inl (G.2.1, 6, .inl (nF ne))), (sb, .inl (G.2.1, 6, .inl (nF sp)))] := hD.sub [0, 1, 5, 6, 2, 3, 4] (by decide) rfl
    subst hw
    refine cs_vi (As := [.int (nI (kds k d n))]) (rest := []) (wr := [(t, .inr (3, [.ref a, .ref b, .ref kn, .long (lN sn), .int (nI ((lk K d).length))])), (kn, .inl (G.2.2, 4096, .inr (.inl u_1))), (a, .inr (0, [.ref ka, .int (nI n)])), (ka, .inl (G.2.1, 24, .inl (nF k)))]) ⟨hx, hb, hml, hown, hts⟩ hK hP hD hS hA (c_X1_holding l G b nb sb rc ne sp (by first | assumption | omega) (by first | assumption | omega) (by first | assumption | omega) (kds k d n) (kds_lt hk)) (cwV 1 hts gX3_looksSpoiled_X1_holding rfl rfl rfl (by decide +kernel) ⟨Nat.le_of_ble_eq_true rfl, Nat.le_of_ble_eq_true rfl⟩) [4, 5, 6] [0, 1, 2, 3] ⟨rfl, rfl, by decide, by decide, by decide⟩ 4 1 rfl rfl rfl hl.1 rfl (Nat.le_of_ble_eq_true rfl) ⟨Nat.le_of_ble_eq_true rfl, Nat.le_of_ble_eq_true rfl⟩ dX3_looksSpoiled_30 (fun r u H locs hw hP hD hS => ?_)
    have hP : va_P G.1 vwCl [(t, .inr (3, [.ref a, .ref b, .ref kn, .long (lN sn), .int (nI ((lk K d).length))])), (kn, .inl (G.2.2, 4096, .inr (.inl u_1))), (a, .inr (0, [.ref ka, .int (nI n)])), (ka, .inl (G.2.1, 24, .inl (nF k))), (b, .inr (1, [.ref nb, .ref sb, .int (nI rc)])), (nb, .inl (G.2.1, 6, .inl (nF ne))), (sb, .inl (G.2.1, 6, .inl (nF sp)))] H := hP.sub [0, 1, 2, 3, 4, 5, 6] rfl
    have hD : va_D A [(t, .inr (3, [.ref a, .ref b, .ref kn, .long (lN sn), .int (nI ((lk K d).length))])), (kn, .inl (G.2.2, 4096, .inr (.inl u_1))), (a, .inr (0, [.ref ka, .int (nI n)])), (ka, .inl (G.2.1, 24, .inl (nF k))), (b, .inr (1, [.ref nb, .ref sb, .int (nI rc)])), (nb, .inl (G.2.1, 6, .inl (nF ne))), (sb, .inl (G.2.1, 6, .inl (nF sp)))] := hD.sub [0, 1, 2, 3, 4, 5, 6] (by decide) rfl
    subst hw
    have hh := hcn_le ne sp (kds k d n) rc
    refine lv_if_le (tgt := 40) hx hb dX3_looksSpoiled_33 (by decide) (fun c_33 => ?_) (fun c_33 => ?_)
    · have c_33 := (nI_le0 (by omega)).mp c_33
      refine lv_iconst (v := nI 0) hx hb dX3_looksSpoiled_40 (by decide +kernel) ?_
      exact cs_zret hx hb hr hlocks hK hP hD hS (v := nI 0) (rfl) u_1 (⟨by unfold spl; first | (rw [decide_eq_true (by omega)]; rfl) | (rw [decide_eq_false (by omega)]; rfl), hT⟩) rfl dX3_looksSpoiled_41
    · have c_33 := mt (nI_le0 (by omega)).mpr c_33
      refine lv_iconst (v := nI 1) hx hb dX3_looksSpoiled_36 (by decide +kernel) ?_
      refine lv_goto (tgt := 41) hx hb dX3_looksSpoiled_37 (by decide) ?_
      exact cs_zret hx hb hr hlocks hK hP hD hS (v := nI 1) (rfl) u_1 (⟨by unfold spl; first | (rw [decide_eq_true (by omega)]; rfl) | (rw [decide_eq_false (by omega)]; rfl), hT⟩) rfl dX3_looksSpoiled_41
  · have c_5 := bI_n0 c_5
    refine lv_aload_n hx hb dX3_looksSpoiled_8 rfl (lv_at hl 0 rfl) ?_
    refine lv_dup hx hb dX3_looksSpoiled_9 rfl ?_
    refine va_get (D := G.1) (ci := 3) (v := .int (nI K.length)) (C := RX3) (T := TX3) (N := 5) hx hb hts hin3 hown hK hP 0 rfl rfl 4 (by decide) (hts (.fieldLink RX3 27 "FaultShrinker$Taster" "tastings" "I") (List.mem_of_getElem? (i := 1) rfl)) (fun _ h9 => h9) rfl dX3_looksSpoiled_10 ?_
    refine lv_iconst (v := nI 1) hx hb dX3_looksSpoiled_13 (by decide +kernel) ?_
    refine lv_iadd hx hb dX3_looksSpoiled_14 ?_
    refine cs_i (y := nI (K.length + 1)) (nI_add _ _) ?_
    refine va_put (D := G.1) (ci := 3) (v := .int (nI (K.length + 1))) (ty := .int) (C := RX3) (T := TX3) (N := 5) hx hb hts hin3 tyX3 tyX3_ok nmX3 hown hK hP hD hS 0 rfl rfl 4 (by decide) (hts (.fieldLink RX3 27 "FaultShrinker$Taster" "tastings" "I") (List.mem_of_getElem? (i := 1) rfl)) (fun _ h9 => h9) rfl (by decide +kernel) rfl rfl (Nat.le_of_ble_eq_true rfl) dX3_looksSpoiled_15 (fun H locs hP hD hS => ?_)
    have hP : va_P G.1 vwCl [(t, .inr (3, [.ref a, .ref b, .ref kn, .long (lN sn), .int (nI (K.length + 1))])), (kn, .inl (G.2.2, 4096, .inr (.inl u_1))), (a, .inr (0, [.ref ka, .int (nI n)])), (ka, .inl (G.2.1, 24, .inl (nF k))), (b, .inr (1, [.ref nb, .ref sb, .int (nI rc)])), (nb, .inl (G.2.1, 6, .inl (nF ne))), (sb, .inl (G.2.1, 6, .inl (nF sp)))] H := hP
    have hD : va_D A [(t, .inr (3, [.ref a, .ref b, .ref kn, .long (lN sn), .int (nI (K.length + 1))])), (kn, .inl (G.2.2, 4096, .inr (.inl u_1))), (a, .inr (0, [.ref ka, .int (nI n)])), (ka, .inl (G.2.1, 24, .inl (nF k))), (b, .inr (1, [.ref nb, .ref sb, .int (nI rc)])), (nb, .inl (G.2.1, 6, .inl (nF ne))), (sb, .inl (G.2.1, 6, .inl (nF sp)))] := hD
    have e9 : nI (K.length + 1) = nI ((lk K d).length) := by first | rw [lk_new (of_decide_eq_true c_5), List.length_append]; rfl | rw [lk_in (Classical.not_not.mp (of_decide_eq_false c_5))]
    rw [e9] at hP hD
    have hP : va_P G.1 vwCl [(t, .inr (3, [.ref a, .ref b, .ref kn, .long (lN sn), .int (nI ((lk K d).length))])), (kn, .inl (G.2.2, 4096, .inr (.inl u_1))), (a, .inr (0, [.ref ka, .int (nI n)])), (ka, .inl (G.2.1, 24, .inl (nF k))), (b, .inr (1, [.ref nb, .ref sb, .int (nI rc)])), (nb, .inl (G.2.1, 6, .inl (nF ne))), (sb, .inl (G.2.1, 6, .inl (nF sp)))] H := hP
    have hD : va_D A [(t, .inr (3, [.ref a, .ref b, .ref kn, .long (lN sn), .int (nI ((lk K d).length))])), (kn, .inl (G.2.2, 4096, .inr (.inl u_1))), (a, .inr (0, [.ref ka, .int (nI n)])), (ka, .inl (G.2.1, 24, .inl (nF k))), (b, .inr (1, [.ref nb, .ref sb, .int (nI rc)])), (nb, .inl (G.2.1, 6, .inl (nF ne))), (sb, .inl (G.2.1, 6, .inl (nF sp)))] := hD
    refine lv_aload_n hx hb dX3_looksSpoiled_18 rfl (lv_at hl 0 rfl) ?_
    refine va_get (D := G.1) (ci := 3) (v := .ref b) (C := RX3) (T := TX3) (N := 5) hx hb hts hin3 hown hK hP 0 rfl rfl 1 (by decide) (hts (.fieldLink RX3 19 "FaultShrinker$Taster" "rules" "LFaultShrinker$RuleBook;") (List.mem_of_getElem? (i := 2) rfl)) (fun _ h9 => h9) rfl dX3_looksSpoiled_19 ?_
    refine lv_aload_n hx hb dX3_looksSpoiled_22 rfl (lv_at hl 0 rfl) ?_
    refine va_get (D := G.1) (ci := 3) (v := .ref a) (C := RX3) (T := TX3) (N := 5) hx hb hts hin3 hown hK hP 0 rfl rfl 0 (by decide) (hts (.fieldLink RX3 15 "FaultShrinker$Taster" "recipe" "LFaultShrinker$Recipe;") (List.mem_of_getElem? (i := 3) rfl)) (fun _ h9 => h9) rfl dX3_looksSpoiled_23 ?_
    refine lv_iload_n hx hb dX3_looksSpoiled_26 rfl (lv_at hl 1 rfl) ?_
    refine cs_vi (As := [.int (nI d)]) (rest := [.ref b]) (wr := [(t, .inr (3, [.ref a, .ref b, .ref kn, .long (lN sn), .int (nI ((lk K d).length))])), (kn, .inl (G.2.2, 4096, .inr (.inl u_1))), (b, .inr (1, [.ref nb, .ref sb, .int (nI rc)])), (nb, .inl (G.2.1, 6, .inl (nF ne))), (sb, .inl (G.2.1, 6, .inl (nF sp)))]) ⟨hx, hb, hml, hown, hts⟩ hK hP hD hS hA (c_X0_kindsOf l G a ka n k d (by first | assumption | omega) (by first | assumption | omega) (by first | assumption | omega)) (cwV 1 hts gX3_looksSpoiled_X0_kindsOf rfl rfl rfl (by decide +kernel) ⟨Nat.le_of_ble_eq_true rfl, Nat.le_of_ble_eq_true rfl⟩) [2, 3] [0, 1, 4, 5, 6] ⟨rfl, rfl, by decide, by decide, by decide⟩ 2 0 rfl rfl rfl hl.1 rfl (Nat.le_of_ble_eq_true rfl) ⟨Nat.le_of_ble_eq_true rfl, Nat.le_of_ble_eq_true rfl⟩ dX3_looksSpoiled_27 (fun r u H locs hw hP hD hS => ?_)
    have hP : va_P G.1 vwCl [(t, .inr (3, [.ref a, .ref b, .ref kn, .long (lN sn), .int (nI ((lk K d).length))])), (kn, .inl (G.2.2, 4096, .inr (.inl u_1))), (a, .inr (0, [.ref ka, .int (nI n)])), (ka, .inl (G.2.1, 24, .inl (nF k))), (b, .inr (1, [.ref nb, .ref sb, .int (nI rc)])), (nb, .inl (G.2.1, 6, .inl (nF ne))), (sb, .inl (G.2.1, 6, .inl (nF sp)))] H := hP.sub [0, 1, 5, 6, 2, 3, 4] rfl
    have hD : va_D A [(t, .inr (3, [.ref a, .ref b, .ref kn, .long (lN sn), .int (nI ((lk K d).length))])), (kn, .inl (G.2.2, 4096, .inr (.inl u_1))), (a, .inr (0, [.ref ka, .int (nI n)])), (ka, .inl (G.2.1, 24, .inl (nF k))), (b, .inr (1, [.ref nb, .ref sb, .int (nI rc)])), (nb, .inl (G.2.1, 6, .inl (nF ne))), (sb, .inl (G.2.1, 6, .inl (nF sp)))] := hD.sub [0, 1, 5, 6, 2, 3, 4] (by decide) rfl
    subst hw
    refine cs_vi (As := [.int (nI (kds k d n))]) (rest := []) (wr := [(t, .inr (3, [.ref a, .ref b, .ref kn, .long (lN sn), .int (nI ((lk K d).length))])), (kn, .inl (G.2.2, 4096, .inr (.inl u_1))), (a, .inr (0, [.ref ka, .int (nI n)])), (ka, .inl (G.2.1, 24, .inl (nF k)))]) ⟨hx, hb, hml, hown, hts⟩ hK hP hD hS hA (c_X1_holding l G b nb sb rc ne sp (by first | assumption | omega) (by first | assumption | omega) (by first | assumption | omega) (kds k d n) (kds_lt hk)) (cwV 1 hts gX3_looksSpoiled_X1_holding rfl rfl rfl (by decide +kernel) ⟨Nat.le_of_ble_eq_true rfl, Nat.le_of_ble_eq_true rfl⟩) [4, 5, 6] [0, 1, 2, 3] ⟨rfl, rfl, by decide, by decide, by decide⟩ 4 1 rfl rfl rfl hl.1 rfl (Nat.le_of_ble_eq_true rfl) ⟨Nat.le_of_ble_eq_true rfl, Nat.le_of_ble_eq_true rfl⟩ dX3_looksSpoiled_30 (fun r u H locs hw hP hD hS => ?_)
    have hP : va_P G.1 vwCl [(t, .inr (3, [.ref a, .ref b, .ref kn, .long (lN sn), .int (nI ((lk K d).length))])), (kn, .inl (G.2.2, 4096, .inr (.inl u_1))), (a, .inr (0, [.ref ka, .int (nI n)])), (ka, .inl (G.2.1, 24, .inl (nF k))), (b, .inr (1, [.ref nb, .ref sb, .int (nI rc)])), (nb, .inl (G.2.1, 6, .inl (nF ne))), (sb, .inl (G.2.1, 6, .inl (nF sp)))] H := hP.sub [0, 1, 2, 3, 4, 5, 6] rfl
    have hD : va_D A [(t, .inr (3, [.ref a, .ref b, .ref kn, .long (lN sn), .int (nI ((lk K d).length))])), (kn, .inl (G.2.2, 4096, .inr (.inl u_1))), (a, .inr (0, [.ref ka, .int (nI n)])), (ka, .inl (G.2.1, 24, .inl (nF k))), (b, .inr (1, [.ref nb, .ref sb, .int (nI rc)])), (nb, .inl (G.2.1, 6, .inl (nF ne))), (sb, .inl (G.2.1, 6, .inl (nF sp)))] := hD.sub [0, 1, 2, 3, 4, 5, 6] (by decide) rfl
    subst hw
    have hh := hcn_le ne sp (kds k d n) rc
    refine lv_if_le (tgt := 40) hx hb dX3_looksSpoiled_33 (by decide) (fun c_33 => ?_) (fun c_33 => ?_)
    · have c_33 := (nI_le0 (by omega)).mp c_33
      refine lv_iconst (v := nI 0) hx hb dX3_looksSpoiled_40 (by decide +kernel) ?_
      exact cs_zret hx hb hr hlocks hK hP hD hS (v := nI 0) (rfl) u_1 (⟨by unfold spl; first | (rw [decide_eq_true (by omega)]; rfl) | (rw [decide_eq_false (by omega)]; rfl), hT⟩) rfl dX3_looksSpoiled_41
    · have c_33 := mt (nI_le0 (by omega)).mpr c_33
      refine lv_iconst (v := nI 1) hx hb dX3_looksSpoiled_36 (by decide +kernel) ?_
      refine lv_goto (tgt := 41) hx hb dX3_looksSpoiled_37 (by decide) ?_
      exact cs_zret hx hb hr hlocks hK hP hD hS (v := nI 1) (rfl) u_1 (⟨by unfold spl; first | (rw [decide_eq_true (by omega)]; rfl) | (rw [decide_eq_false (by omega)]; rfl), hT⟩) rfl dX3_looksSpoiled_41
