set_option maxRecDepth 100000 in
theorem in5_X5_taste : ∀ w ∈ wsX50, w ∈ wsX5_taste := by decide +kernel
set_option maxHeartbeats 4000000 in
set_option maxRecDepth 100000 in
theorem c_X5_taste (l : Launch) (G : cG) (z zk zn zs zw zf zg th n rc st : Nat) (kp : Bool) (kd kq kt ks al : Nat) (hn : n ≤ 24) (hrc : rc ≤ 6) (k : Nat → Nat) (ne sp : Nat → Nat) (kw : Nat → Nat) (K : List Nat) (hk : ∀ j, j < n → k j < 16) (hne : ∀ j, j < 6 → ne j < 65536) (hsp : ∀ j, j < 6 → sp j < 65536) (d : Nat) (hd : d < 2 ^ 24) (hKR : KR kw K) (hKl : K.length < 4000) : cMI l G yX5_taste wsX5_taste ({ frames := 2, cells := 0, slots := 0, locals := 46 }) [.ref z, .int (nI d)] [(z, .inr (5, [.int (nI th), .int (nI n), .ref zk, .int (nI rc), .ref zn, .ref zs, .int (nI K.length), .ref zw, .int (nI st), .ref zf, .int (bI kp), .int (nI kd), .int (nI kq), .int (nI kt), .int (nI ks), .ref zg, .int (nI al)])), (zk, .inl (G.2.1, 24, .inl (nF k))), (zn, .inl (G.2.1, 6, .inl (nF ne))), (zs, .inl (G.2.1, 6, .inl (nF sp))), (zw, .inl (G.2.1, 4096, .inl (nF kw)))] (fun (r_ : Int32) (kw9 : Nat → Nat) => r_ = bI (spl k ne sp n rc d) ∧ KR kw9 (lk K d)) (fun (kw9 : Nat → Nat) => [(z, .inr (5, [.int (nI th), .int (nI n), .ref zk, .int (nI rc), .ref zn, .ref zs, .int (nI ((lk K d).length)), .ref zw, .int (nI st), .ref zf, .int (bI kp), .int (nI kd), .int (nI kq), .int (nI kt), .int (nI ks), .ref zg, .int (nI al)])), (zk, .inl (G.2.1, 24, .inl (nF k))), (zn, .inl (G.2.1, 6, .inl (nF ne))), (zs, .inl (G.2.1, 6, .inl (nF sp))), (zw, .inl (G.2.1, 4096, .inl (nF kw9)))]) := by
  refine cs_sI (own := RX5) (cc := cX5_taste) (maxL := 4) (ret := (some .boolean)) (by decide) rfl rfl (Nat.le_of_ble_eq_true rfl) ?_
  intro p e s m below meth c A hx hb hr hml hts hown hlocks hinit hA hK hP hD hS ls hl
  have hin5 := in5_X5_taste
  have hl : lv_has ls 4 [(0, .ref z), (1, .int (nI d))] := hl
  refine lv_iconst (v := nI 1) hx hb dX5_taste_0 (by decide +kernel) ?_
  refine cs_i (y := bI true) (rfl) ?_
  refine lv_istore_n (lv' := [(2, .int (bI true)), (0, .ref z), (1, .int (nI d))]) hx hb dX5_taste_1 rfl hl (by decide) rfl (fun ls hl => ?_)
  refine lv_iconst (v := nI 0) hx hb dX5_taste_2 (by decide +kernel) ?_
  refine lv_istore_n (lv' := [(3, .int (nI 0)), (2, .int (bI true)), (0, .ref z), (1, .int (nI d))]) hx hb dX5_taste_3 rfl hl (by decide) rfl (fun ls hl => ?_)
  refine cs_loop (G := G) (nL := 4) (σ := Nat × Bool) (fun x : Nat × Bool => match x with | (i, nw) => K.length - i) (fun x : Nat × Bool => match x with | (i, nw) => i ≤ K.length ∧ (nw = true → ∀ j, j < i → kw j ≠ d) ∧ (nw = false → d ∈ K)) (fun x : Nat × Bool => match x with | (i, nw) => [(z, .inr (5, [.int (nI th), .int (nI n), .ref zk, .int (nI rc), .ref zn, .ref zs, .int (nI K.length), .ref zw, .int (nI st), .ref zf, .int (bI kp), .int (nI kd), .int (nI kq), .int (nI kt), .int (nI ks), .ref zg, .int (nI al)])), (zk, .inl (G.2.1, 24, .inl (nF k))), (zn, .inl (G.2.1, 6, .inl (nF ne))), (zs, .inl (G.2.1, 6, .inl (nF sp))), (zw, .inl (G.2.1, 4096, .inl (nF kw)))]) (fun x : Nat × Bool => match x with | (i, nw) => [(0, .ref z), (1, .int (nI d)), (2, .int (bI nw)), (3, .int (nI i))]) ?_ ((0, true)) (⟨Nat.zero_le _, fun _ j hj => absurd hj (Nat.not_lt_zero j), fun q9 => by cases q9⟩) (hP.sub (ws' := [(z, .inr (5, [.int (nI th), .int (nI n), .ref zk, .int (nI rc), .ref zn, .ref zs, .int (nI K.length), .ref zw, .int (nI st), .ref zf, .int (bI kp), .int (nI kd), .int (nI kq), .int (nI kt), .int (nI ks), .ref zg, .int (nI al)])), (zk, .inl (G.2.1, 24, .inl (nF k))), (zn, .inl (G.2.1, 6, .inl (nF ne))), (zs, .inl (G.2.1, 6, .inl (nF sp))), (zw, .inl (G.2.1, 4096, .inl (nF kw)))]) [0, 1, 2, 3, 4] rfl) (hD.sub (ws' := [(z, .inr (5, [.int (nI th), .int (nI n), .ref zk, .int (nI rc), .ref zn, .ref zs, .int (nI K.length), .ref zw, .int (nI st), .ref zf, .int (bI kp), .int (nI kd), .int (nI kq), .int (nI kt), .int (nI ks), .ref zg, .int (nI al)])), (zk, .inl (G.2.1, 24, .inl (nF k))), (zn, .inl (G.2.1, 6, .inl (nF ne))), (zs, .inl (G.2.1, 6, .inl (nF sp))), (zw, .inl (G.2.1, 4096, .inl (nF kw)))]) [0, 1, 2, 3, 4] (by decide) rfl) hS (lv_sub (l' := [(0, .ref z), (1, .int (nI d)), (2, .int (bI true)), (3, .int (nI 0))]) hl [2, 3, 1, 0] rfl)
  rintro ⟨i, nw⟩ hinv ih H locs ls hP hD hS hl
  have hP : va_P G.1 vwCl [(z, .inr (5, [.int (nI th), .int (nI n), .ref zk, .int (nI rc), .ref zn, .ref zs, .int (nI K.length), .ref zw, .int (nI st), .ref zf, .int (bI kp), .int (nI kd), .int (nI kq), .int (nI kt), .int (nI ks), .ref zg, .int (nI al)])), (zk, .inl (G.2.1, 24, .inl (nF k))), (zn, .inl (G.2.1, 6, .inl (nF ne))), (zs, .inl (G.2.1, 6, .inl (nF sp))), (zw, .inl (G.2.1, 4096, .inl (nF kw)))] H := hP
  have hD : va_D A [(z, .inr (5, [.int (nI th), .int (nI n), .ref zk, .int (nI rc), .ref zn, .ref zs, .int (nI K.length), .ref zw, .int (nI st), .ref zf, .int (bI kp), .int (nI kd), .int (nI kq), .int (nI kt), .int (nI ks), .ref zg, .int (nI al)])), (zk, .inl (G.2.1, 24, .inl (nF k))), (zn, .inl (G.2.1, 6, .inl (nF ne))), (zs, .inl (G.2.1, 6, .inl (nF sp))), (zw, .inl (G.2.1, 4096, .inl (nF kw)))] := hD
  have hl : lv_has ls 4 [(0, .ref z), (1, .int (nI d)), (2, .int (bI nw)), (3, .int (nI i))] := hl
  have hinv : i ≤ K.length ∧ (nw = true → ∀ j, j < i → kw j ≠ d) ∧ (nw = false → d ∈ K) := hinv
  obtain ⟨hi, hnt, hnf⟩ := hinv
  refine lv_iload_n hx hb dX5_taste_4 rfl (lv_at hl 3 rfl) ?_
  refine lv_aload_n hx hb dX5_taste_5 rfl (lv_at hl 0 rfl) ?_
  refine va_get (D := G.1) (ci := 5) (v := .int (nI K.length)) (C := RX5) (T := TX5) (N := 17) hx hb hts hin5 hown hK hP 0 rfl rfl 6 (by decide) (hts (.fieldLink RX5 50 "FaultShrinkerModel" "tasted" "I") (List.mem_of_getElem? (i := 1) rfl)) (fun _ h9 => h9) rfl dX5_taste_6 ?_
  refine lv_icmp_ge (tgt := 38) hx hb dX5_taste_9 (by decide) (fun c_9 => ?_) (fun c_9 => ?_)
  · have c_9 := (nI_leI (by omega) (by omega)).mp c_9
    refine lv_iload_n hx hb dX5_taste_38 rfl (lv_at hl 2 rfl) ?_
    refine lv_if_eq (tgt := 62) hx hb dX5_taste_39 (by decide) (fun c_39 => ?_) (fun c_39 => ?_)
    · have c_39 := bI_0 c_39
      have hin9 := hnf c_39
      have e9 : nI K.length = nI ((lk K d).length) := by first | rw [lk_in hin9] | rw [lk_new hout9, List.length_append]; rfl
      rw [e9] at hP hD
      have hP : va_P G.1 vwCl [(z, .inr (5, [.int (nI th), .int (nI n), .ref zk, .int (nI rc), .ref zn, .ref zs, .int (nI ((lk K d).length)), .ref zw, .int (nI st), .ref zf, .int (bI kp), .int (nI kd), .int (nI kq), .int (nI kt), .int (nI ks), .ref zg, .int (nI al)])), (zk, .inl (G.2.1, 24, .inl (nF k))), (zn, .inl (G.2.1, 6, .inl (nF ne))), (zs, .inl (G.2.1, 6, .inl (nF sp))), (zw, .inl (G.2.1, 4096, .inl (nF kw)))] H := hP
      have hD : va_D A [(z, .inr (5, [.int (nI th), .int (nI n), .ref zk, .int (nI rc), .ref zn, .ref zs, .int (nI ((lk K d).length)), .ref zw, .int (nI st), .ref zf, .int (bI kp), .int (nI kd), .int (nI kq), .int (nI kt), .int (nI ks), .ref zg, .int (nI al)])), (zk, .inl (G.2.1, 24, .inl (nF k))), (zn, .inl (G.2.1, 6, .inl (nF ne))), (zs, .inl (G.2.1, 6, .inl (nF sp))), (zw, .inl (G.2.1, 4096, .inl (nF kw)))] := hD
      refine lv_aload_n hx hb dX5_taste_62 rfl (lv_at hl 0 rfl) ?_
      refine lv_iload_n hx hb dX5_taste_63 rfl (lv_at hl 1 rfl) ?_
      refine cs_vi (As := [.int (nI d)]) (rest := []) (wr := [(zw, .inl (G.2.1, 4096, .inl (nF kw)))]) ⟨hx, hb, hml, hown, hts⟩ hK hP hD hS hA (c_X5_isSpoilt l G z zk zn zs zw zf zg th n rc ((lk K d).length) st kp kd kq kt ks al (by first | assumption | omega) (by first | assumption | omega) k ne sp (by first | assumption | omega) (by first | assumption | omega) (by first | assumption | omega) d (by first | assumption | omega)) (cwV 1 hts gX5_taste_X5_isSpoilt rfl rfl rfl (by decide +kernel) ⟨Nat.le_of_ble_eq_true rfl, Nat.le_of_ble_eq_true rfl⟩) [0, 1, 2, 3] [4] ⟨rfl, rfl, by decide, by decide, by decide⟩ 0 5 rfl rfl rfl hl.1 rfl (Nat.le_of_ble_eq_true rfl) ⟨Nat.le_of_ble_eq_true rfl, Nat.le_of_ble_eq_true rfl⟩ dX5_taste_64 (fun r u H locs hw hP hD hS => ?_)
      have hP : va_P G.1 vwCl [(z, .inr (5, [.int (nI th), .int (nI n), .ref zk, .int (nI rc), .ref zn, .ref zs, .int (nI ((lk K d).length)), .ref zw, .int (nI st), .ref zf, .int (bI kp), .int (nI kd), .int (nI kq), .int (nI kt), .int (nI ks), .ref zg, .int (nI al)])), (zk, .inl (G.2.1, 24, .inl (nF k))), (zn, .inl (G.2.1, 6, .inl (nF ne))), (zs, .inl (G.2.1, 6, .inl (nF sp))), (zw, .inl (G.2.1, 4096, .inl (nF kw)))] H := hP.sub [1, 2, 3, 4, 0] rfl
      have hD : va_D A [(z, .inr (5, [.int (nI th), .int (nI n), .ref zk, .int (nI rc), .ref zn, .ref zs, .int (nI ((lk K d).length)), .ref zw, .int (nI st), .ref zf, .int (bI kp), .int (nI kd), .int (nI kq), .int (nI kt), .int (nI ks), .ref zg, .int (nI al)])), (zk, .inl (G.2.1, 24, .inl (nF k))), (zn, .inl (G.2.1, 6, .inl (nF ne))), (zs, .inl (G.2.1, 6, .inl (nF sp))), (zw, .inl (G.2.1, 4096, .inl (nF kw)))] := hD.sub [1, 2, 3, 4, 0] (by decide) rfl
      subst hw
      exact cs_zret hx hb hr hlocks hK hP hD hS (v := bI (spl k ne sp n rc d)) (bI_nar _) kw (⟨rfl, by first | (rw [lk_in hin9]; exact hKR) | (rw [lk_new hout9]; exact KR_put hKR hd)⟩) rfl dX5_taste_67
    · have c_39 := bI_n0 c_39
      have hout9 := KR_out hKR (fun j hj => hnt c_39 j (by omega))
      refine lv_aload_n hx hb dX5_taste_42 rfl (lv_at hl 0 rfl) ?_
      refine va_get (D := G.1) (ci := 5) (v := .ref zw) (C := RX5) (T := TX5) (N := 17) hx hb hts hin5 hown hK hP 0 rfl rfl 7 (by decide) (hts (.fieldLink RX5 19 "FaultShrinkerModel" "known" "[I") (List.mem_of_getElem? (i := 2) rfl)) (fun _ h9 => h9) rfl dX5_taste_43 ?_
      refine lv_aload_n hx hb dX5_taste_46 rfl (lv_at hl 0 rfl) ?_
      refine va_get (D := G.1) (ci := 5) (v := .int (nI K.length)) (C := RX5) (T := TX5) (N := 17) hx hb hts hin5 hown hK hP 0 rfl rfl 6 (by decide) (hts (.fieldLink RX5 50 "FaultShrinkerModel" "tasted" "I") (List.mem_of_getElem? (i := 1) rfl)) (fun _ h9 => h9) rfl dX5_taste_47 ?_
      refine lv_iload_n hx hb dX5_taste_50 rfl (lv_at hl 1 rfl) ?_
      refine va_iast hx hb hK hP hD hS 4 0 rfl rfl (vp_in_nI (by omega) (by omega)) dX5_taste_51 (fun H locs hP hD hS => ?_)
      rw [nF_upd _ (by omega)] at hP hD
      have hP : va_P G.1 vwCl [(z, .inr (5, [.int (nI th), .int (nI n), .ref zk, .int (nI rc), .ref zn, .ref zs, .int (nI K.length), .ref zw, .int (nI st), .ref zf, .int (bI kp), .int (nI kd), .int (nI kq), .int (nI kt), .int (nI ks), .ref zg, .int (nI al)])), (zk, .inl (G.2.1, 24, .inl (nF k))), (zn, .inl (G.2.1, 6, .inl (nF ne))), (zs, .inl (G.2.1, 6, .inl (nF sp))), (zw, .inl (G.2.1, 4096, .inl (nF (va_up kw K.length d))))] H := hP
      have hD : va_D A [(z, .inr (5, [.int (nI th), .int (nI n), .ref zk, .int (nI rc), .ref zn, .ref zs, .int (nI K.length), .ref zw, .int (nI st), .ref zf, .int (bI kp), .int (nI kd), .int (nI kq), .int (nI kt), .int (nI ks), .ref zg, .int (nI al)])), (zk, .inl (G.2.1, 24, .inl (nF k))), (zn, .inl (G.2.1, 6, .inl (nF ne))), (zs, .inl (G.2.1, 6, .inl (nF sp))), (zw, .inl (G.2.1, 4096, .inl (nF (va_up kw K.length d))))] := hD
      refine lv_aload_n hx hb dX5_taste_52 rfl (lv_at hl 0 rfl) ?_
      refine lv_dup hx hb dX5_taste_53 rfl ?_
      refine va_get (D := G.1) (ci := 5) (v := .int (nI K.length)) (C := RX5) (T := TX5) (N := 17) hx hb hts hin5 hown hK hP 0 rfl rfl 6 (by decide) (hts (.fieldLink RX5 50 "FaultShrinkerModel" "tasted" "I") (List.mem_of_getElem? (i := 1) rfl)) (fun _ h9 => h9) rfl dX5_taste_54 ?_
      refine lv_iconst (v := nI 1) hx hb dX5_taste_57 (by decide +kernel) ?_
      refine lv_iadd hx hb dX5_taste_58 ?_
      refine cs_i (y := nI (K.length + 1)) (nI_add _ _) ?_
      refine va_put (D := G.1) (ci := 5) (v := .int (nI (K.length + 1))) (ty := .int) (C := RX5) (T := TX5) (N := 17) hx hb hts hin5 tyX5 tyX5_ok nmX5 hown hK hP hD hS 0 rfl rfl 6 (by decide) (hts (.fieldLink RX5 50 "FaultShrinkerModel" "tasted" "I") (List.mem_of_getElem? (i := 1) rfl)) (fun _ h9 => h9) rfl (by decide +kernel) rfl rfl (Nat.le_of_ble_eq_true rfl) dX5_taste_59 (fun H locs hP hD hS => ?_)
      have hP : va_P G.1 vwCl [(z, .inr (5, [.int (nI th), .int (nI n), .ref zk, .int (nI rc), .ref zn, .ref zs, .int (nI (K.length + 1)), .ref zw, .int (nI st), .ref zf, .int (bI kp), .int (nI kd), .int (nI kq), .int (nI kt), .int (nI ks), .ref zg, .int (nI al)])), (zk, .inl (G.2.1, 24, .inl (nF k))), (zn, .inl (G.2.1, 6, .inl (nF ne))), (zs, .inl (G.2.1, 6, .inl (nF sp))), (zw, .inl (G.2.1, 4096, .inl (nF (va_up kw K.length d))))] H := hP
      have hD : va_D A [(z, .inr (5, [.int (nI th), .int (nI n), .ref zk, .int (nI rc), .ref zn, .ref zs, .int (nI (K.length + 1)), .ref zw, .int (nI st), .ref zf, .int (bI kp), .int (nI kd), .int (nI kq), .int (nI kt), .int (nI ks), .ref zg, .int (nI al)])), (zk, .inl (G.2.1, 24, .inl (nF k))), (zn, .inl (G.2.1, 6, .inl (nF ne))), (zs, .inl (G.2.1, 6, .inl (nF sp))), (zw, .inl (G.2.1, 4096, .inl (nF (va_up kw K.length d))))] := hD
      have e9 : nI (K.length + 1) = nI ((lk K d).length) := by first | rw [lk_in hin9] | rw [lk_new hout9, List.length_append]; rfl
      rw [e9] at hP hD
      have hP : va_P G.1 vwCl [(z, .inr (5, [.int (nI th), .int (nI n), .ref zk, .int (nI rc), .ref zn, .ref zs, .int (nI ((lk K d).length)), .ref zw, .int (nI st), .ref zf, .int (bI kp), .int (nI kd), .int (nI kq), .int (nI kt), .int (nI ks), .ref zg, .int (nI al)])), (zk, .inl (G.2.1, 24, .inl (nF k))), (zn, .inl (G.2.1, 6, .inl (nF ne))), (zs, .inl (G.2.1, 6, .inl (nF sp))), (zw, .inl (G.2.1, 4096, .inl (nF (va_up kw K.length d))))] H := hP
      have hD : va_D A [(z, .inr (5, [.int (nI th), .int (nI n), .ref zk, .int (nI rc), .ref zn, .ref zs, .int (nI ((lk K d).length)), .ref zw, .int (nI st), .ref zf, .int (bI kp), .int (nI kd), .int (nI kq), .int (nI kt), .int (nI ks), .ref zg, .int (nI al)])), (zk, .inl (G.2.1, 24, .inl (nF k))), (zn, .inl (G.2.1, 6, .inl (nF ne))), (zs, .inl (G.2.1, 6, .inl (nF sp))), (zw, .inl (G.2.1, 4096, .inl (nF (va_up kw K.length d))))] := hD
      refine lv_aload_n hx hb dX5_taste_62 rfl (lv_at hl 0 rfl) ?_
      refine lv_iload_n hx hb dX5_taste_63 rfl (lv_at hl 1 rfl) ?_
      refine cs_vi (As := [.int (nI d)]) (rest := []) (wr := [(zw, .inl (G.2.1, 4096, .inl (nF (va_up kw K.length d))))]) ⟨hx, hb, hml, hown, hts⟩ hK hP hD hS hA (c_X5_isSpoilt l G z zk zn zs zw zf zg th n rc ((lk K d).length) st kp kd kq kt ks al (by first | assumption | omega) (by first | assumption | omega) k ne sp (by first | assumption | omega) (by first | assumption | omega) (by first | assumption | omega) d (by first | assumption | omega)) (cwV 1 hts gX5_taste_X5_isSpoilt rfl rfl rfl (by decide +kernel) ⟨Nat.le_of_ble_eq_true rfl, Nat.le_of_ble_eq_true rfl⟩) [0, 1, 2, 3] [4] ⟨rfl, rfl, by decide, by decide, by decide⟩ 0 5 rfl rfl rfl hl.1 rfl (Nat.le_of_ble_eq_true rfl) ⟨Nat.le_of_ble_eq_true rfl, Nat.le_of_ble_eq_true rfl⟩ dX5_taste_64 (fun r u H locs hw hP hD hS => ?_)
      have hP : va_P G.1 vwCl [(z, .inr (5, [.int (nI th), .int (nI n), .ref zk, .int (nI rc), .ref zn, .ref zs, .int (nI ((lk K d).length)), .ref zw, .int (nI st), .ref zf, .int (bI kp), .int (nI kd), .int (nI kq), .int (nI kt), .int (nI ks), .ref zg, .int (nI al)])), (zk, .inl (G.2.1, 24, .inl (nF k))), (zn, .inl (G.2.1, 6, .inl (nF ne))), (zs, .inl (G.2.1, 6, .inl (nF sp))), (zw, .inl (G.2.1, 4096, .inl (nF (va_up kw K.length d))))] H := hP.sub [1, 2, 3, 4, 0] rfl
      have hD : va_D A [(z, .inr (5, [.int (nI th), .int (nI n), .ref zk, .int (nI rc), .ref zn, .ref zs, .int (nI ((lk K d).length)), .ref zw, .int (nI st), .ref zf, .int (bI kp), .int (nI kd), .int (nI kq), .int (nI kt), .int (nI ks), .ref zg, .int (nI al)])), (zk, .inl (G.2.1, 24, .inl (nF k))), (zn, .inl (G.2.1, 6, .inl (nF ne))), (zs, .inl (G.2.1, 6, .inl (nF sp))), (zw, .inl (G.2.1, 4096, .inl (nF (va_up kw K.length d))))] := hD.sub [1, 2, 3, 4, 0] (by decide) rfl
      subst hw
      exact cs_zret hx hb hr hlocks hK hP hD hS (v := bI (spl k ne sp n rc d)) (bI_nar _) (va_up kw K.length d) (⟨rfl, by first | (rw [lk_in hin9]; exact hKR) | (rw [lk_new hout9]; exact KR_put hKR hd)⟩) rfl dX5_taste_67
  · have c_9 := mt (nI_leI (by omega) (by omega)).mpr c_9
    refine lv_iload_n hx hb dX5_taste_12 rfl (lv_at hl 2 rfl) ?_
    refine lv_if_eq (tgt := 38) hx hb dX5_taste_13 (by decide) (fun c_13 => ?_) (fun c_13 => ?_)
    · have c_13 := bI_0 c_13
      subst c_13
      have hin9 := hnf rfl
      refine lv_iload_n hx hb dX5_taste_38 rfl (lv_at hl 2 rfl) ?_
      refine lv_if_eq (tgt := 62) hx hb dX5_taste_39 (by decide) (fun c_39 => ?_) (fun c_39 => ?_)
      · have e9 : nI K.length = nI ((lk K d).length) := by first | rw [lk_in hin9] | rw [lk_new hout9, List.length_append]; rfl
        rw [e9] at hP hD
        have hP : va_P G.1 vwCl [(z, .inr (5, [.int (nI th), .int (nI n), .ref zk, .int (nI rc), .ref zn, .ref zs, .int (nI ((lk K d).length)), .ref zw, .int (nI st), .ref zf, .int (bI kp), .int (nI kd), .int (nI kq), .int (nI kt), .int (nI ks), .ref zg, .int (nI al)])), (zk, .inl (G.2.1, 24, .inl (nF k))), (zn, .inl (G.2.1, 6, .inl (nF ne))), (zs, .inl (G.2.1, 6, .inl (nF sp))), (zw, .inl (G.2.1, 4096, .inl (nF kw)))] H := hP
        have hD : va_D A [(z, .inr (5, [.int (nI th), .int (nI n), .ref zk, .int (nI rc), .ref zn, .ref zs, .int (nI ((lk K d).length)), .ref zw, .int (nI st), .ref zf, .int (bI kp), .int (nI kd), .int (nI kq), .int (nI kt), .int (nI ks), .ref zg, .int (nI al)])), (zk, .inl (G.2.1, 24, .inl (nF k))), (zn, .inl (G.2.1, 6, .inl (nF ne))), (zs, .inl (G.2.1, 6, .inl (nF sp))), (zw, .inl (G.2.1, 4096, .inl (nF kw)))] := hD
        refine lv_aload_n hx hb dX5_taste_62 rfl (lv_at hl 0 rfl) ?_
        refine lv_iload_n hx hb dX5_taste_63 rfl (lv_at hl 1 rfl) ?_
        refine cs_vi (As := [.int (nI d)]) (rest := []) (wr := [(zw, .inl (G.2.1, 4096, .inl (nF kw)))]) ⟨hx, hb, hml, hown, hts⟩ hK hP hD hS hA (c_X5_isSpoilt l G z zk zn zs zw zf zg th n rc ((lk K d).length) st kp kd kq kt ks al (by first | assumption | omega) (by first | assumption | omega) k ne sp (by first | assumption | omega) (by first | assumption | omega) (by first | assumption | omega) d (by first | assumption | omega)) (cwV 1 hts gX5_taste_X5_isSpoilt rfl rfl rfl (by decide +kernel) ⟨Nat.le_of_ble_eq_true rfl, Nat.le_of_ble_eq_true rfl⟩) [0, 1, 2, 3] [4] ⟨rfl, rfl, by decide, by decide, by decide⟩ 0 5 rfl rfl rfl hl.1 rfl (Nat.le_of_ble_eq_true rfl) ⟨Nat.le_of_ble_eq_true rfl, Nat.le_of_ble_eq_true rfl⟩ dX5_taste_64 (fun r u H locs hw hP hD hS => ?_)
        have hP : va_P G.1 vwCl [(z, .inr (5, [.int (nI th), .int (nI n), .ref zk, .int (nI rc), .ref zn, .ref zs, .int (nI ((lk K d).length)), .ref zw, .int (nI st), .ref zf, .int (bI kp), .int (nI kd), .int (nI kq), .int (nI kt), .int (nI ks), .ref zg, .int (nI al)])), (zk, .inl (G.2.1, 24, .inl (nF k))), (zn, .inl (G.2.1, 6, .inl (nF ne))), (zs, .inl (G.2.1, 6, .inl (nF sp))), (zw, .inl (G.2.1, 4096, .inl (nF kw)))] H := hP.sub [1, 2, 3, 4, 0] rfl
        have hD : va_D A [(z, .inr (5, [.int (nI th), .int (nI n), .ref zk, .int (nI rc), .ref zn, .ref zs, .int (nI ((lk K d).length)), .ref zw, .int (nI st), .ref zf, .int (bI kp), .int (nI kd), .int (nI kq), .int (nI kt), .int (nI ks), .ref zg, .int (nI al)])), (zk, .inl (G.2.1, 24, .inl (nF k))), (zn, .inl (G.2.1, 6, .inl (nF ne))), (zs, .inl (G.2.1, 6, .inl (nF sp))), (zw, .inl (G.2.1, 4096, .inl (nF kw)))] := hD.sub [1, 2, 3, 4, 0] (by decide) rfl
        subst hw
        exact cs_zret hx hb hr hlocks hK hP hD hS (v := bI (spl k ne sp n rc d)) (bI_nar _) kw (⟨rfl, by first | (rw [lk_in hin9]; exact hKR) | (rw [lk_new hout9]; exact KR_put hKR hd)⟩) rfl dX5_taste_67
      · exact absurd rfl c_39
    · have c_13 := bI_n0 c_13
      refine lv_aload_n hx hb dX5_taste_16 rfl (lv_at hl 0 rfl) ?_
      refine va_get (D := G.1) (ci := 5) (v := .ref zw) (C := RX5) (T := TX5) (N := 17) hx hb hts hin5 hown hK hP 0 rfl rfl 7 (by decide) (hts (.fieldLink RX5 19 "FaultShrinkerModel" "known" "[I") (List.mem_of_getElem? (i := 2) rfl)) (fun _ h9 => h9) rfl dX5_taste_17 ?_
      refine lv_iload_n hx hb dX5_taste_20 rfl (lv_at hl 3 rfl) ?_
      refine va_iald hx hb hK hP 4 0 rfl rfl (vp_in_nI (by omega) (by omega)) dX5_taste_21 ?_
      refine cs_i (y := nI (kw i)) (nF_at _ (by omega)) ?_
      have hkd := (hKR i (by omega)).2
      refine lv_iload_n hx hb dX5_taste_22 rfl (lv_at hl 1 rfl) ?_
      refine lv_icmp_eq (tgt := 30) hx hb dX5_taste_23 (by decide) (fun c_23 => ?_) (fun c_23 => ?_)
      · have c_23 := (nI_eq (by omega) (by omega)).mp c_23
        refine lv_iconst (v := nI 0) hx hb dX5_taste_30 (by decide +kernel) ?_
        refine cs_i (y := bI false) (rfl) ?_
        refine lv_istore_n (lv' := [(2, .int (bI false)), (0, .ref z), (1, .int (nI d)), (3, .int (nI i))]) hx hb dX5_taste_31 rfl hl (by decide) rfl (fun ls hl => ?_)
        refine lv_iinc (v := nI (i + 1)) (lv' := [(3, .int (nI (i + 1))), (2, .int (bI false)), (0, .ref z), (1, .int (nI d))]) hx hb dX5_taste_32 hl (k := 3) rfl ((nI_succ i).symm) (by decide) rfl (fun ls hl => ?_)
        refine lv_goto (tgt := 4) hx hb dX5_taste_35 (by decide) ?_
        exact ih ((i + 1, false)) (by show K.length - (i + 1) < K.length - i; omega) (⟨by show i + 1 ≤ K.length; omega, by first | (intro q9; cases q9; done) | exact (fun _ j hj => by rcases Nat.lt_or_ge j i with z9 | z9; exact hnt c_13 j z9; (have e9 : j = i := (by omega); subst e9; exact c_23)), by first | (intro q9; cases q9; done) | exact (fun _ => KR_in hKR (by omega) c_23)⟩) _ _ _ (hP.sub (ws' := [(z, .inr (5, [.int (nI th), .int (nI n), .ref zk, .int (nI rc), .ref zn, .ref zs, .int (nI K.length), .ref zw, .int (nI st), .ref zf, .int (bI kp), .int (nI kd), .int (nI kq), .int (nI kt), .int (nI ks), .ref zg, .int (nI al)])), (zk, .inl (G.2.1, 24, .inl (nF k))), (zn, .inl (G.2.1, 6, .inl (nF ne))), (zs, .inl (G.2.1, 6, .inl (nF sp))), (zw, .inl (G.2.1, 4096, .inl (nF kw)))]) [0, 1, 2, 3, 4] rfl) (hD.sub (ws' := [(z, .inr (5, [.int (nI th), .int (nI n), .ref zk, .int (nI rc), .ref zn, .ref zs, .int (nI K.length), .ref zw, .int (nI st), .ref zf, .int (bI kp), .int (nI kd), .int (nI kq), .int (nI kt), .int (nI ks), .ref zg, .int (nI al)])), (zk, .inl (G.2.1, 24, .inl (nF k))), (zn, .inl (G.2.1, 6, .inl (nF ne))), (zs, .inl (G.2.1, 6, .inl (nF sp))), (zw, .inl (G.2.1, 4096, .inl (nF kw)))]) [0, 1, 2, 3, 4] (by decide) rfl) hS (lv_sub (l' := [(0, .ref z), (1, .int (nI d)), (2, .int (bI false)), (3, .int (nI (i + 1)))]) hl [2, 3, 1, 0] rfl)
      · have c_23 := mt (nI_eq (by omega) (by omega)).mpr c_23
        refine lv_iconst (v := nI 1) hx hb dX5_taste_26 (by decide +kernel) ?_
        refine cs_i (y := bI true) (rfl) ?_
        refine lv_goto (tgt := 31) hx hb dX5_taste_27 (by decide) ?_
        refine lv_istore_n (lv' := [(2, .int (bI true)), (0, .ref z), (1, .int (nI d)), (3, .int (nI i))]) hx hb dX5_taste_31 rfl hl (by decide) rfl (fun ls hl => ?_)
        refine lv_iinc (v := nI (i + 1)) (lv' := [(3, .int (nI (i + 1))), (2, .int (bI true)), (0, .ref z), (1, .int (nI d))]) hx hb dX5_taste_32 hl (k := 3) rfl ((nI_succ i).symm) (by decide) rfl (fun ls hl => ?_)
        refine lv_goto (tgt := 4) hx hb dX5_taste_35 (by decide) ?_
        exact ih ((i + 1, true)) (by show K.length - (i + 1) < K.length - i; omega) (⟨by show i + 1 ≤ K.length; omega, by first | (intro q9; cases q9; done) | exact (fun _ j hj => by rcases Nat.lt_or_ge j i with z9 | z9; exact hnt c_13 j z9; (have e9 : j = i := (by omega); subst e9; exact c_23)), by first | (intro q9; cases q9; done) | exact (fun _ => KR_in hKR (by omega) c_23)⟩) _ _ _ (hP.sub (ws' := [(z, .inr (5, [.int (nI th), .int (nI n), .ref zk, .int (nI rc), .ref zn, .ref zs, .int (nI K.length), .ref zw, .int (nI st), .ref zf, .int (bI kp), .int (nI kd), .int (nI kq), .int (nI kt), .int (nI ks), .ref zg, .int (nI al)])), (zk, .inl (G.2.1, 24, .inl (nF k))), (zn, .inl (G.2.1, 6, .inl (nF ne))), (zs, .inl (G.2.1, 6, .inl (nF sp))), (zw, .inl (G.2.1, 4096, .inl (nF kw)))]) [0, 1, 2, 3, 4] rfl) (hD.sub (ws' := [(z, .inr (5, [.int (nI th), .int (nI n), .ref zk, .int (nI rc), .ref zn, .ref zs, .int (nI K.length), .ref zw, .int (nI st), .ref zf, .int (bI kp), .int (nI kd), .int (nI kq), .int (nI kt), .int (nI ks), .ref zg, .int (nI al)])), (zk, .inl (G.2.1, 24, .inl (nF k))), (zn, .inl (G.2.1, 6, .inl (nF ne))), (zs, .inl (G.2.1, 6, .inl (nF sp))), (zw, .inl (G.2.1, 4096, .inl (nF kw)))]) [0, 1, 2, 3, 4] (by decide) rfl) hS (lv_sub (l' := [(0, .ref z), (1, .int (nI d)), (2, .int (bI true)), (3, .int (nI (i + 1)))]) hl [2, 3, 1, 0] rfl)

set_option maxRecDepth 100000 in
theorem in5_X5_note : ∀ w ∈ wsX50, w ∈ wsX5_note := by decide +kernel
set_option maxHeartbeats 4000000 in
set_option maxRecDepth 100000 in
theorem c_X5_note (l : Launch) (G : cG) (z zk zn zs zw zf zg th n rc ta st : Nat) (kp : Bool) (kd kq kt ks al : Nat) (fx : Nat → Int32) (sz pr wy : Nat) (xp : Int32) (be : Nat) (F : List Int32) (hs512 : st < 512) (hF : F.length = 5 * st) (hfx : FR fx F) : cMV l G yX5_note wsX5_note ({ frames := 0, cells := 0, slots := 0, locals := 0 }) [.ref z, .int (nI sz), .int (nI pr), .int (nI wy), .int xp, .int (nI be)] [(z, .inr (5, [.int (nI th), .int (nI n), .ref zk, .int (nI rc), .ref zn, .ref zs, .int (nI ta), .ref zw, .int (nI st), .ref zf, .int (bI kp), .int (nI kd), .int (nI kq), .int (nI kt), .int (nI ks), .ref zg, .int (nI al)])), (zf, .inl (G.2.1, 2560, .inl fx))] (fun (fx9 : Nat → Int32) => FR fx9 (F ++ [nI sz, nI pr, nI wy, xp, nI be])) (fun (fx9 : Nat → Int32) => [(z, .inr (5, [.int (nI th), .int (nI n), .ref zk, .int (nI rc), .ref zn, .ref zs, .int (nI ta), .ref zw, .int (nI (st + 1)), .ref zf, .int (bI kp), .int (nI kd), .int (nI kq), .int (nI kt), .int (nI ks), .ref zg, .int (nI al)])), (zf, .inl (G.2.1, 2560, .inl fx9))]) := by
  refine cs_sV (own := RX5) (cc := cX5_note) (maxL := 7) (ret := none) (by decide) rfl rfl (Nat.le_of_ble_eq_true rfl) ?_
  intro p e s m below meth c A hx hb hr hml hts hown hlocks hinit hA hK hP hD hS ls hl
  have hin5 := in5_X5_note
  have hl : lv_has ls 7 [(0, .ref z), (1, .int (nI sz)), (2, .int (nI pr)), (3, .int (nI wy)), (4, .int xp), (5, .int (nI be))] := hl
  refine lv_iconst (v := nI 5) hx hb dX5_note_0 (by decide +kernel) ?_
  refine lv_aload_n hx hb dX5_note_1 rfl (lv_at hl 0 rfl) ?_
  refine va_get (D := G.1) (ci := 5) (v := .int (nI st)) (C := RX5) (T := TX5) (N := 17) hx hb hts hin5 hown hK hP 0 rfl rfl 8 (by decide) (hts (.fieldLink RX5 57 "FaultShrinkerModel" "steps" "I") (List.mem_of_getElem? (i := 1) rfl)) (fun _ h9 => h9) rfl dX5_note_2 ?_
  refine lv_imul hx hb dX5_note_5 ?_
  refine cs_i (y := nI (5 * st)) (pk_mul _ _) ?_
  refine lv_istore (lv' := [(6, .int (nI (5 * st))), (0, .ref z), (1, .int (nI sz)), (2, .int (nI pr)), (3, .int (nI wy)), (4, .int xp), (5, .int (nI be))]) hx hb dX5_note_6 hl (by decide) rfl (fun ls hl => ?_)
  refine lv_aload_n hx hb dX5_note_8 rfl (lv_at hl 1 rfl) ?_
  refine va_get (D := G.1) (ci := 5) (v := .ref zf) (C := RX5) (T := TX5) (N := 17) hx hb hts hin5 hown hK hP 0 rfl rfl 9 (by decide) (hts (.fieldLink RX5 22 "FaultShrinkerModel" "step" "[I") (List.mem_of_getElem? (i := 2) rfl)) (fun _ h9 => h9) rfl dX5_note_9 ?_
  refine lv_iload hx hb dX5_note_12 (lv_at hl 0 rfl) ?_
  refine lv_iload_n hx hb dX5_note_14 rfl (lv_at hl 2 rfl) ?_
  refine va_iast hx hb hK hP hD hS 1 0 rfl rfl (vp_in_nI (by omega) (by omega)) dX5_note_15 (fun H locs hP hD hS => ?_)
  rw [aF_upd _ (by omega)] at hP hD
  have hP : va_P G.1 vwCl [(z, .inr (5, [.int (nI th), .int (nI n), .ref zk, .int (nI rc), .ref zn, .ref zs, .int (nI ta), .ref zw, .int (nI st), .ref zf, .int (bI kp), .int (nI kd), .int (nI kq), .int (nI kt), .int (nI ks), .ref zg, .int (nI al)])), (zf, .inl (G.2.1, 2560, .inl (va_up fx (5 * st) (nI sz))))] H := hP
  have hD : va_D A [(z, .inr (5, [.int (nI th), .int (nI n), .ref zk, .int (nI rc), .ref zn, .ref zs, .int (nI ta), .ref zw, .int (nI st), .ref zf, .int (bI kp), .int (nI kd), .int (nI kq), .int (nI kt), .int (nI ks), .ref zg, .int (nI al)])), (zf, .inl (G.2.1, 2560, .inl (va_up fx (5 * st) (nI sz))))] := hD
  refine lv_aload_n hx hb dX5_note_16 rfl (lv_at hl 1 rfl) ?_
  refine va_get (D := G.1) (ci := 5) (v := .ref zf) (C := RX5) (T := TX5) (N := 17) hx hb hts hin5 hown hK hP 0 rfl rfl 9 (by decide) (hts (.fieldLink RX5 22 "FaultShrinkerModel" "step" "[I") (List.mem_of_getElem? (i := 2) rfl)) (fun _ h9 => h9) rfl dX5_note_17 ?_
  refine lv_iload hx hb dX5_note_20 (lv_at hl 0 rfl) ?_
  refine lv_iconst (v := nI 1) hx hb dX5_note_22 (by decide +kernel) ?_
  refine lv_iadd hx hb dX5_note_23 ?_
  refine cs_i (y := nI ((5 * st) + 1)) (nI_add _ _) ?_
  refine lv_iload_n hx hb dX5_note_24 rfl (lv_at hl 3 rfl) ?_
  refine va_iast hx hb hK hP hD hS 1 0 rfl rfl (vp_in_nI (by omega) (by omega)) dX5_note_25 (fun H locs hP hD hS => ?_)
  rw [aF_upd _ (by omega)] at hP hD
  have hP : va_P G.1 vwCl [(z, .inr (5, [.int (nI th), .int (nI n), .ref zk, .int (nI rc), .ref zn, .ref zs, .int (nI ta), .ref zw, .int (nI st), .ref zf, .int (bI kp), .int (nI kd), .int (nI kq), .int (nI kt), .int (nI ks), .ref zg, .int (nI al)])), (zf, .inl (G.2.1, 2560, .inl (va_up (va_up fx (5 * st) (nI sz)) ((5 * st) + 1) (nI pr))))] H := hP
  have hD : va_D A [(z, .inr (5, [.int (nI th), .int (nI n), .ref zk, .int (nI rc), .ref zn, .ref zs, .int (nI ta), .ref zw, .int (nI st), .ref zf, .int (bI kp), .int (nI kd), .int (nI kq), .int (nI kt), .int (nI ks), .ref zg, .int (nI al)])), (zf, .inl (G.2.1, 2560, .inl (va_up (va_up fx (5 * st) (nI sz)) ((5 * st) + 1) (nI pr))))] := hD
  refine lv_aload_n hx hb dX5_note_26 rfl (lv_at hl 1 rfl) ?_
  refine va_get (D := G.1) (ci := 5) (v := .ref zf) (C := RX5) (T := TX5) (N := 17) hx hb hts hin5 hown hK hP 0 rfl rfl 9 (by decide) (hts (.fieldLink RX5 22 "FaultShrinkerModel" "step" "[I") (List.mem_of_getElem? (i := 2) rfl)) (fun _ h9 => h9) rfl dX5_note_27 ?_
  refine lv_iload hx hb dX5_note_30 (lv_at hl 0 rfl) ?_
  refine lv_iconst (v := nI 2) hx hb dX5_note_32 (by decide +kernel) ?_
  refine lv_iadd hx hb dX5_note_33 ?_
  refine cs_i (y := nI ((5 * st) + 2)) (nI_add _ _) ?_
  refine lv_iload_n hx hb dX5_note_34 rfl (lv_at hl 4 rfl) ?_
  refine va_iast hx hb hK hP hD hS 1 0 rfl rfl (vp_in_nI (by omega) (by omega)) dX5_note_35 (fun H locs hP hD hS => ?_)
  rw [aF_upd _ (by omega)] at hP hD
  have hP : va_P G.1 vwCl [(z, .inr (5, [.int (nI th), .int (nI n), .ref zk, .int (nI rc), .ref zn, .ref zs, .int (nI ta), .ref zw, .int (nI st), .ref zf, .int (bI kp), .int (nI kd), .int (nI kq), .int (nI kt), .int (nI ks), .ref zg, .int (nI al)])), (zf, .inl (G.2.1, 2560, .inl (va_up (va_up (va_up fx (5 * st) (nI sz)) ((5 * st) + 1) (nI pr)) ((5 * st) + 2) (nI wy))))] H := hP
  have hD : va_D A [(z, .inr (5, [.int (nI th), .int (nI n), .ref zk, .int (nI rc), .ref zn, .ref zs, .int (nI ta), .ref zw, .int (nI st), .ref zf, .int (bI kp), .int (nI kd), .int (nI kq), .int (nI kt), .int (nI ks), .ref zg, .int (nI al)])), (zf, .inl (G.2.1, 2560, .inl (va_up (va_up (va_up fx (5 * st) (nI sz)) ((5 * st) + 1) (nI pr)) ((5 * st) + 2) (nI wy))))] := hD
  refine lv_aload_n hx hb dX5_note_36 rfl (lv_at hl 1 rfl) ?_
  refine va_get (D := G.1) (ci := 5) (v := .ref zf) (C := RX5) (T := TX5) (N := 17) hx hb hts hin5 hown hK hP 0 rfl rfl 9 (by decide) (hts (.fieldLink RX5 22 "FaultShrinkerModel" "step" "[I") (List.mem_of_getElem? (i := 2) rfl)) (fun _ h9 => h9) rfl dX5_note_37 ?_
  refine lv_iload hx hb dX5_note_40 (lv_at hl 0 rfl) ?_
  refine lv_iconst (v := nI 3) hx hb dX5_note_42 (by decide +kernel) ?_
  refine lv_iadd hx hb dX5_note_43 ?_
  refine cs_i (y := nI ((5 * st) + 3)) (nI_add _ _) ?_
  refine lv_iload hx hb dX5_note_44 (lv_at hl 5 rfl) ?_
  refine va_iast hx hb hK hP hD hS 1 0 rfl rfl (vp_in_nI (by omega) (by omega)) dX5_note_46 (fun H locs hP hD hS => ?_)
  rw [aF_upd _ (by omega)] at hP hD
  have hP : va_P G.1 vwCl [(z, .inr (5, [.int (nI th), .int (nI n), .ref zk, .int (nI rc), .ref zn, .ref zs, .int (nI ta), .ref zw, .int (nI st), .ref zf, .int (bI kp), .int (nI kd), .int (nI kq), .int (nI kt), .int (nI ks), .ref zg, .int (nI al)])), (zf, .inl (G.2.1, 2560, .inl (va_up (va_up (va_up (va_up fx (5 * st) (nI sz)) ((5 * st) + 1) (nI pr)) ((5 * st) + 2) (nI wy)) ((5 * st) + 3) xp)))] H := hP
  have hD : va_D A [(z, .inr (5, [.int (nI th), .int (nI n), .ref zk, .int (nI rc), .ref zn, .ref zs, .int (nI ta), .ref zw, .int (nI st), .ref zf, .int (bI kp), .int (nI kd), .int (nI kq), .int (nI kt), .int (nI ks), .ref zg, .int (nI al)])), (zf, .inl (G.2.1, 2560, .inl (va_up (va_up (va_up (va_up fx (5 * st) (nI sz)) ((5 * st) + 1) (nI pr)) ((5 * st) + 2) (nI wy)) ((5 * st) + 3) xp)))] := hD
  refine lv_aload_n hx hb dX5_note_47 rfl (lv_at hl 1 rfl) ?_
  refine va_get (D := G.1) (ci := 5) (v := .ref zf) (C := RX5) (T := TX5) (N := 17) hx hb hts hin5 hown hK hP 0 rfl rfl 9 (by decide) (hts (.fieldLink RX5 22 "FaultShrinkerModel" "step" "[I") (List.mem_of_getElem? (i := 2) rfl)) (fun _ h9 => h9) rfl dX5_note_48 ?_
  refine lv_iload hx hb dX5_note_51 (lv_at hl 0 rfl) ?_
  refine lv_iconst (v := nI 4) hx hb dX5_note_53 (by decide +kernel) ?_
  refine lv_iadd hx hb dX5_note_54 ?_
  refine cs_i (y := nI ((5 * st) + 4)) (nI_add _ _) ?_
  refine lv_iload hx hb dX5_note_55 (lv_at hl 6 rfl) ?_
  refine va_iast hx hb hK hP hD hS 1 0 rfl rfl (vp_in_nI (by omega) (by omega)) dX5_note_57 (fun H locs hP hD hS => ?_)
  rw [aF_upd _ (by omega)] at hP hD
  have hP : va_P G.1 vwCl [(z, .inr (5, [.int (nI th), .int (nI n), .ref zk, .int (nI rc), .ref zn, .ref zs, .int (nI ta), .ref zw, .int (nI st), .ref zf, .int (bI kp), .int (nI kd), .int (nI kq), .int (nI kt), .int (nI ks), .ref zg, .int (nI al)])), (zf, .inl (G.2.1, 2560, .inl (va_up (va_up (va_up (va_up (va_up fx (5 * st) (nI sz)) ((5 * st) + 1) (nI pr)) ((5 * st) + 2) (nI wy)) ((5 * st) + 3) xp) ((5 * st) + 4) (nI be))))] H := hP
  have hD : va_D A [(z, .inr (5, [.int (nI th), .int (nI n), .ref zk, .int (nI rc), .ref zn, .ref zs, .int (nI ta), .ref zw, .int (nI st), .ref zf, .int (bI kp), .int (nI kd), .int (nI kq), .int (nI kt), .int (nI ks), .ref zg, .int (nI al)])), (zf, .inl (G.2.1, 2560, .inl (va_up (va_up (va_up (va_up (va_up fx (5 * st) (nI sz)) ((5 * st) + 1) (nI pr)) ((5 * st) + 2) (nI wy)) ((5 * st) + 3) xp) ((5 * st) + 4) (nI be))))] := hD
  refine lv_aload_n hx hb dX5_note_58 rfl (lv_at hl 1 rfl) ?_
  refine lv_dup hx hb dX5_note_59 rfl ?_
  refine va_get (D := G.1) (ci := 5) (v := .int (nI st)) (C := RX5) (T := TX5) (N := 17) hx hb hts hin5 hown hK hP 0 rfl rfl 8 (by decide) (hts (.fieldLink RX5 57 "FaultShrinkerModel" "steps" "I") (List.mem_of_getElem? (i := 1) rfl)) (fun _ h9 => h9) rfl dX5_note_60 ?_
  refine lv_iconst (v := nI 1) hx hb dX5_note_63 (by decide +kernel) ?_
  refine lv_iadd hx hb dX5_note_64 ?_
  refine cs_i (y := nI (st + 1)) (nI_add _ _) ?_
  refine va_put (D := G.1) (ci := 5) (v := .int (nI (st + 1))) (ty := .int) (C := RX5) (T := TX5) (N := 17) hx hb hts hin5 tyX5 tyX5_ok nmX5 hown hK hP hD hS 0 rfl rfl 8 (by decide) (hts (.fieldLink RX5 57 "FaultShrinkerModel" "steps" "I") (List.mem_of_getElem? (i := 1) rfl)) (fun _ h9 => h9) rfl (by decide +kernel) rfl rfl (Nat.le_of_ble_eq_true rfl) dX5_note_65 (fun H locs hP hD hS => ?_)
  have hP : va_P G.1 vwCl [(z, .inr (5, [.int (nI th), .int (nI n), .ref zk, .int (nI rc), .ref zn, .ref zs, .int (nI ta), .ref zw, .int (nI (st + 1)), .ref zf, .int (bI kp), .int (nI kd), .int (nI kq), .int (nI kt), .int (nI ks), .ref zg, .int (nI al)])), (zf, .inl (G.2.1, 2560, .inl (va_up (va_up (va_up (va_up (va_up fx (5 * st) (nI sz)) ((5 * st) + 1) (nI pr)) ((5 * st) + 2) (nI wy)) ((5 * st) + 3) xp) ((5 * st) + 4) (nI be))))] H := hP
  have hD : va_D A [(z, .inr (5, [.int (nI th), .int (nI n), .ref zk, .int (nI rc), .ref zn, .ref zs, .int (nI ta), .ref zw, .int (nI (st + 1)), .ref zf, .int (bI kp), .int (nI kd), .int (nI kq), .int (nI kt), .int (nI ks), .ref zg, .int (nI al)])), (zf, .inl (G.2.1, 2560, .inl (va_up (va_up (va_up (va_up (va_up fx (5 * st) (nI sz)) ((5 * st) + 1) (nI pr)) ((5 * st) + 2) (nI wy)) ((5 * st) + 3) xp) ((5 * st) + 4) (nI be))))] := hD
  exact cs_vret hx hb hr hlocks hK hP hD hS (va_up (va_up (va_up (va_up (va_up fx (5 * st) (nI sz)) ((5 * st) + 1) (nI pr)) ((5 * st) + 2) (nI wy)) ((5 * st) + 3) xp) ((5 * st) + 4) (nI be)) (FR_5' hfx hF _ _ _ _ _) rfl dX5_note_68

set_option maxHeartbeats 4000000 in
set_option maxRecDepth 100000 in
theorem c_X5_part (l : Launch) (G : cG) (d fr to9 : Nat) (hd : d < 2 ^ 24) (hfr : fr < 2 ^ 31) (hto : to9 < 2 ^ 31) : cMI l G yX5_part wsX5_part ({ frames := 0, cells := 0, slots := 0, locals := 0 }) [.int (nI d), .int (nI fr), .int (nI to9)] [] (fun (r_ : Int32) (_ : Unit) => r_ = nI (prt d fr to9 24)) (fun (_ : Unit) => []) := by
  refine cs_sI (own := RX5) (cc := cX5_part) (maxL := 6) (ret := (some .int)) (by decide) rfl rfl (Nat.le_of_ble_eq_true rfl) ?_
  intro p e s m below meth c A hx hb hr hml hts hown hlocks hinit hA hK hP hD hS ls hl
  have hl : lv_has ls 6 [(0, .int (nI d)), (1, .int (nI fr)), (2, .int (nI to9))] := hl
  refine lv_iconst (v := nI 0) hx hb dX5_part_0 (by decide +kernel) ?_
  refine lv_istore_n (lv' := [(3, .int (nI 0)), (0, .int (nI d)), (1, .int (nI fr)), (2, .int (nI to9))]) hx hb dX5_part_1 rfl hl (by decide) rfl (fun ls hl => ?_)
  refine lv_iconst (v := nI 0) hx hb dX5_part_2 (by decide +kernel) ?_
  refine lv_istore (lv' := [(4, .int (nI 0)), (3, .int (nI 0)), (0, .int (nI d)), (1, .int (nI fr)), (2, .int (nI to9))]) hx hb dX5_part_3 hl (by decide) rfl (fun ls hl => ?_)
  refine lv_iconst (v := nI 0) hx hb dX5_part_5 (by decide +kernel) ?_
  refine lv_istore (lv' := [(5, .int (nI 0)), (4, .int (nI 0)), (3, .int (nI 0)), (0, .int (nI d)), (1, .int (nI fr)), (2, .int (nI to9))]) hx hb dX5_part_6 hl (by decide) rfl (fun ls hl => ?_)
  refine cs_loop (G := G) (nL := 6) (σ := Nat) (fun (i : Nat) => 24 - i) (fun (i : Nat) => i ≤ 24) (fun (i : Nat) => []) (fun (i : Nat) => [(0, .int (nI d)), (1, .int (nI fr)), (2, .int (nI to9)), (3, .int (nI (prt d fr to9 i))), (4, .int (nI (cnt d i))), (5, .int (nI i))]) ?_ (0) (by show 0 ≤ 24; omega) (hP.sub (ws' := []) [] rfl) (hD.sub (ws' := []) [] (by decide) rfl) hS (lv_sub (l' := [(0, .int (nI d)), (1, .int (nI fr)), (2, .int (nI to9)), (3, .int (nI (prt d fr to9 0))), (4, .int (nI (cnt d 0))), (5, .int (nI 0))]) hl [3, 4, 5, 2, 1, 0] rfl)
  rintro i hinv ih H locs ls hP hD hS hl
  have hP : va_P G.1 vwCl [] H := hP
  have hD : va_D A [] := hD
  have hl : lv_has ls 6 [(0, .int (nI d)), (1, .int (nI fr)), (2, .int (nI to9)), (3, .int (nI (prt d fr to9 i))), (4, .int (nI (cnt d i))), (5, .int (nI i))] := hl
  have hinv : i ≤ 24 := hinv
  have hci := cnt_le d i
  refine lv_iload hx hb dX5_part_8 (lv_at hl 5 rfl) ?_
  refine lv_bipush (v := nI 24) hx hb dX5_part_10 (by decide +kernel) ?_
  refine lv_icmp_ge (tgt := 55) hx hb dX5_part_12 (by decide) (fun c_12 => ?_) (fun c_12 => ?_)
  · have c_12 := (nI_leI (by omega) (by omega)).mp c_12
    have e7 : i = 24 := by omega
    refine lv_iload_n hx hb dX5_part_55 rfl (lv_at hl 3 rfl) ?_
    exact cs_iret hx hb hr hlocks hK hP hD hS (v := nI (prt d fr to9 i)) () (by rw [e7]) rfl dX5_part_56
  · have c_12 := mt (nI_leI (by omega) (by omega)).mpr c_12
    refine lv_iload_n hx hb dX5_part_15 rfl (lv_at hl 0 rfl) ?_
    refine lv_iload hx hb dX5_part_16 (lv_at hl 5 rfl) ?_
    refine lv_ishr hx hb dX5_part_18 ?_
    refine cs_i (y := nI (d >>> i)) (nI_shr (by omega) (by omega)) ?_
    refine lv_iconst (v := nI 1) hx hb dX5_part_19 (by decide +kernel) ?_
    refine lv_iand hx hb dX5_part_20 ?_
    refine cs_i (y := bI (d.testBit i)) (by rw [fa_and]; exact bitI d i) ?_
    refine lv_if_ne (tgt := 27) hx hb dX5_part_21 (by decide) (fun c_21 => ?_) (fun c_21 => ?_)
    · have c_21 := bI_n0 c_21
      refine lv_iload hx hb dX5_part_27 (lv_at hl 4 rfl) ?_
      refine lv_iload_n hx hb dX5_part_29 rfl (lv_at hl 1 rfl) ?_
      refine lv_icmp_lt (tgt := 46) hx hb dX5_part_30 (by decide) (fun c_30 => ?_) (fun c_30 => ?_)
      · have c_30 := (nI_ltI (by omega) (by omega)).mp c_30
        refine lv_iinc (v := nI (cnt d i + 1)) (lv' := [(4, .int (nI (cnt d i + 1))), (0, .int (nI d)), (1, .int (nI fr)), (2, .int (nI to9)), (3, .int (nI (prt d fr to9 i))), (5, .int (nI i))]) hx hb dX5_part_46 hl (k := 4) rfl ((nI_succ (cnt d i)).symm) (by decide) rfl (fun ls hl => ?_)
        have e8 : nI (cnt d i + 1) = nI (cnt d (i + 1)) := by first | rw [cnt_t c_21] | rw [cnt_f c_21]
        rw [e8] at hl
        have e8 : nI (prt d fr to9 i) = nI (prt d fr to9 (i + 1)) := by first | rw [prt_f (Or.inl c_21)] | rw [prt_y c_21 (by omega) (by omega)] | rw [prt_f (Or.inr (by omega))] | rw [prt_a (by omega)]
        rw [e8] at hl
        refine lv_iinc (v := nI (i + 1)) (lv' := [(5, .int (nI (i + 1))), (4, .int (nI (cnt d (i + 1)))), (0, .int (nI d)), (1, .int (nI fr)), (2, .int (nI to9)), (3, .int (nI (prt d fr to9 (i + 1))))]) hx hb dX5_part_49 hl (k := 5) rfl ((nI_succ i).symm) (by decide) rfl (fun ls hl => ?_)
        refine lv_goto (tgt := 8) hx hb dX5_part_52 (by decide) ?_
        exact ih (i + 1) (by show 24 - (i + 1) < 24 - i; omega) (by show (i + 1) ≤ 24; omega) _ _ _ (hP.sub (ws' := []) [] rfl) (hD.sub (ws' := []) [] (by decide) rfl) hS (lv_sub (l' := [(0, .int (nI d)), (1, .int (nI fr)), (2, .int (nI to9)), (3, .int (nI (prt d fr to9 (i + 1)))), (4, .int (nI (cnt d (i + 1)))), (5, .int (nI (i + 1)))]) hl [2, 3, 4, 5, 1, 0] rfl)
      · have c_30 := mt (nI_ltI (by omega) (by omega)).mpr c_30
        refine lv_iload hx hb dX5_part_33 (lv_at hl 4 rfl) ?_
        refine lv_iload_n hx hb dX5_part_35 rfl (lv_at hl 2 rfl) ?_
        refine lv_icmp_ge (tgt := 46) hx hb dX5_part_36 (by decide) (fun c_36 => ?_) (fun c_36 => ?_)
        · have c_36 := (nI_leI (by omega) (by omega)).mp c_36
          refine lv_iinc (v := nI (cnt d i + 1)) (lv' := [(4, .int (nI (cnt d i + 1))), (0, .int (nI d)), (1, .int (nI fr)), (2, .int (nI to9)), (3, .int (nI (prt d fr to9 i))), (5, .int (nI i))]) hx hb dX5_part_46 hl (k := 4) rfl ((nI_succ (cnt d i)).symm) (by decide) rfl (fun ls hl => ?_)
          have e8 : nI (cnt d i + 1) = nI (cnt d (i + 1)) := by first | rw [cnt_t c_21] | rw [cnt_f c_21]
          rw [e8] at hl
          have e8 : nI (prt d fr to9 i) = nI (prt d fr to9 (i + 1)) := by first | rw [prt_f (Or.inl c_21)] | rw [prt_y c_21 (by omega) (by omega)] | rw [prt_f (Or.inr (by omega))] | rw [prt_a (by omega)]
          rw [e8] at hl
          refine lv_iinc (v := nI (i + 1)) (lv' := [(5, .int (nI (i + 1))), (4, .int (nI (cnt d (i + 1)))), (0, .int (nI d)), (1, .int (nI fr)), (2, .int (nI to9)), (3, .int (nI (prt d fr to9 (i + 1))))]) hx hb dX5_part_49 hl (k := 5) rfl ((nI_succ i).symm) (by decide) rfl (fun ls hl => ?_)
          refine lv_goto (tgt := 8) hx hb dX5_part_52 (by decide) ?_
          exact ih (i + 1) (by show 24 - (i + 1) < 24 - i; omega) (by show (i + 1) ≤ 24; omega) _ _ _ (hP.sub (ws' := []) [] rfl) (hD.sub (ws' := []) [] (by decide) rfl) hS (lv_sub (l' := [(0, .int (nI d)), (1, .int (nI fr)), (2, .int (nI to9)), (3, .int (nI (prt d fr to9 (i + 1)))), (4, .int (nI (cnt d (i + 1)))), (5, .int (nI (i + 1)))]) hl [2, 3, 4, 5, 1, 0] rfl)
        · have c_36 := mt (nI_leI (by omega) (by omega)).mpr c_36
          refine lv_iload_n hx hb dX5_part_39 rfl (lv_at hl 3 rfl) ?_
          refine lv_iconst (v := nI 1) hx hb dX5_part_40 (by decide +kernel) ?_
          refine lv_iload hx hb dX5_part_41 (lv_at hl 5 rfl) ?_
          refine lv_ishl hx hb dX5_part_43 ?_
          refine cs_i (y := nI (2 ^ i)) (nI_one_shl (by omega)) ?_
          refine lv_ior hx hb dX5_part_44 ?_
          refine cs_i (y := nI ((prt d fr to9 i) ||| (2 ^ i))) (fa_or _ _) ?_
          refine lv_istore_n (lv' := [(3, .int (nI ((prt d fr to9 i) ||| (2 ^ i)))), (0, .int (nI d)), (1, .int (nI fr)), (2, .int (nI to9)), (4, .int (nI (cnt d i))), (5, .int (nI i))]) hx hb dX5_part_45 rfl hl (by decide) rfl (fun ls hl => ?_)
          refine lv_iinc (v := nI (cnt d i + 1)) (lv' := [(4, .int (nI (cnt d i + 1))), (3, .int (nI ((prt d fr to9 i) ||| (2 ^ i)))), (0, .int (nI d)), (1, .int (nI fr)), (2, .int (nI to9)), (5, .int (nI i))]) hx hb dX5_part_46 hl (k := 4) rfl ((nI_succ (cnt d i)).symm) (by decide) rfl (fun ls hl => ?_)
          have e8 : nI (cnt d i + 1) = nI (cnt d (i + 1)) := by first | rw [cnt_t c_21] | rw [cnt_f c_21]
          rw [e8] at hl
          have e8 : nI ((prt d fr to9 i) ||| (2 ^ i)) = nI (prt d fr to9 (i + 1)) := by first | rw [prt_f (Or.inl c_21)] | rw [prt_y c_21 (by omega) (by omega)] | rw [prt_f (Or.inr (by omega))] | rw [prt_a (by omega)]
          rw [e8] at hl
          refine lv_iinc (v := nI (i + 1)) (lv' := [(5, .int (nI (i + 1))), (4, .int (nI (cnt d (i + 1)))), (3, .int (nI (prt d fr to9 (i + 1)))), (0, .int (nI d)), (1, .int (nI fr)), (2, .int (nI to9))]) hx hb dX5_part_49 hl (k := 5) rfl ((nI_succ i).symm) (by decide) rfl (fun ls hl => ?_)
          refine lv_goto (tgt := 8) hx hb dX5_part_52 (by decide) ?_
          exact ih (i + 1) (by show 24 - (i + 1) < 24 - i; omega) (by show (i + 1) ≤ 24; omega) _ _ _ (hP.sub (ws' := []) [] rfl) (hD.sub (ws' := []) [] (by decide) rfl) hS (lv_sub (l' := [(0, .int (nI d)), (1, .int (nI fr)), (2, .int (nI to9)), (3, .int (nI (prt d fr to9 (i + 1)))), (4, .int (nI (cnt d (i + 1)))), (5, .int (nI (i + 1)))]) hl [3, 4, 5, 2, 1, 0] rfl)
    · have c_21 := bI_0 c_21
      refine lv_goto (tgt := 49) hx hb dX5_part_24 (by decide) ?_
      have e8 : nI (cnt d i) = nI (cnt d (i + 1)) := by first | rw [cnt_t c_21] | rw [cnt_f c_21]
      rw [e8] at hl
      have e8 : nI (prt d fr to9 i) = nI (prt d fr to9 (i + 1)) := by first | rw [prt_f (Or.inl c_21)] | rw [prt_y c_21 (by omega) (by omega)] | rw [prt_f (Or.inr (by omega))] | rw [prt_a (by omega)]
      rw [e8] at hl
      refine lv_iinc (v := nI (i + 1)) (lv' := [(5, .int (nI (i + 1))), (0, .int (nI d)), (1, .int (nI fr)), (2, .int (nI to9)), (3, .int (nI (prt d fr to9 (i + 1)))), (4, .int (nI (cnt d (i + 1))))]) hx hb dX5_part_49 hl (k := 5) rfl ((nI_succ i).symm) (by decide) rfl (fun ls hl => ?_)
      refine lv_goto (tgt := 8) hx hb dX5_part_52 (by decide) ?_
      exact ih (i + 1) (by show 24 - (i + 1) < 24 - i; omega) (by show (i + 1) ≤ 24; omega) _ _ _ (hP.sub (ws' := []) [] rfl) (hD.sub (ws' := []) [] (by decide) rfl) hS (lv_sub (l' := [(0, .int (nI d)), (1, .int (nI fr)), (2, .int (nI to9)), (3, .int (nI (prt d fr to9 (i + 1)))), (4, .int (nI (cnt d (i + 1)))), (5, .int (nI (i + 1)))]) hl [1, 2, 3, 4, 5, 0] rfl)

set_option maxHeartbeats 4000000 in
set_option maxRecDepth 100000 in
theorem c_X5_partOf (l : Launch) (G : cG) (d kp pp : Nat) (hd : d < 2 ^ 24) (hpp : 2 ≤ pp) (hpm : pp ≤ cnt d 24) (hkp : kp < pp) : cMI l G yX5_partOf wsX5_partOf ({ frames := 1, cells := 0, slots := 0, locals := 25 }) [.int (nI d), .int (nI kp), .int (nI pp)] [] (fun (r_ : Int32) (_ : Unit) => r_ = nI (pto d pp kp)) (fun (_ : Unit) => []) := by
  refine cs_sI (own := RX5) (cc := cX5_partOf) (maxL := 4) (ret := (some .int)) (by decide) rfl rfl (Nat.le_of_ble_eq_true rfl) ?_
  intro p e s m below meth c A hx hb hr hml hts hown hlocks hinit hA hK hP hD hS ls hl
  have hl : lv_has ls 4 [(0, .int (nI d)), (1, .int (nI kp)), (2, .int (nI pp))] := hl
  have hc24 := cnt_le d 24
  have hq := pto_num (m := cnt d 24) (n := pp) (k := kp) (by omega) hkp hpp hpm
  have hm1 : kp * cnt d 24 ≤ 24 * 24 := Nat.mul_le_mul (by omega) (by omega)
  have hm2 : (kp + 1) * cnt d 24 ≤ 24 * 24 := Nat.mul_le_mul (by omega) (by omega)
  refine lv_iload_n hx hb dX5_partOf_0 rfl (lv_at hl 0 rfl) ?_
  refine cs_si (As := [.int (nI d)]) (rest := []) (wr := []) ⟨hx, hb, hml, hown, hts⟩ hK hP hD hS hA (c_J6_bitCount_0f7a4 l G d (by first | assumption | omega)) (va_cwS 1 hts gX5_partOf_J6_bitCount_0f7a4 rfl rfl rfl (by decide +kernel) ⟨Nat.le_of_ble_eq_true rfl, Nat.le_of_ble_eq_true rfl⟩) [] [] ⟨rfl, rfl, by decide, by decide, by decide⟩ rfl hl.1 rfl (Nat.le_of_ble_eq_true rfl) ⟨Nat.le_of_ble_eq_true rfl, Nat.le_of_ble_eq_true rfl⟩ dX5_partOf_1 (fun r u H locs hw hP hD hS => ?_)
  have hP : va_P G.1 vwCl [] H := hP.sub [] rfl
  have hD : va_D A [] := hD.sub [] (by decide) rfl
  subst hw
  refine lv_istore_n (lv' := [(3, .int (nI (cnt d 24))), (0, .int (nI d)), (1, .int (nI kp)), (2, .int (nI pp))]) hx hb dX5_partOf_4 rfl hl (by decide) rfl (fun ls hl => ?_)
  refine lv_iload_n hx hb dX5_partOf_5 rfl (lv_at hl 1 rfl) ?_
  refine lv_iload_n hx hb dX5_partOf_6 rfl (lv_at hl 2 rfl) ?_
  refine lv_iload_n hx hb dX5_partOf_7 rfl (lv_at hl 0 rfl) ?_
  refine lv_imul hx hb dX5_partOf_8 ?_
  refine cs_i (y := nI (kp * (cnt d 24))) (pk_mul _ _) ?_
  refine lv_iload_n hx hb dX5_partOf_9 rfl (lv_at hl 3 rfl) ?_
  refine lv_idiv hx hb dX5_partOf_10 (nI_ne0 (by omega) (by omega)) ?_
  refine cs_i (y := nI ((kp * (cnt d 24)) / pp)) (pk_div (by omega) (by omega) (by omega)) ?_
  refine lv_iload_n hx hb dX5_partOf_11 rfl (lv_at hl 2 rfl) ?_
  refine lv_iconst (v := nI 1) hx hb dX5_partOf_12 (by decide +kernel) ?_
  refine lv_iadd hx hb dX5_partOf_13 ?_
  refine cs_i (y := nI (kp + 1)) (nI_add _ _) ?_
  refine lv_iload_n hx hb dX5_partOf_14 rfl (lv_at hl 0 rfl) ?_
  refine lv_imul hx hb dX5_partOf_15 ?_
  refine cs_i (y := nI ((kp + 1) * (cnt d 24))) (pk_mul _ _) ?_
  refine lv_iload_n hx hb dX5_partOf_16 rfl (lv_at hl 3 rfl) ?_
  refine lv_idiv hx hb dX5_partOf_17 (nI_ne0 (by omega) (by omega)) ?_
  refine cs_i (y := nI (((kp + 1) * (cnt d 24)) / pp)) (pk_div (by omega) (by omega) (by omega)) ?_
  refine cs_si (As := [.int (nI d), .int (nI (kp * cnt d 24 / pp)), .int (nI ((kp + 1) * cnt d 24 / pp))]) (rest := []) (wr := []) ⟨hx, hb, hml, hown, hts⟩ hK hP hD hS hA (c_X5_part l G d (kp * cnt d 24 / pp) ((kp + 1) * cnt d 24 / pp) (by first | assumption | omega) (by first | assumption | omega) (by first | assumption | omega)) (va_cwS 3 hts gX5_partOf_X5_part rfl rfl rfl (by decide +kernel) ⟨Nat.le_of_ble_eq_true rfl, Nat.le_of_ble_eq_true rfl⟩) [] [] ⟨rfl, rfl, by decide, by decide, by decide⟩ rfl hl.1 rfl (Nat.le_of_ble_eq_true rfl) ⟨Nat.le_of_ble_eq_true rfl, Nat.le_of_ble_eq_true rfl⟩ dX5_partOf_18 (fun r u H locs hw hP hD hS => ?_)
  have hP : va_P G.1 vwCl [] H := hP.sub [] rfl
  have hD : va_D A [] := hD.sub [] (by decide) rfl
  subst hw
  exact cs_iret hx hb hr hlocks hK hP hD hS (v := nI (prt d (kp * cnt d 24 / pp) ((kp + 1) * cnt d 24 / pp) 24)) () (rfl) rfl dX5_partOf_21

set_option maxHeartbeats 4000000 in
set_option maxRecDepth 100000 in
theorem c_X5_firsta (l : Launch) (G : cG) (z zk zn zs zw zf zg th n rc st : Nat) (kp : Bool) (kd kq kt ks al : Nat) (hn : n ≤ 24) (hrc : rc ≤ 6) (k : Nat → Nat) (ne sp : Nat → Nat) (kw : Nat → Nat) (K : List Nat) (hk : ∀ j, j < n → k j < 16) (hne : ∀ j, j < 6 → ne j < 65536) (hsp : ∀ j, j < 6 → sp j < 65536) (d pp : Nat) (o : Option Nat) (K1 : List Nat) (hd : d < 2 ^ 24) (hpp : 2 ≤ pp) (hpm : pp ≤ cnt d 24) (hKR : KR kw K) (hKl : K.length + pp < 3900) (he : fst1 (spl k ne sp n rc) (pto d pp) pp 0 K = (o, K1)) : cMI l G yX5_first wsX5_first ({ frames := 3, cells := 0, slots := 0, locals := 69 }) [.ref z, .int (nI d), .int (nI pp), .int (nI 0)] [(z, .inr (5, [.int (nI th), .int (nI n), .ref zk, .int (nI rc), .ref zn, .ref zs, .int (nI K.length), .ref zw, .int (nI st), .ref zf, .int (bI kp), .int (nI kd), .int (nI kq), .int (nI kt), .int (nI ks), .ref zg, .int (nI al)])), (zk, .inl (G.2.1, 24, .inl (nF k))), (zn, .inl (G.2.1, 6, .inl (nF ne))), (zs, .inl (G.2.1, 6, .inl (nF sp))), (zw, .inl (G.2.1, 4096, .inl (nF kw)))] (fun (r_ : Int32) (kw9 : Nat → Nat) => r_ = oI o ∧ KR kw9 K1) (fun (kw9 : Nat → Nat) => [(z, .inr (5, [.int (nI th), .int (nI n), .ref zk, .int (nI rc), .ref zn, .ref zs, .int (nI K1.length), .ref zw, .int (nI st), .ref zf, .int (bI kp), .int (nI kd), .int (nI kq), .int (nI kt), .int (nI ks), .ref zg, .int (nI al)])), (zk, .inl (G.2.1, 24, .inl (nF k))), (zn, .inl (G.2.1, 6, .inl (nF ne))), (zs, .inl (G.2.1, 6, .inl (nF sp))), (zw, .inl (G.2.1, 4096, .inl (nF kw9)))]) := by
  refine cs_sI (own := RX5) (cc := cX5_first) (maxL := 5) (ret := (some .int)) (by decide) rfl rfl (Nat.le_of_ble_eq_true rfl) ?_
  intro p e s m below meth c A hx hb hr hml hts hown hlocks hinit hA hK hP hD hS ls hl
  have hl : lv_has ls 5 [(0, .ref z), (1, .int (nI d)), (2, .int (nI pp)), (3, .int (nI 0))] := hl
  have hc24 := cnt_le d 24
  refine lv_iconst (v := nI 0) hx hb dX5_first_0 (by decide +kernel) ?_
  refine lv_istore (lv' := [(4, .int (nI 0)), (0, .ref z), (1, .int (nI d)), (2, .int (nI pp)), (3, .int (nI 0))]) hx hb dX5_first_1 hl (by decide) rfl (fun ls hl => ?_)
  refine cs_loop (G := G) (nL := 5) (σ := Nat × List Nat × (Nat → Nat)) (fun x : Nat × List Nat × (Nat → Nat) => match x with | (i, Ki, ki) => pp - i) (fun x : Nat × List Nat × (Nat → Nat) => match x with | (i, Ki, ki) => i ≤ pp ∧ Ki.length ≤ K.length + i ∧ KR ki Ki ∧ fst1 (spl k ne sp n rc) (pto d pp) (pp - i) i Ki = (o, K1)) (fun x : Nat × List Nat × (Nat → Nat) => match x with | (i, Ki, ki) => [(z, .inr (5, [.int (nI th), .int (nI n), .ref zk, .int (nI rc), .ref zn, .ref zs, .int (nI Ki.length), .ref zw, .int (nI st), .ref zf, .int (bI kp), .int (nI kd), .int (nI kq), .int (nI kt), .int (nI ks), .ref zg, .int (nI al)])), (zk, .inl (G.2.1, 24, .inl (nF k))), (zn, .inl (G.2.1, 6, .inl (nF ne))), (zs, .inl (G.2.1, 6, .inl (nF sp))), (zw, .inl (G.2.1, 4096, .inl (nF ki)))]) (fun x : Nat × List Nat × (Nat → Nat) => match x with | (i, Ki, ki) => [(0, .ref z), (1, .int (nI d)), (2, .int (nI pp)), (3, .int (nI 0)), (4, .int (nI i))]) ?_ ((0, K, kw)) (⟨Nat.zero_le _, Nat.le_refl _, hKR, he⟩) (hP.sub (ws' := [(z, .inr (5, [.int (nI th), .int (nI n), .ref zk, .int (nI rc), .ref zn, .ref zs, .int (nI K.length), .ref zw, .int (nI st), .ref zf, .int (bI kp), .int (nI kd), .int (nI kq), .int (nI kt), .int (nI ks), .ref zg, .int (nI al)])), (zk, .inl (G.2.1, 24, .inl (nF k))), (zn, .inl (G.2.1, 6, .inl (nF ne))), (zs, .inl (G.2.1, 6, .inl (nF sp))), (zw, .inl (G.2.1, 4096, .inl (nF kw)))]) [0, 1, 2, 3, 4] rfl) (hD.sub (ws' := [(z, .inr (5, [.int (nI th), .int (nI n), .ref zk, .int (nI rc), .ref zn, .ref zs, .int (nI K.length), .ref zw, .int (nI st), .ref zf, .int (bI kp), .int (nI kd), .int (nI kq), .int (nI kt), .int (nI ks), .ref zg, .int (nI al)])), (zk, .inl (G.2.1, 24, .inl (nF k))), (zn, .inl (G.2.1, 6, .inl (nF ne))), (zs, .inl (G.2.1, 6, .inl (nF sp))), (zw, .inl (G.2.1, 4096, .inl (nF kw)))]) [0, 1, 2, 3, 4] (by decide) rfl) hS (lv_sub (l' := [(0, .ref z), (1, .int (nI d)), (2, .int (nI pp)), (3, .int (nI 0)), (4, .int (nI 0))]) hl [1, 2, 3, 4, 0] rfl)
  rintro ⟨i, Ki, ki⟩ hinv ih H locs ls hP hD hS hl
  have hP : va_P G.1 vwCl [(z, .inr (5, [.int (nI th), .int (nI n), .ref zk, .int (nI rc), .ref zn, .ref zs, .int (nI Ki.length), .ref zw, .int (nI st), .ref zf, .int (bI kp), .int (nI kd), .int (nI kq), .int (nI kt), .int (nI ks), .ref zg, .int (nI al)])), (zk, .inl (G.2.1, 24, .inl (nF k))), (zn, .inl (G.2.1, 6, .inl (nF ne))), (zs, .inl (G.2.1, 6, .inl (nF sp))), (zw, .inl (G.2.1, 4096, .inl (nF ki)))] H := hP
  have hD : va_D A [(z, .inr (5, [.int (nI th), .int (nI n), .ref zk, .int (nI rc), .ref zn, .ref zs, .int (nI Ki.length), .ref zw, .int (nI st), .ref zf, .int (bI kp), .int (nI kd), .int (nI kq), .int (nI kt), .int (nI ks), .ref zg, .int (nI al)])), (zk, .inl (G.2.1, 24, .inl (nF k))), (zn, .inl (G.2.1, 6, .inl (nF ne))), (zs, .inl (G.2.1, 6, .inl (nF sp))), (zw, .inl (G.2.1, 4096, .inl (nF ki)))] := hD
  have hl : lv_has ls 5 [(0, .ref z), (1, .int (nI d)), (2, .int (nI pp)), (3, .int (nI 0)), (4, .int (nI i))] := hl
  have hinv : i ≤ pp ∧ Ki.length ≤ K.length + i ∧ KR ki Ki ∧ fst1 (spl k ne sp n rc) (pto d pp) (pp - i) i Ki = (o, K1) := hinv
  obtain ⟨hi, hKi, hKRi, hfi⟩ := hinv
  clear hKR he
  refine lv_iload hx hb dX5_first_3 (lv_at hl 4 rfl) ?_
  refine lv_iload_n hx hb dX5_first_5 rfl (lv_at hl 2 rfl) ?_
  refine lv_icmp_ge (tgt := 50) hx hb dX5_first_6 (by decide) (fun c_6 => ?_) (fun c_6 => ?_)
  · have c_6 := (nI_leI (by omega) (by omega)).mp c_6
    have e7 : i = pp := by omega
    have e5 : ((none : Option Nat), Ki) = (o, K1) := by rw [← hfi, show pp - i = 0 by omega]; rfl
    cases e5
    refine lv_iconst (v := (-1)) hx hb dX5_first_50 (by decide +kernel) ?_
    exact cs_iret hx hb hr hlocks hK hP hD hS (v := (-1)) ki (⟨rfl, hKRi⟩) rfl dX5_first_51
  · have c_6 := mt (nI_leI (by omega) (by omega)).mpr c_6
    refine lv_aload_n hx hb dX5_first_9 rfl (lv_at hl 0 rfl) ?_
    refine lv_iload_n hx hb dX5_first_10 rfl (lv_at hl 3 rfl) ?_
    refine lv_if_eq (tgt := 28) hx hb dX5_first_11 (by decide) (fun c_11 => ?_) (fun c_11 => ?_)
    · refine lv_iload_n hx hb dX5_first_28 rfl (lv_at hl 1 rfl) ?_
      refine lv_iload hx hb dX5_first_29 (lv_at hl 4 rfl) ?_
      refine lv_iload_n hx hb dX5_first_31 rfl (lv_at hl 2 rfl) ?_
      refine cs_si (As := [.int (nI d), .int (nI i), .int (nI pp)]) (rest := [.ref z]) (wr := [(z, .inr (5, [.int (nI th), .int (nI n), .ref zk, .int (nI rc), .ref zn, .ref zs, .int (nI Ki.length), .ref zw, .int (nI st), .ref zf, .int (bI kp), .int (nI kd), .int (nI kq), .int (nI kt), .int (nI ks), .ref zg, .int (nI al)])), (zk, .inl (G.2.1, 24, .inl (nF k))), (zn, .inl (G.2.1, 6, .inl (nF ne))), (zs, .inl (G.2.1, 6, .inl (nF sp))), (zw, .inl (G.2.1, 4096, .inl (nF ki)))]) ⟨hx, hb, hml, hown, hts⟩ hK hP hD hS hA (c_X5_partOf l G d i pp (by first | assumption | omega) (by first | assumption | omega) (by first | assumption | omega) (by first | assumption | omega)) (va_cwS 3 hts gX5_first_X5_partOf rfl rfl rfl (by decide +kernel) ⟨Nat.le_of_ble_eq_true rfl, Nat.le_of_ble_eq_true rfl⟩) [] [0, 1, 2, 3, 4] ⟨rfl, rfl, by decide, by decide, by decide⟩ rfl hl.1 rfl (Nat.le_of_ble_eq_true rfl) ⟨Nat.le_of_ble_eq_true rfl, Nat.le_of_ble_eq_true rfl⟩ dX5_first_32 (fun r u H locs hw hP hD hS => ?_)
      have hP : va_P G.1 vwCl [(z, .inr (5, [.int (nI th), .int (nI n), .ref zk, .int (nI rc), .ref zn, .ref zs, .int (nI Ki.length), .ref zw, .int (nI st), .ref zf, .int (bI kp), .int (nI kd), .int (nI kq), .int (nI kt), .int (nI ks), .ref zg, .int (nI al)])), (zk, .inl (G.2.1, 24, .inl (nF k))), (zn, .inl (G.2.1, 6, .inl (nF ne))), (zs, .inl (G.2.1, 6, .inl (nF sp))), (zw, .inl (G.2.1, 4096, .inl (nF ki)))] H := hP.sub [0, 1, 2, 3, 4] rfl
      have hD : va_D A [(z, .inr (5, [.int (nI th), .int (nI n), .ref zk, .int (nI rc), .ref zn, .ref zs, .int (nI Ki.length), .ref zw, .int (nI st), .ref zf, .int (bI kp), .int (nI kd), .int (nI kq), .int (nI kt), .int (nI ks), .ref zg, .int (nI al)])), (zk, .inl (G.2.1, 24, .inl (nF k))), (zn, .inl (G.2.1, 6, .inl (nF ne))), (zs, .inl (G.2.1, 6, .inl (nF sp))), (zw, .inl (G.2.1, 4096, .inl (nF ki)))] := hD.sub [0, 1, 2, 3, 4] (by decide) rfl
      subst hw
      have hd9 : pto d pp i < 2 ^ 24 := pto_lt d pp i
      refine cs_vi (As := [.int (nI (pto d pp i))]) (rest := []) (wr := []) ⟨hx, hb, hml, hown, hts⟩ hK hP hD hS hA (c_X5_taste l G z zk zn zs zw zf zg th n rc st kp kd kq kt ks al (by first | assumption | omega) (by first | assumption | omega) k ne sp ki Ki (by first | assumption | omega) (by first | assumption | omega) (by first | assumption | omega) (pto d pp i) (by first | assumption | omega) (by first | assumption | omega) (by first | assumption | omega)) (cwV 1 hts gX5_first_X5_taste rfl rfl rfl (by decide +kernel) ⟨Nat.le_of_ble_eq_true rfl, Nat.le_of_ble_eq_true rfl⟩) [0, 1, 2, 3, 4] [] ⟨rfl, rfl, by decide, by decide, by decide⟩ 0 5 rfl rfl rfl hl.1 rfl (Nat.le_of_ble_eq_true rfl) ⟨Nat.le_of_ble_eq_true rfl, Nat.le_of_ble_eq_true rfl⟩ dX5_first_35 (fun r u_1 H locs hw hP hD hS => ?_)
      obtain ⟨rfl, hKR⟩ := hw
      have hP : va_P G.1 vwCl [(z, .inr (5, [.int (nI th), .int (nI n), .ref zk, .int (nI rc), .ref zn, .ref zs, .int (nI ((lk Ki (pto d pp i)).length)), .ref zw, .int (nI st), .ref zf, .int (bI kp), .int (nI kd), .int (nI kq), .int (nI kt), .int (nI ks), .ref zg, .int (nI al)])), (zk, .inl (G.2.1, 24, .inl (nF k))), (zn, .inl (G.2.1, 6, .inl (nF ne))), (zs, .inl (G.2.1, 6, .inl (nF sp))), (zw, .inl (G.2.1, 4096, .inl (nF u_1)))] H := hP.sub [0, 1, 2, 3, 4] rfl
      have hD : va_D A [(z, .inr (5, [.int (nI th), .int (nI n), .ref zk, .int (nI rc), .ref zn, .ref zs, .int (nI ((lk Ki (pto d pp i)).length)), .ref zw, .int (nI st), .ref zf, .int (bI kp), .int (nI kd), .int (nI kq), .int (nI kt), .int (nI ks), .ref zg, .int (nI al)])), (zk, .inl (G.2.1, 24, .inl (nF k))), (zn, .inl (G.2.1, 6, .inl (nF ne))), (zs, .inl (G.2.1, 6, .inl (nF sp))), (zw, .inl (G.2.1, 4096, .inl (nF u_1)))] := hD.sub [0, 1, 2, 3, 4] (by decide) rfl
      refine lv_if_eq (tgt := 44) hx hb dX5_first_38 (by decide) (fun c_38 => ?_) (fun c_38 => ?_)
      · have c_38 := bI_0 c_38
        refine lv_iinc (v := nI (i + 1)) (lv' := [(4, .int (nI (i + 1))), (0, .ref z), (1, .int (nI d)), (2, .int (nI pp)), (3, .int (nI 0))]) hx hb dX5_first_44 hl (k := 4) rfl ((nI_succ i).symm) (by decide) rfl (fun ls hl => ?_)
        refine lv_goto (tgt := 3) hx hb dX5_first_47 (by decide) ?_
        exact ih ((i + 1, lk Ki (pto d pp i), u_1)) (by show pp - (i + 1) < pp - i; omega) (⟨by show i + 1 ≤ pp; omega, by have z9 := lk_le Ki (pto d pp i); show (lk Ki (pto d pp i)).length ≤ K.length + (i + 1); omega, hKR, by rw [← hfi, show pp - i = (pp - (i + 1)) + 1 by omega]; exact (fst1_f (mk := (pto d pp)) c_38).symm⟩) _ _ _ (hP.sub (ws' := [(z, .inr (5, [.int (nI th), .int (nI n), .ref zk, .int (nI rc), .ref zn, .ref zs, .int (nI ((lk Ki (pto d pp i)).length)), .ref zw, .int (nI st), .ref zf, .int (bI kp), .int (nI kd), .int (nI kq), .int (nI kt), .int (nI ks), .ref zg, .int (nI al)])), (zk, .inl (G.2.1, 24, .inl (nF k))), (zn, .inl (G.2.1, 6, .inl (nF ne))), (zs, .inl (G.2.1, 6, .inl (nF sp))), (zw, .inl (G.2.1, 4096, .inl (nF u_1)))]) [0, 1, 2, 3, 4] rfl) (hD.sub (ws' := [(z, .inr (5, [.int (nI th), .int (nI n), .ref zk, .int (nI rc), .ref zn, .ref zs, .int (nI ((lk Ki (pto d pp i)).length)), .ref zw, .int (nI st), .ref zf, .int (bI kp), .int (nI kd), .int (nI kq), .int (nI kt), .int (nI ks), .ref zg, .int (nI al)])), (zk, .inl (G.2.1, 24, .inl (nF k))), (zn, .inl (G.2.1, 6, .inl (nF ne))), (zs, .inl (G.2.1, 6, .inl (nF sp))), (zw, .inl (G.2.1, 4096, .inl (nF u_1)))]) [0, 1, 2, 3, 4] (by decide) rfl) hS (lv_sub (l' := [(0, .ref z), (1, .int (nI d)), (2, .int (nI pp)), (3, .int (nI 0)), (4, .int (nI (i + 1)))]) hl [1, 2, 3, 4, 0] rfl)
      · have c_38 := bI_n0 c_38
        have e5 : (some i, lk Ki (pto d pp i)) = (o, K1) := by rw [← hfi, show pp - i = (pp - (i + 1)) + 1 by omega]; exact (fst1_t (mk := (pto d pp)) c_38).symm
        cases e5
        refine lv_iload hx hb dX5_first_41 (lv_at hl 4 rfl) ?_
        exact cs_iret hx hb hr hlocks hK hP hD hS (v := nI i) u_1 (⟨rfl, hKR⟩) rfl dX5_first_43
    · exact absurd (by decide +kernel) c_11

set_option maxHeartbeats 4000000 in
set_option maxRecDepth 100000 in
theorem c_X5_firstb (l : Launch) (G : cG) (z zk zn zs zw zf zg th n rc st : Nat) (kp : Bool) (kd kq kt ks al : Nat) (hn : n ≤ 24) (hrc : rc ≤ 6) (k : Nat → Nat) (ne sp : Nat → Nat) (kw : Nat → Nat) (K : List Nat) (hk : ∀ j, j < n → k j < 16) (hne : ∀ j, j < 6 → ne j < 65536) (hsp : ∀ j, j < 6 → sp j < 65536) (d pp : Nat) (o : Option Nat) (K1 : List Nat) (hd : d < 2 ^ 24) (hpp : 2 ≤ pp) (hpm : pp ≤ cnt d 24) (hKR : KR kw K) (hKl : K.length + pp < 3900) (he : fst1 (spl k ne sp n rc) (fun k9 => nd d (pto d pp k9)) pp 0 K = (o, K1)) : cMI l G yX5_first wsX5_first ({ frames := 3, cells := 0, slots := 0, locals := 69 }) [.ref z, .int (nI d), .int (nI pp), .int (nI 1)] [(z, .inr (5, [.int (nI th), .int (nI n), .ref zk, .int (nI rc), .ref zn, .ref zs, .int (nI K.length), .ref zw, .int (nI st), .ref zf, .int (bI kp), .int (nI kd), .int (nI kq), .int (nI kt), .int (nI ks), .ref zg, .int (nI al)])), (zk, .inl (G.2.1, 24, .inl (nF k))), (zn, .inl (G.2.1, 6, .inl (nF ne))), (zs, .inl (G.2.1, 6, .inl (nF sp))), (zw, .inl (G.2.1, 4096, .inl (nF kw)))] (fun (r_ : Int32) (kw9 : Nat → Nat) => r_ = oI o ∧ KR kw9 K1) (fun (kw9 : Nat → Nat) => [(z, .inr (5, [.int (nI th), .int (nI n), .ref zk, .int (nI rc), .ref zn, .ref zs, .int (nI K1.length), .ref zw, .int (nI st), .ref zf, .int (bI kp), .int (nI kd), .int (nI kq), .int (nI kt), .int (nI ks), .ref zg, .int (nI al)])), (zk, .inl (G.2.1, 24, .inl (nF k))), (zn, .inl (G.2.1, 6, .inl (nF ne))), (zs, .inl (G.2.1, 6, .inl (nF sp))), (zw, .inl (G.2.1, 4096, .inl (nF kw9)))]) := by
  refine cs_sI (own := RX5) (cc := cX5_first) (maxL := 5) (ret := (some .int)) (by decide) rfl rfl (Nat.le_of_ble_eq_true rfl) ?_
  intro p e s m below meth c A hx hb hr hml hts hown hlocks hinit hA hK hP hD hS ls hl
  have hl : lv_has ls 5 [(0, .ref z), (1, .int (nI d)), (2, .int (nI pp)), (3, .int (nI 1))] := hl
  have hc24 := cnt_le d 24
  refine lv_iconst (v := nI 0) hx hb dX5_first_0 (by decide +kernel) ?_
  refine lv_istore (lv' := [(4, .int (nI 0)), (0, .ref z), (1, .int (nI d)), (2, .int (nI pp)), (3, .int (nI 1))]) hx hb dX5_first_1 hl (by decide) rfl (fun ls hl => ?_)
  refine cs_loop (G := G) (nL := 5) (σ := Nat × List Nat × (Nat → Nat)) (fun x : Nat × List Nat × (Nat → Nat) => match x with | (i, Ki, ki) => pp - i) (fun x : Nat × List Nat × (Nat → Nat) => match x with | (i, Ki, ki) => i ≤ pp ∧ Ki.length ≤ K.length + i ∧ KR ki Ki ∧ fst1 (spl k ne sp n rc) (fun k9 => nd d (pto d pp k9)) (pp - i) i Ki = (o, K1)) (fun x : Nat × List Nat × (Nat → Nat) => match x with | (i, Ki, ki) => [(z, .inr (5, [.int (nI th), .int (nI n), .ref zk, .int (nI rc), .ref zn, .ref zs, .int (nI Ki.length), .ref zw, .int (nI st), .ref zf, .int (bI kp), .int (nI kd), .int (nI kq), .int (nI kt), .int (nI ks), .ref zg, .int (nI al)])), (zk, .inl (G.2.1, 24, .inl (nF k))), (zn, .inl (G.2.1, 6, .inl (nF ne))), (zs, .inl (G.2.1, 6, .inl (nF sp))), (zw, .inl (G.2.1, 4096, .inl (nF ki)))]) (fun x : Nat × List Nat × (Nat → Nat) => match x with | (i, Ki, ki) => [(0, .ref z), (1, .int (nI d)), (2, .int (nI pp)), (3, .int (nI 1)), (4, .int (nI i))]) ?_ ((0, K, kw)) (⟨Nat.zero_le _, Nat.le_refl _, hKR, he⟩) (hP.sub (ws' := [(z, .inr (5, [.int (nI th), .int (nI n), .ref zk, .int (nI rc), .ref zn, .ref zs, .int (nI K.length), .ref zw, .int (nI st), .ref zf, .int (bI kp), .int (nI kd), .int (nI kq), .int (nI kt), .int (nI ks), .ref zg, .int (nI al)])), (zk, .inl (G.2.1, 24, .inl (nF k))), (zn, .inl (G.2.1, 6, .inl (nF ne))), (zs, .inl (G.2.1, 6, .inl (nF sp))), (zw, .inl (G.2.1, 4096, .inl (nF kw)))]) [0, 1, 2, 3, 4] rfl) (hD.sub (ws' := [(z, .inr (5, [.int (nI th), .int (nI n), .ref zk, .int (nI rc), .ref zn, .ref zs, .int (nI K.length), .ref zw, .int (nI st), .ref zf, .int (bI kp), .int (nI kd), .int (nI kq), .int (nI kt), .int (nI ks), .ref zg, .int (nI al)])), (zk, .inl (G.2.1, 24, .inl (nF k))), (zn, .inl (G.2.1, 6, .inl (nF ne))), (zs, .inl (G.2.1, 6, .inl (nF sp))), (zw, .inl (G.2.1, 4096, .inl (nF kw)))]) [0, 1, 2, 3, 4] (by decide) rfl) hS (lv_sub (l' := [(0, .ref z), (1, .int (nI d)), (2, .int (nI pp)), (3, .int (nI 1)), (4, .int (nI 0))]) hl [1, 2, 3, 4, 0] rfl)
  rintro ⟨i, Ki, ki⟩ hinv ih H locs ls hP hD hS hl
  have hP : va_P G.1 vwCl [(z, .inr (5, [.int (nI th), .int (nI n), .ref zk, .int (nI rc), .ref zn, .ref zs, .int (nI Ki.length), .ref zw, .int (nI st), .ref zf, .int (bI kp), .int (nI kd), .int (nI kq), .int (nI kt), .int (nI ks), .ref zg, .int (nI al)])), (zk, .inl (G.2.1, 24, .inl (nF k))), (zn, .inl (G.2.1, 6, .inl (nF ne))), (zs, .inl (G.2.1, 6, .inl (nF sp))), (zw, .inl (G.2.1, 4096, .inl (nF ki)))] H := hP
  have hD : va_D A [(z, .inr (5, [.int (nI th), .int (nI n), .ref zk, .int (nI rc), .ref zn, .ref zs, .int (nI Ki.length), .ref zw, .int (nI st), .ref zf, .int (bI kp), .int (nI kd), .int (nI kq), .int (nI kt), .int (nI ks), .ref zg, .int (nI al)])), (zk, .inl (G.2.1, 24, .inl (nF k))), (zn, .inl (G.2.1, 6, .inl (nF ne))), (zs, .inl (G.2.1, 6, .inl (nF sp))), (zw, .inl (G.2.1, 4096, .inl (nF ki)))] := hD
  have hl : lv_has ls 5 [(0, .ref z), (1, .int (nI d)), (2, .int (nI pp)), (3, .int (nI 1)), (4, .int (nI i))] := hl
  have hinv : i ≤ pp ∧ Ki.length ≤ K.length + i ∧ KR ki Ki ∧ fst1 (spl k ne sp n rc) (fun k9 => nd d (pto d pp k9)) (pp - i) i Ki = (o, K1) := hinv
  obtain ⟨hi, hKi, hKRi, hfi⟩ := hinv
  clear hKR he
  refine lv_iload hx hb dX5_first_3 (lv_at hl 4 rfl) ?_
  refine lv_iload_n hx hb dX5_first_5 rfl (lv_at hl 2 rfl) ?_
  refine lv_icmp_ge (tgt := 50) hx hb dX5_first_6 (by decide) (fun c_6 => ?_) (fun c_6 => ?_)
  · have c_6 := (nI_leI (by omega) (by omega)).mp c_6
    have e7 : i = pp := by omega
    have e5 : ((none : Option Nat), Ki) = (o, K1) := by rw [← hfi, show pp - i = 0 by omega]; rfl
    cases e5
    refine lv_iconst (v := (-1)) hx hb dX5_first_50 (by decide +kernel) ?_
    exact cs_iret hx hb hr hlocks hK hP hD hS (v := (-1)) ki (⟨rfl, hKRi⟩) rfl dX5_first_51
  · have c_6 := mt (nI_leI (by omega) (by omega)).mpr c_6
    refine lv_aload_n hx hb dX5_first_9 rfl (lv_at hl 0 rfl) ?_
    refine lv_iload_n hx hb dX5_first_10 rfl (lv_at hl 3 rfl) ?_
    refine lv_if_eq (tgt := 28) hx hb dX5_first_11 (by decide) (fun c_11 => ?_) (fun c_11 => ?_)
    · exact absurd c_11 (by decide +kernel)
    · refine lv_iload_n hx hb dX5_first_14 rfl (lv_at hl 1 rfl) ?_
      refine lv_iload_n hx hb dX5_first_15 rfl (lv_at hl 1 rfl) ?_
      refine lv_iload hx hb dX5_first_16 (lv_at hl 4 rfl) ?_
      refine lv_iload_n hx hb dX5_first_18 rfl (lv_at hl 2 rfl) ?_
      refine cs_si (As := [.int (nI d), .int (nI i), .int (nI pp)]) (rest := [.int (nI d), .ref z]) (wr := [(z, .inr (5, [.int (nI th), .int (nI n), .ref zk, .int (nI rc), .ref zn, .ref zs, .int (nI Ki.length), .ref zw, .int (nI st), .ref zf, .int (bI kp), .int (nI kd), .int (nI kq), .int (nI kt), .int (nI ks), .ref zg, .int (nI al)])), (zk, .inl (G.2.1, 24, .inl (nF k))), (zn, .inl (G.2.1, 6, .inl (nF ne))), (zs, .inl (G.2.1, 6, .inl (nF sp))), (zw, .inl (G.2.1, 4096, .inl (nF ki)))]) ⟨hx, hb, hml, hown, hts⟩ hK hP hD hS hA (c_X5_partOf l G d i pp (by first | assumption | omega) (by first | assumption | omega) (by first | assumption | omega) (by first | assumption | omega)) (va_cwS 3 hts gX5_first_X5_partOf rfl rfl rfl (by decide +kernel) ⟨Nat.le_of_ble_eq_true rfl, Nat.le_of_ble_eq_true rfl⟩) [] [0, 1, 2, 3, 4] ⟨rfl, rfl, by decide, by decide, by decide⟩ rfl hl.1 rfl (Nat.le_of_ble_eq_true rfl) ⟨Nat.le_of_ble_eq_true rfl, Nat.le_of_ble_eq_true rfl⟩ dX5_first_19 (fun r u H locs hw hP hD hS => ?_)
      have hP : va_P G.1 vwCl [(z, .inr (5, [.int (nI th), .int (nI n), .ref zk, .int (nI rc), .ref zn, .ref zs, .int (nI Ki.length), .ref zw, .int (nI st), .ref zf, .int (bI kp), .int (nI kd), .int (nI kq), .int (nI kt), .int (nI ks), .ref zg, .int (nI al)])), (zk, .inl (G.2.1, 24, .inl (nF k))), (zn, .inl (G.2.1, 6, .inl (nF ne))), (zs, .inl (G.2.1, 6, .inl (nF sp))), (zw, .inl (G.2.1, 4096, .inl (nF ki)))] H := hP.sub [0, 1, 2, 3, 4] rfl
      have hD : va_D A [(z, .inr (5, [.int (nI th), .int (nI n), .ref zk, .int (nI rc), .ref zn, .ref zs, .int (nI Ki.length), .ref zw, .int (nI st), .ref zf, .int (bI kp), .int (nI kd), .int (nI kq), .int (nI kt), .int (nI ks), .ref zg, .int (nI al)])), (zk, .inl (G.2.1, 24, .inl (nF k))), (zn, .inl (G.2.1, 6, .inl (nF ne))), (zs, .inl (G.2.1, 6, .inl (nF sp))), (zw, .inl (G.2.1, 4096, .inl (nF ki)))] := hD.sub [0, 1, 2, 3, 4] (by decide) rfl
      subst hw
      refine lv_iconst (v := (-1)) hx hb dX5_first_22 (by decide +kernel) ?_
      refine lv_ixor hx hb dX5_first_23 ?_
      refine lv_iand hx hb dX5_first_24 ?_
      refine cs_i (y := nI (nd d (pto d pp i))) (nI_nd _ _) ?_
      refine lv_goto (tgt := 35) hx hb dX5_first_25 (by decide) ?_
      have hd9 : nd d (pto d pp i) < 2 ^ 24 := nd_lt hd
      refine cs_vi (As := [.int (nI (nd d (pto d pp i)))]) (rest := []) (wr := []) ⟨hx, hb, hml, hown, hts⟩ hK hP hD hS hA (c_X5_taste l G z zk zn zs zw zf zg th n rc st kp kd kq kt ks al (by first | assumption | omega) (by first | assumption | omega) k ne sp ki Ki (by first | assumption | omega) (by first | assumption | omega) (by first | assumption | omega) (nd d (pto d pp i)) (by first | assumption | omega) (by first | assumption | omega) (by first | assumption | omega)) (cwV 1 hts gX5_first_X5_taste rfl rfl rfl (by decide +kernel) ⟨Nat.le_of_ble_eq_true rfl, Nat.le_of_ble_eq_true rfl⟩) [0, 1, 2, 3, 4] [] ⟨rfl, rfl, by decide, by decide, by decide⟩ 0 5 rfl rfl rfl hl.1 rfl (Nat.le_of_ble_eq_true rfl) ⟨Nat.le_of_ble_eq_true rfl, Nat.le_of_ble_eq_true rfl⟩ dX5_first_35 (fun r u_1 H locs hw hP hD hS => ?_)
      obtain ⟨rfl, hKR⟩ := hw
      have hP : va_P G.1 vwCl [(z, .inr (5, [.int (nI th), .int (nI n), .ref zk, .int (nI rc), .ref zn, .ref zs, .int (nI ((lk Ki (nd d (pto d pp i))).length)), .ref zw, .int (nI st), .ref zf, .int (bI kp), .int (nI kd), .int (nI kq), .int (nI kt), .int (nI ks), .ref zg, .int (nI al)])), (zk, .inl (G.2.1, 24, .inl (nF k))), (zn, .inl (G.2.1, 6, .inl (nF ne))), (zs, .inl (G.2.1, 6, .inl (nF sp))), (zw, .inl (G.2.1, 4096, .inl (nF u_1)))] H := hP.sub [0, 1, 2, 3, 4] rfl
      have hD : va_D A [(z, .inr (5, [.int (nI th), .int (nI n), .ref zk, .int (nI rc), .ref zn, .ref zs, .int (nI ((lk Ki (nd d (pto d pp i))).length)), .ref zw, .int (nI st), .ref zf, .int (bI kp), .int (nI kd), .int (nI kq), .int (nI kt), .int (nI ks), .ref zg, .int (nI al)])), (zk, .inl (G.2.1, 24, .inl (nF k))), (zn, .inl (G.2.1, 6, .inl (nF ne))), (zs, .inl (G.2.1, 6, .inl (nF sp))), (zw, .inl (G.2.1, 4096, .inl (nF u_1)))] := hD.sub [0, 1, 2, 3, 4] (by decide) rfl
      refine lv_if_eq (tgt := 44) hx hb dX5_first_38 (by decide) (fun c_38 => ?_) (fun c_38 => ?_)
      · have c_38 := bI_0 c_38
        refine lv_iinc (v := nI (i + 1)) (lv' := [(4, .int (nI (i + 1))), (0, .ref z), (1, .int (nI d)), (2, .int (nI pp)), (3, .int (nI 1))]) hx hb dX5_first_44 hl (k := 4) rfl ((nI_succ i).symm) (by decide) rfl (fun ls hl => ?_)
        refine lv_goto (tgt := 3) hx hb dX5_first_47 (by decide) ?_
        exact ih ((i + 1, lk Ki (nd d (pto d pp i)), u_1)) (by show pp - (i + 1) < pp - i; omega) (⟨by show i + 1 ≤ pp; omega, by have z9 := lk_le Ki (nd d (pto d pp i)); show (lk Ki (nd d (pto d pp i))).length ≤ K.length + (i + 1); omega, hKR, by rw [← hfi, show pp - i = (pp - (i + 1)) + 1 by omega]; exact (fst1_f (mk := (fun k9 => nd d (pto d pp k9))) c_38).symm⟩) _ _ _ (hP.sub (ws' := [(z, .inr (5, [.int (nI th), .int (nI n), .ref zk, .int (nI rc), .ref zn, .ref zs, .int (nI ((lk Ki (nd d (pto d pp i))).length)), .ref zw, .int (nI st), .ref zf, .int (bI kp), .int (nI kd), .int (nI kq), .int (nI kt), .int (nI ks), .ref zg, .int (nI al)])), (zk, .inl (G.2.1, 24, .inl (nF k))), (zn, .inl (G.2.1, 6, .inl (nF ne))), (zs, .inl (G.2.1, 6, .inl (nF sp))), (zw, .inl (G.2.1, 4096, .inl (nF u_1)))]) [0, 1, 2, 3, 4] rfl) (hD.sub (ws' := [(z, .inr (5, [.int (nI th), .int (nI n), .ref zk, .int (nI rc), .ref zn, .ref zs, .int (nI ((lk Ki (nd d (pto d pp i))).length)), .ref zw, .int (nI st), .ref zf, .int (bI kp), .int (nI kd), .int (nI kq), .int (nI kt), .int (nI ks), .ref zg, .int (nI al)])), (zk, .inl (G.2.1, 24, .inl (nF k))), (zn, .inl (G.2.1, 6, .inl (nF ne))), (zs, .inl (G.2.1, 6, .inl (nF sp))), (zw, .inl (G.2.1, 4096, .inl (nF u_1)))]) [0, 1, 2, 3, 4] (by decide) rfl) hS (lv_sub (l' := [(0, .ref z), (1, .int (nI d)), (2, .int (nI pp)), (3, .int (nI 1)), (4, .int (nI (i + 1)))]) hl [1, 2, 3, 4, 0] rfl)
      · have c_38 := bI_n0 c_38
        have e5 : (some i, lk Ki (nd d (pto d pp i))) = (o, K1) := by rw [← hfi, show pp - i = (pp - (i + 1)) + 1 by omega]; exact (fst1_t (mk := (fun k9 => nd d (pto d pp k9))) c_38).symm
        cases e5
        refine lv_iload hx hb dX5_first_41 (lv_at hl 4 rfl) ?_
        exact cs_iret hx hb hr hlocks hK hP hD hS (v := nI i) u_1 (⟨rfl, hKR⟩) rfl dX5_first_43
