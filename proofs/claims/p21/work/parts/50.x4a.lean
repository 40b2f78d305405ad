set_option maxHeartbeats 4000000 in
set_option maxRecDepth 100000 in
theorem c_X4_isKind (l : Launch) (G : cG) (v : Int32) : cMI l G yX4_isKind wsX4_isKind ({ frames := 0, cells := 0, slots := 0, locals := 0 }) [.int v] [] (fun (r_ : Int32) (_ : Unit) => r_ = bI (hp v 16)) (fun (_ : Unit) => []) := by
  refine cs_sI (own := RX4) (cc := cX4_isKind) (maxL := 1) (ret := (some .boolean)) (by decide) rfl rfl (Nat.le_of_ble_eq_true rfl) ?_
  intro p e s m below meth c A hx hb hr hml hts hown hlocks hinit hA hK hP hD hS ls hl
  have hl : lv_has ls 1 [(0, .int v)] := hl
  refine lv_iload_n hx hb dX4_isKind_0 rfl (lv_at hl 0 rfl) ?_
  refine lv_if_lt (tgt := 14) hx hb dX4_isKind_1 (by decide) (fun c_1 => ?_) (fun c_1 => ?_)
  · refine lv_iconst (v := nI 0) hx hb dX4_isKind_14 (by decide +kernel) ?_
    exact cs_zret hx hb hr hlocks hK hP hD hS (v := nI 0) (rfl) () (by first | (rw [hp_t c_1 c_7]; rfl) | (rw [hp_f1 c_1]; rfl) | (rw [hp_f2 c_7]; rfl)) (rfl) dX4_isKind_15
  · refine lv_iload_n hx hb dX4_isKind_4 rfl (lv_at hl 0 rfl) ?_
    refine lv_bipush (v := nI 16) hx hb dX4_isKind_5 (by decide +kernel) ?_
    refine lv_icmp_ge (tgt := 14) hx hb dX4_isKind_7 (by decide) (fun c_7 => ?_) (fun c_7 => ?_)
    · refine lv_iconst (v := nI 0) hx hb dX4_isKind_14 (by decide +kernel) ?_
      exact cs_zret hx hb hr hlocks hK hP hD hS (v := nI 0) (rfl) () (by first | (rw [hp_t c_1 c_7]; rfl) | (rw [hp_f1 c_1]; rfl) | (rw [hp_f2 c_7]; rfl)) (rfl) dX4_isKind_15
    · refine lv_iconst (v := nI 1) hx hb dX4_isKind_10 (by decide +kernel) ?_
      refine lv_goto (tgt := 15) hx hb dX4_isKind_11 (by decide) ?_
      exact cs_zret hx hb hr hlocks hK hP hD hS (v := nI 1) (rfl) () (by first | (rw [hp_t c_1 c_7]; rfl) | (rw [hp_f1 c_1]; rfl) | (rw [hp_f2 c_7]; rfl)) (rfl) dX4_isKind_15

set_option maxHeartbeats 4000000 in
set_option maxRecDepth 100000 in
theorem c_X4_hasBit (l : Launch) (G : cG) (d j : Nat) (hd : d < 2 ^ 31) (hj : j < 32) : cMI l G yX4_hasBit wsX4_hasBit ({ frames := 0, cells := 0, slots := 0, locals := 0 }) [.int (nI d), .int (nI j)] [] (fun (r_ : Int32) (_ : Unit) => r_ = bI (d.testBit j)) (fun (_ : Unit) => []) := by
  refine cs_sI (own := RX4) (cc := cX4_hasBit) (maxL := 2) (ret := (some .boolean)) (by decide) rfl rfl (Nat.le_of_ble_eq_true rfl) ?_
  intro p e s m below meth c A hx hb hr hml hts hown hlocks hinit hA hK hP hD hS ls hl
  have hl : lv_has ls 2 [(0, .int (nI d)), (1, .int (nI j))] := hl
  refine lv_iload_n hx hb dX4_hasBit_0 rfl (lv_at hl 0 rfl) ?_
  refine lv_iload_n hx hb dX4_hasBit_1 rfl (lv_at hl 1 rfl) ?_
  refine lv_ishr hx hb dX4_hasBit_2 ?_
  refine cs_i (y := nI (d >>> j)) (nI_shr (by omega) (by omega)) ?_
  refine lv_iconst (v := nI 1) hx hb dX4_hasBit_3 (by decide +kernel) ?_
  refine lv_iand hx hb dX4_hasBit_4 ?_
  refine cs_i (y := bI (d.testBit j)) (by rw [fa_and]; exact bitI d j) ?_
  refine lv_if_eq (tgt := 12) hx hb dX4_hasBit_5 (by decide) (fun c_5 => ?_) (fun c_5 => ?_)
  · have c_5 := bI_0 c_5
    refine lv_iconst (v := nI 0) hx hb dX4_hasBit_12 (by decide +kernel) ?_
    exact cs_zret hx hb hr hlocks hK hP hD hS (v := nI 0) (rfl) () (by rw [c_5]; rfl) (rfl) dX4_hasBit_13
  · have c_5 := bI_n0 c_5
    refine lv_iconst (v := nI 1) hx hb dX4_hasBit_8 (by decide +kernel) ?_
    refine lv_goto (tgt := 13) hx hb dX4_hasBit_9 (by decide) ?_
    exact cs_zret hx hb hr hlocks hK hP hD hS (v := nI 1) (rfl) () (by rw [c_5]; rfl) (rfl) dX4_hasBit_13

set_option maxHeartbeats 4000000 in
set_option maxRecDepth 100000 in
theorem c_X4_withBit (l : Launch) (G : cG) (d j : Nat) (hj : j < 31) (ib : Bool) : cMI l G yX4_withBit wsX4_withBit ({ frames := 0, cells := 0, slots := 0, locals := 0 }) [.int (nI d), .int (nI j), .int (bI ib)] [] (fun (r_ : Int32) (_ : Unit) => r_ = nI (wb d j ib)) (fun (_ : Unit) => []) := by
  refine cs_sI (own := RX4) (cc := cX4_withBit) (maxL := 3) (ret := (some .int)) (by decide) rfl rfl (Nat.le_of_ble_eq_true rfl) ?_
  intro p e s m below meth c A hx hb hr hml hts hown hlocks hinit hA hK hP hD hS ls hl
  have hl : lv_has ls 3 [(0, .int (nI d)), (1, .int (nI j)), (2, .int (bI ib))] := hl
  refine lv_iload_n hx hb dX4_withBit_0 rfl (lv_at hl 2 rfl) ?_
  refine lv_if_eq (tgt := 12) hx hb dX4_withBit_1 (by decide) (fun c_1 => ?_) (fun c_1 => ?_)
  · have c_1 := bI_0 c_1
    refine lv_iload_n hx hb dX4_withBit_12 rfl (lv_at hl 0 rfl) ?_
    refine lv_iconst (v := nI 1) hx hb dX4_withBit_13 (by decide +kernel) ?_
    refine lv_iload_n hx hb dX4_withBit_14 rfl (lv_at hl 1 rfl) ?_
    refine lv_ishl hx hb dX4_withBit_15 ?_
    refine cs_i (y := nI (2 ^ j)) (nI_one_shl (by omega)) ?_
    refine lv_iconst (v := (-1)) hx hb dX4_withBit_16 (by decide +kernel) ?_
    refine lv_ixor hx hb dX4_withBit_17 ?_
    refine lv_iand hx hb dX4_withBit_18 ?_
    refine cs_i (y := nI (nd d (2 ^ j))) (nI_nd _ _) ?_
    exact cs_iret hx hb hr hlocks hK hP hD hS (v := nI (nd d (2 ^ j))) () (by rw [c_1]; rfl) (rfl) dX4_withBit_19
  · have c_1 := bI_n0 c_1
    refine lv_iload_n hx hb dX4_withBit_4 rfl (lv_at hl 0 rfl) ?_
    refine lv_iconst (v := nI 1) hx hb dX4_withBit_5 (by decide +kernel) ?_
    refine lv_iload_n hx hb dX4_withBit_6 rfl (lv_at hl 1 rfl) ?_
    refine lv_ishl hx hb dX4_withBit_7 ?_
    refine cs_i (y := nI (2 ^ j)) (nI_one_shl (by omega)) ?_
    refine lv_ior hx hb dX4_withBit_8 ?_
    refine cs_i (y := nI (d ||| (2 ^ j))) (fa_or _ _) ?_
    refine lv_goto (tgt := 19) hx hb dX4_withBit_9 (by decide) ?_
    exact cs_iret hx hb hr hlocks hK hP hD hS (v := nI (d ||| (2 ^ j))) () (by rw [c_1]; rfl) (rfl) dX4_withBit_19

set_option maxHeartbeats 4000000 in
set_option maxRecDepth 100000 in
theorem c_X4_mixed (l : Launch) (G : cG) (d x9 : Int64) : cML l G yX4_mixed wsX4_mixed ({ frames := 0, cells := 0, slots := 0, locals := 0 }) [.long d, .long x9] [] (fun (r_ : Int64) (_ : Unit) => r_ = d * 31 + x9) (fun (_ : Unit) => []) := by
  refine cs_sL (own := RX4) (cc := cX4_mixed) (maxL := 4) (ret := (some .long)) (by decide) rfl rfl (Nat.le_of_ble_eq_true rfl) ?_
  intro p e s m below meth c A hx hb hr hml hts hown hlocks hinit hA hK hP hD hS ls hl
  have hl : lv_has ls 4 [(0, .long d), (2, .long x9)] := hl
  refine lv_lload_n hx hb dX4_mixed_0 rfl (lv_at hl 0 rfl) ?_
  refine lv_ldc2 (v := (31)) hx hb hown (hts (.constantLong RX4 211 (31)) (List.mem_of_getElem? (i := 1) rfl)) dX4_mixed_1 ?_
  refine lv_lmul hx hb dX4_mixed_4 ?_
  refine lv_lload_n hx hb dX4_mixed_5 rfl (lv_at hl 1 rfl) ?_
  refine lv_ladd hx hb dX4_mixed_6 ?_
  exact cs_lret hx hb hr hlocks hK hP hD hS (v := (d * (31)) + x9) () (by first | rfl | assumption) (rfl) dX4_mixed_7

set_option maxRecDepth 100000 in
theorem in4_X4_isSpoiled : ∀ w ∈ wsX40, w ∈ wsX4_isSpoiled := by decide +kernel
set_option maxHeartbeats 4000000 in
set_option maxRecDepth 100000 in
theorem c_X4_isSpoiled (l : Launch) (G : cG) (x a b t q q1 kq al : Nat) (ka n : Nat) (k : Nat → Nat) (hn : n ≤ 24) (hk : ∀ j, j < n → k j < 16) (nb sb rc : Nat) (ne sp : Nat → Nat) (hrc : rc ≤ 6) (hne : ∀ j, j < 6 → ne j < 65536) (hsp : ∀ j, j < 6 → sp j < 65536) (d : Nat) (hd : d < 2 ^ 24) : cMI l G yX4_isSpoiled wsX4_isSpoiled ({ frames := 2, cells := 0, slots := 0, locals := 45 }) [.ref x, .int (nI d)] [(x, .inr (4, [.ref a, .ref b, .ref t, .ref q, .ref q1, .int (nI kq), .int (nI al)])), (a, .inr (0, [.ref ka, .int (nI n)])), (ka, .inl (G.2.1, 24, .inl (nF k))), (b, .inr (1, [.ref nb, .ref sb, .int (nI rc)])), (nb, .inl (G.2.1, 6, .inl (nF ne))), (sb, .inl (G.2.1, 6, .inl (nF sp)))] (fun (r_ : Int32) (_ : Unit) => r_ = bI (spl k ne sp n rc d)) (fun (_ : Unit) => [(x, .inr (4, [.ref a, .ref b, .ref t, .ref q, .ref q1, .int (nI kq), .int (nI al)])), (a, .inr (0, [.ref ka, .int (nI n)])), (ka, .inl (G.2.1, 24, .inl (nF k))), (b, .inr (1, [.ref nb, .ref sb, .int (nI rc)])), (nb, .inl (G.2.1, 6, .inl (nF ne))), (sb, .inl (G.2.1, 6, .inl (nF sp)))]) := by
  refine cs_sI (own := RX4) (cc := cX4_isSpoiled) (maxL := 2) (ret := (some .boolean)) (by decide) rfl rfl (Nat.le_of_ble_eq_true rfl) ?_
  intro p e s m below meth c A hx hb hr hml hts hown hlocks hinit hA hK hP hD hS ls hl
  have hin4 := in4_X4_isSpoiled
  have hl : lv_has ls 2 [(0, .ref x), (1, .int (nI d))] := hl
  refine lv_aload_n hx hb dX4_isSpoiled_0 rfl (lv_at hl 0 rfl) ?_
  refine va_get (D := G.1) (ci := 4) (v := .ref b) (C := RX4) (T := TX4) (N := 7) hx hb hts hin4 hown hK hP 0 rfl rfl 1 (by decide) (hts (.fieldLink RX4 19 "FaultShrinker" "rules" "LFaultShrinker$RuleBook;") (List.mem_of_getElem? (i := 1) rfl)) (fun _ h9 => h9) rfl dX4_isSpoiled_1 ?_
  refine lv_aload_n hx hb dX4_isSpoiled_4 rfl (lv_at hl 0 rfl) ?_
  refine va_get (D := G.1) (ci := 4) (v := .ref a) (C := RX4) (T := TX4) (N := 7) hx hb hts hin4 hown hK hP 0 rfl rfl 0 (by decide) (hts (.fieldLink RX4 10 "FaultShrinker" "recipe" "LFaultShrinker$Recipe;") (List.mem_of_getElem? (i := 2) rfl)) (fun _ h9 => h9) rfl dX4_isSpoiled_5 ?_
  refine lv_iload_n hx hb dX4_isSpoiled_8 rfl (lv_at hl 1 rfl) ?_
  refine cs_vi (As := [.int (nI d)]) (rest := [.ref b]) (wr := [(x, .inr (4, [.ref a, .ref b, .ref t, .ref q, .ref q1, .int (nI kq), .int (nI al)])), (b, .inr (1, [.ref nb, .ref sb, .int (nI rc)])), (nb, .inl (G.2.1, 6, .inl (nF ne))), (sb, .inl (G.2.1, 6, .inl (nF sp)))]) ⟨hx, hb, hml, hown, hts⟩ hK hP hD hS hA (c_X0_kindsOf l G a ka n k d (by first | assumption | omega) (by first | assumption | omega) (by first | assumption | omega)) (cwV 1 hts gX4_isSpoiled_X0_kindsOf rfl rfl rfl (by decide +kernel) ⟨Nat.le_of_ble_eq_true rfl, Nat.le_of_ble_eq_true rfl⟩) [1, 2] [0, 3, 4, 5] ⟨rfl, rfl, by decide, by decide, by decide⟩ 1 0 rfl rfl rfl hl.1 rfl (Nat.le_of_ble_eq_true rfl) ⟨Nat.le_of_ble_eq_true rfl, Nat.le_of_ble_eq_true rfl⟩ dX4_isSpoiled_9 (fun r u H locs hw hP hD hS => ?_)
  have hP : va_P G.1 vwCl [(x, .inr (4, [.ref a, .ref b, .ref t, .ref q, .ref q1, .int (nI kq), .int (nI al)])), (a, .inr (0, [.ref ka, .int (nI n)])), (ka, .inl (G.2.1, 24, .inl (nF k))), (b, .inr (1, [.ref nb, .ref sb, .int (nI rc)])), (nb, .inl (G.2.1, 6, .inl (nF ne))), (sb, .inl (G.2.1, 6, .inl (nF sp)))] H := hP.sub [0, 4, 5, 1, 2, 3] rfl
  have hD : va_D A [(x, .inr (4, [.ref a, .ref b, .ref t, .ref q, .ref q1, .int (nI kq), .int (nI al)])), (a, .inr (0, [.ref ka, .int (nI n)])), (ka, .inl (G.2.1, 24, .inl (nF k))), (b, .inr (1, [.ref nb, .ref sb, .int (nI rc)])), (nb, .inl (G.2.1, 6, .inl (nF ne))), (sb, .inl (G.2.1, 6, .inl (nF sp)))] := hD.sub [0, 4, 5, 1, 2, 3] (by decide) rfl
  subst hw
  refine cs_vi (As := [.int (nI (kds k d n))]) (rest := []) (wr := [(x, .inr (4, [.ref a, .ref b, .ref t, .ref q, .ref q1, .int (nI kq), .int (nI al)])), (a, .inr (0, [.ref ka, .int (nI n)])), (ka, .inl (G.2.1, 24, .inl (nF k)))]) ⟨hx, hb, hml, hown, hts⟩ hK hP hD hS hA (c_X1_holding l G b nb sb rc ne sp (by first | assumption | omega) (by first | assumption | omega) (by first | assumption | omega) (kds k d n) (kds_lt hk)) (cwV 1 hts gX4_isSpoiled_X1_holding rfl rfl rfl (by decide +kernel) ⟨Nat.le_of_ble_eq_true rfl, Nat.le_of_ble_eq_true rfl⟩) [3, 4, 5] [0, 1, 2] ⟨rfl, rfl, by decide, by decide, by decide⟩ 3 1 rfl rfl rfl hl.1 rfl (Nat.le_of_ble_eq_true rfl) ⟨Nat.le_of_ble_eq_true rfl, Nat.le_of_ble_eq_true rfl⟩ dX4_isSpoiled_12 (fun r u H locs hw hP hD hS => ?_)
  have hP : va_P G.1 vwCl [(x, .inr (4, [.ref a, .ref b, .ref t, .ref q, .ref q1, .int (nI kq), .int (nI al)])), (a, .inr (0, [.ref ka, .int (nI n)])), (ka, .inl (G.2.1, 24, .inl (nF k))), (b, .inr (1, [.ref nb, .ref sb, .int (nI rc)])), (nb, .inl (G.2.1, 6, .inl (nF ne))), (sb, .inl (G.2.1, 6, .inl (nF sp)))] H := hP.sub [0, 1, 2, 3, 4, 5] rfl
  have hD : va_D A [(x, .inr (4, [.ref a, .ref b, .ref t, .ref q, .ref q1, .int (nI kq), .int (nI al)])), (a, .inr (0, [.ref ka, .int (nI n)])), (ka, .inl (G.2.1, 24, .inl (nF k))), (b, .inr (1, [.ref nb, .ref sb, .int (nI rc)])), (nb, .inl (G.2.1, 6, .inl (nF ne))), (sb, .inl (G.2.1, 6, .inl (nF sp)))] := hD.sub [0, 1, 2, 3, 4, 5] (by decide) rfl
  subst hw
  have hcl := hcn_le ne sp (kds k d n) rc
  refine lv_if_le (tgt := 22) hx hb dX4_isSpoiled_15 (by decide) (fun c_15 => ?_) (fun c_15 => ?_)
  · have c_15 := (nI_le0 (by omega)).mp c_15
    refine lv_iconst (v := nI 0) hx hb dX4_isSpoiled_22 (by decide +kernel) ?_
    exact cs_zret hx hb hr hlocks hK hP hD hS (v := nI 0) (rfl) () (by unfold spl; first | (rw [decide_eq_true (Nat.lt_of_not_le c_15)]; rfl) | (rw [decide_eq_false (Nat.not_lt.mpr c_15)]; rfl)) (rfl) dX4_isSpoiled_23
  · have c_15 := mt (nI_le0 (by omega)).mpr c_15
    refine lv_iconst (v := nI 1) hx hb dX4_isSpoiled_18 (by decide +kernel) ?_
    refine lv_goto (tgt := 23) hx hb dX4_isSpoiled_19 (by decide) ?_
    exact cs_zret hx hb hr hlocks hK hP hD hS (v := nI 1) (rfl) () (by unfold spl; first | (rw [decide_eq_true (Nat.lt_of_not_le c_15)]; rfl) | (rw [decide_eq_false (Nat.not_lt.mpr c_15)]; rfl)) (rfl) dX4_isSpoiled_23

set_option maxRecDepth 100000 in
theorem in4_X4_countFact : ∀ w ∈ wsX40, w ∈ wsX4_countFact := by decide +kernel
set_option maxHeartbeats 4000000 in
set_option maxRecDepth 100000 in
theorem c_X4_countFact (l : Launch) (G : cG) (x a b t q q1 kq al : Nat) (ka n : Nat) (k : Nat → Nat) (hn : n ≤ 24) (hk : ∀ j, j < n → k j < 16) (nb sb rc : Nat) (ne sp : Nat → Nat) (hrc : rc ≤ 6) (hne : ∀ j, j < 6 → ne j < 65536) (hsp : ∀ j, j < 6 → sp j < 65536) (fa fp dd pp st ts : Nat) (fx : Nat → Int32) (g : Nat → Nat) (hdd : dd < 2 ^ 24) (w : Nat) (hw : w < 7) : cMI l G yX4_countFact wsX4_countFact ({ frames := 2, cells := 0, slots := 0, locals := 45 }) [.ref x, .int (nI w)] [(x, .inr (4, [.ref a, .ref b, .ref t, .ref q, .ref q1, .int (nI kq), .int (nI al)])), (a, .inr (0, [.ref ka, .int (nI n)])), (ka, .inl (G.2.1, 24, .inl (nF k))), (b, .inr (1, [.ref nb, .ref sb, .int (nI rc)])), (nb, .inl (G.2.1, 6, .inl (nF ne))), (sb, .inl (G.2.1, 6, .inl (nF sp))), (q, .inr (2, [.ref fa, .ref fp, .int (nI dd), .int (nI pp), .int (nI st), .int (nI ts)])), (fa, .inl (G.2.1, 640, .inl fx)), (fp, .inl (G.2.1, 25, .inl (nF g)))] (fun (r_ : Int32) (_ : Unit) => r_ = nI (cfc k ne sp n rc dd st ts al w)) (fun (_ : Unit) => [(x, .inr (4, [.ref a, .ref b, .ref t, .ref q, .ref q1, .int (nI kq), .int (nI al)])), (a, .inr (0, [.ref ka, .int (nI n)])), (ka, .inl (G.2.1, 24, .inl (nF k))), (b, .inr (1, [.ref nb, .ref sb, .int (nI rc)])), (nb, .inl (G.2.1, 6, .inl (nF ne))), (sb, .inl (G.2.1, 6, .inl (nF sp))), (q, .inr (2, [.ref fa, .ref fp, .int (nI dd), .int (nI pp), .int (nI st), .int (nI ts)])), (fa, .inl (G.2.1, 640, .inl fx)), (fp, .inl (G.2.1, 25, .inl (nF g)))]) := by
  refine cs_sI (own := RX4) (cc := cX4_countFact) (maxL := 2) (ret := (some .int)) (by decide) rfl rfl (Nat.le_of_ble_eq_true rfl) ?_
  intro p e s m below meth c A hx hb hr hml hts hown hlocks hinit hA hK hP hD hS ls hl
  have hin4 := in4_X4_countFact
  have hl : lv_has ls 2 [(0, .ref x), (1, .int (nI w))] := hl
  have hp24 := two_pow24 hn
  have hkk9 : kds k (2 ^ n - 1) n < 65536 := kds_lt hk
  refine lv_iload_n hx hb dX4_countFact_0 rfl (lv_at hl 1 rfl) ?_
  by_cases cw_0 : w = 0
  · subst cw_0
    refine lv_tableIn (off := 39) (tgt := 40) hx hb dX4_countFact_1 (by decide +kernel) (by decide +kernel) (by decide +kernel) (by decide +kernel) ?_
    refine lv_aload_n hx hb dX4_countFact_40 rfl (lv_at hl 0 rfl) ?_
    refine va_get (D := G.1) (ci := 4) (v := .ref a) (C := RX4) (T := TX4) (N := 7) hx hb hts hin4 hown hK hP 0 rfl rfl 0 (by decide) (hts (.fieldLink RX4 10 "FaultShrinker" "recipe" "LFaultShrinker$Recipe;") (List.mem_of_getElem? (i := 1) rfl)) (fun _ h9 => h9) rfl dX4_countFact_41 ?_
    refine cs_vi (As := []) (rest := []) (wr := [(x, .inr (4, [.ref a, .ref b, .ref t, .ref q, .ref q1, .int (nI kq), .int (nI al)])), (b, .inr (1, [.ref nb, .ref sb, .int (nI rc)])), (nb, .inl (G.2.1, 6, .inl (nF ne))), (sb, .inl (G.2.1, 6, .inl (nF sp))), (q, .inr (2, [.ref fa, .ref fp, .int (nI dd), .int (nI pp), .int (nI st), .int (nI ts)])), (fa, .inl (G.2.1, 640, .inl fx)), (fp, .inl (G.2.1, 25, .inl (nF g)))]) ⟨hx, hb, hml, hown, hts⟩ hK hP hD hS hA (c_X0_size l G a ka n k (by first | assumption | omega)) (cwV 0 hts gX4_countFact_X0_size rfl rfl rfl (by decide +kernel) ⟨Nat.le_of_ble_eq_true rfl, Nat.le_of_ble_eq_true rfl⟩) [1, 2] [0, 3, 4, 5, 6, 7, 8] ⟨rfl, rfl, by decide, by decide, by decide⟩ 1 0 rfl rfl rfl hl.1 rfl (Nat.le_of_ble_eq_true rfl) ⟨Nat.le_of_ble_eq_true rfl, Nat.le_of_ble_eq_true rfl⟩ dX4_countFact_44 (fun r u H locs hw hP hD hS => ?_)
    have hP : va_P G.1 vwCl [(x, .inr (4, [.ref a, .ref b, .ref t, .ref q, .ref q1, .int (nI kq), .int (nI al)])), (a, .inr (0, [.ref ka, .int (nI n)])), (ka, .inl (G.2.1, 24, .inl (nF k))), (b, .inr (1, [.ref nb, .ref sb, .int (nI rc)])), (nb, .inl (G.2.1, 6, .inl (nF ne))), (sb, .inl (G.2.1, 6, .inl (nF sp))), (q, .inr (2, [.ref fa, .ref fp, .int (nI dd), .int (nI pp), .int (nI st), .int (nI ts)])), (fa, .inl (G.2.1, 640, .inl fx)), (fp, .inl (G.2.1, 25, .inl (nF g)))] H := hP.sub [0, 7, 8, 1, 2, 3, 4, 5, 6] rfl
    have hD : va_D A [(x, .inr (4, [.ref a, .ref b, .ref t, .ref q, .ref q1, .int (nI kq), .int (nI al)])), (a, .inr (0, [.ref ka, .int (nI n)])), (ka, .inl (G.2.1, 24, .inl (nF k))), (b, .inr (1, [.ref nb, .ref sb, .int (nI rc)])), (nb, .inl (G.2.1, 6, .inl (nF ne))), (sb, .inl (G.2.1, 6, .inl (nF sp))), (q, .inr (2, [.ref fa, .ref fp, .int (nI dd), .int (nI pp), .int (nI st), .int (nI ts)])), (fa, .inl (G.2.1, 640, .inl fx)), (fp, .inl (G.2.1, 25, .inl (nF g)))] := hD.sub [0, 7, 8, 1, 2, 3, 4, 5, 6] (by decide) rfl
    subst hw
    exact cs_iret hx hb hr hlocks hK hP hD hS (v := nI n) () (rfl) (rfl) dX4_countFact_47
  by_cases cw_1 : w = 1
  · subst cw_1
    refine lv_tableIn (off := 47) (tgt := 48) hx hb dX4_countFact_1 (by decide +kernel) (by decide +kernel) (by decide +kernel) (by decide +kernel) ?_
    refine lv_aload_n hx hb dX4_countFact_48 rfl (lv_at hl 0 rfl) ?_
    refine va_get (D := G.1) (ci := 4) (v := .ref b) (C := RX4) (T := TX4) (N := 7) hx hb hts hin4 hown hK hP 0 rfl rfl 1 (by decide) (hts (.fieldLink RX4 19 "FaultShrinker" "rules" "LFaultShrinker$RuleBook;") (List.mem_of_getElem? (i := 2) rfl)) (fun _ h9 => h9) rfl dX4_countFact_49 ?_
    refine cs_vi (As := []) (rest := []) (wr := [(x, .inr (4, [.ref a, .ref b, .ref t, .ref q, .ref q1, .int (nI kq), .int (nI al)])), (a, .inr (0, [.ref ka, .int (nI n)])), (ka, .inl (G.2.1, 24, .inl (nF k))), (q, .inr (2, [.ref fa, .ref fp, .int (nI dd), .int (nI pp), .int (nI st), .int (nI ts)])), (fa, .inl (G.2.1, 640, .inl fx)), (fp, .inl (G.2.1, 25, .inl (nF g)))]) ⟨hx, hb, hml, hown, hts⟩ hK hP hD hS hA (c_X1_size l G b nb sb rc ne sp (by first | assumption | omega)) (cwV 0 hts gX4_countFact_X1_size rfl rfl rfl (by decide +kernel) ⟨Nat.le_of_ble_eq_true rfl, Nat.le_of_ble_eq_true rfl⟩) [3, 4, 5] [0, 1, 2, 6, 7, 8] ⟨rfl, rfl, by decide, by decide, by decide⟩ 3 1 rfl rfl rfl hl.1 rfl (Nat.le_of_ble_eq_true rfl) ⟨Nat.le_of_ble_eq_true rfl, Nat.le_of_ble_eq_true rfl⟩ dX4_countFact_52 (fun r u H locs hw hP hD hS => ?_)
    have hP : va_P G.1 vwCl [(x, .inr (4, [.ref a, .ref b, .ref t, .ref q, .ref q1, .int (nI kq), .int (nI al)])), (a, .inr (0, [.ref ka, .int (nI n)])), (ka, .inl (G.2.1, 24, .inl (nF k))), (b, .inr (1, [.ref nb, .ref sb, .int (nI rc)])), (nb, .inl (G.2.1, 6, .inl (nF ne))), (sb, .inl (G.2.1, 6, .inl (nF sp))), (q, .inr (2, [.ref fa, .ref fp, .int (nI dd), .int (nI pp), .int (nI st), .int (nI ts)])), (fa, .inl (G.2.1, 640, .inl fx)), (fp, .inl (G.2.1, 25, .inl (nF g)))] H := hP.sub [0, 1, 2, 6, 7, 8, 3, 4, 5] rfl
    have hD : va_D A [(x, .inr (4, [.ref a, .ref b, .ref t, .ref q, .ref q1, .int (nI kq), .int (nI al)])), (a, .inr (0, [.ref ka, .int (nI n)])), (ka, .inl (G.2.1, 24, .inl (nF k))), (b, .inr (1, [.ref nb, .ref sb, .int (nI rc)])), (nb, .inl (G.2.1, 6, .inl (nF ne))), (sb, .inl (G.2.1, 6, .inl (nF sp))), (q, .inr (2, [.ref fa, .ref fp, .int (nI dd), .int (nI pp), .int (nI st), .int (nI ts)])), (fa, .inl (G.2.1, 640, .inl fx)), (fp, .inl (G.2.1, 25, .inl (nF g)))] := hD.sub [0, 1, 2, 6, 7, 8, 3, 4, 5] (by decide) rfl
    subst hw
    exact cs_iret hx hb hr hlocks hK hP hD hS (v := nI rc) () (rfl) (rfl) dX4_countFact_55
  by_cases cw_2 : w = 2
  · subst cw_2
    refine lv_tableIn (off := 55) (tgt := 56) hx hb dX4_countFact_1 (by decide +kernel) (by decide +kernel) (by decide +kernel) (by decide +kernel) ?_
    refine lv_aload_n hx hb dX4_countFact_56 rfl (lv_at hl 0 rfl) ?_
    refine va_get (D := G.1) (ci := 4) (v := .ref b) (C := RX4) (T := TX4) (N := 7) hx hb hts hin4 hown hK hP 0 rfl rfl 1 (by decide) (hts (.fieldLink RX4 19 "FaultShrinker" "rules" "LFaultShrinker$RuleBook;") (List.mem_of_getElem? (i := 2) rfl)) (fun _ h9 => h9) rfl dX4_countFact_57 ?_
    refine lv_aload_n hx hb dX4_countFact_60 rfl (lv_at hl 0 rfl) ?_
    refine va_get (D := G.1) (ci := 4) (v := .ref a) (C := RX4) (T := TX4) (N := 7) hx hb hts hin4 hown hK hP 0 rfl rfl 0 (by decide) (hts (.fieldLink RX4 10 "FaultShrinker" "recipe" "LFaultShrinker$Recipe;") (List.mem_of_getElem? (i := 1) rfl)) (fun _ h9 => h9) rfl dX4_countFact_61 ?_
    refine lv_aload_n hx hb dX4_countFact_64 rfl (lv_at hl 0 rfl) ?_
    refine va_get (D := G.1) (ci := 4) (v := .ref a) (C := RX4) (T := TX4) (N := 7) hx hb hts hin4 hown hK hP 0 rfl rfl 0 (by decide) (hts (.fieldLink RX4 10 "FaultShrinker" "recipe" "LFaultShrinker$Recipe;") (List.mem_of_getElem? (i := 1) rfl)) (fun _ h9 => h9) rfl dX4_countFact_65 ?_
    refine cs_vi (As := []) (rest := [.ref a, .ref b]) (wr := [(x, .inr (4, [.ref a, .ref b, .ref t, .ref q, .ref q1, .int (nI kq), .int (nI al)])), (b, .inr (1, [.ref nb, .ref sb, .int (nI rc)])), (nb, .inl (G.2.1, 6, .inl (nF ne))), (sb, .inl (G.2.1, 6, .inl (nF sp))), (q, .inr (2, [.ref fa, .ref fp, .int (nI dd), .int (nI pp), .int (nI st), .int (nI ts)])), (fa, .inl (G.2.1, 640, .inl fx)), (fp, .inl (G.2.1, 25, .inl (nF g)))]) ⟨hx, hb, hml, hown, hts⟩ hK hP hD hS hA (c_X0_wholeDish l G a ka n k (by first | assumption | omega)) (cwV 0 hts gX4_countFact_X0_wholeDish rfl rfl rfl (by decide +kernel) ⟨Nat.le_of_ble_eq_true rfl, Nat.le_of_ble_eq_true rfl⟩) [1, 2] [0, 3, 4, 5, 6, 7, 8] ⟨rfl, rfl, by decide, by decide, by decide⟩ 1 0 rfl rfl rfl hl.1 rfl (Nat.le_of_ble_eq_true rfl) ⟨Nat.le_of_ble_eq_true rfl, Nat.le_of_ble_eq_true rfl⟩ dX4_countFact_68 (fun r u H locs hw hP hD hS => ?_)
    have hP : va_P G.1 vwCl [(x, .inr (4, [.ref a, .ref b, .ref t, .ref q, .ref q1, .int (nI kq), .int (nI al)])), (a, .inr (0, [.ref ka, .int (nI n)])), (ka, .inl (G.2.1, 24, .inl (nF k))), (b, .inr (1, [.ref nb, .ref sb, .int (nI rc)])), (nb, .inl (G.2.1, 6, .inl (nF ne))), (sb, .inl (G.2.1, 6, .inl (nF sp))), (q, .inr (2, [.ref fa, .ref fp, .int (nI dd), .int (nI pp), .int (nI st), .int (nI ts)])), (fa, .inl (G.2.1, 640, .inl fx)), (fp, .inl (G.2.1, 25, .inl (nF g)))] H := hP.sub [0, 7, 8, 1, 2, 3, 4, 5, 6] rfl
    have hD : va_D A [(x, .inr (4, [.ref a, .ref b, .ref t, .ref q, .ref q1, .int (nI kq), .int (nI al)])), (a, .inr (0, [.ref ka, .int (nI n)])), (ka, .inl (G.2.1, 24, .inl (nF k))), (b, .inr (1, [.ref nb, .ref sb, .int (nI rc)])), (nb, .inl (G.2.1, 6, .inl (nF ne))), (sb, .inl (G.2.1, 6, .inl (nF sp))), (q, .inr (2, [.ref fa, .ref fp, .int (nI dd), .int (nI pp), .int (nI st), .int (nI ts)])), (fa, .inl (G.2.1, 640, .inl fx)), (fp, .inl (G.2.1, 25, .inl (nF g)))] := hD.sub [0, 7, 8, 1, 2, 3, 4, 5, 6] (by decide) rfl
    subst hw
    refine cs_vi (As := [.int (nI (2 ^ n - 1))]) (rest := [.ref b]) (wr := [(x, .inr (4, [.ref a, .ref b, .ref t, .ref q, .ref q1, .int (nI kq), .int (nI al)])), (b, .inr (1, [.ref nb, .ref sb, .int (nI rc)])), (nb, .inl (G.2.1, 6, .inl (nF ne))), (sb, .inl (G.2.1, 6, .inl (nF sp))), (q, .inr (2, [.ref fa, .ref fp, .int (nI dd), .int (nI pp), .int (nI st), .int (nI ts)])), (fa, .inl (G.2.1, 640, .inl fx)), (fp, .inl (G.2.1, 25, .inl (nF g)))]) ⟨hx, hb, hml, hown, hts⟩ hK hP hD hS hA (c_X0_kindsOf l G a ka n k (2 ^ n - 1) (by first | assumption | omega) (by first | assumption | omega) (by first | assumption | omega)) (cwV 1 hts gX4_countFact_X0_kindsOf rfl rfl rfl (by decide +kernel) ⟨Nat.le_of_ble_eq_true rfl, Nat.le_of_ble_eq_true rfl⟩) [1, 2] [0, 3, 4, 5, 6, 7, 8] ⟨rfl, rfl, by decide, by decide, by decide⟩ 1 0 rfl rfl rfl hl.1 rfl (Nat.le_of_ble_eq_true rfl) ⟨Nat.le_of_ble_eq_true rfl, Nat.le_of_ble_eq_true rfl⟩ dX4_countFact_71 (fun r u H locs hw hP hD hS => ?_)
    have hP : va_P G.1 vwCl [(x, .inr (4, [.ref a, .ref b, .ref t, .ref q, .ref q1, .int (nI kq), .int (nI al)])), (a, .inr (0, [.ref ka, .int (nI n)])), (ka, .inl (G.2.1, 24, .inl (nF k))), (b, .inr (1, [.ref nb, .ref sb, .int (nI rc)])), (nb, .inl (G.2.1, 6, .inl (nF ne))), (sb, .inl (G.2.1, 6, .inl (nF sp))), (q, .inr (2, [.ref fa, .ref fp, .int (nI dd), .int (nI pp), .int (nI st), .int (nI ts)])), (fa, .inl (G.2.1, 640, .inl fx)), (fp, .inl (G.2.1, 25, .inl (nF g)))] H := hP.sub [0, 7, 8, 1, 2, 3, 4, 5, 6] rfl
    have hD : va_D A [(x, .inr (4, [.ref a, .ref b, .ref t, .ref q, .ref q1, .int (nI kq), .int (nI al)])), (a, .inr (0, [.ref ka, .int (nI n)])), (ka, .inl (G.2.1, 24, .inl (nF k))), (b, .inr (1, [.ref nb, .ref sb, .int (nI rc)])), (nb, .inl (G.2.1, 6, .inl (nF ne))), (sb, .inl (G.2.1, 6, .inl (nF sp))), (q, .inr (2, [.ref fa, .ref fp, .int (nI dd), .int (nI pp), .int (nI st), .int (nI ts)])), (fa, .inl (G.2.1, 640, .inl fx)), (fp, .inl (G.2.1, 25, .inl (nF g)))] := hD.sub [0, 7, 8, 1, 2, 3, 4, 5, 6] (by decide) rfl
    subst hw
    refine cs_vi (As := [.int (nI (kds k (2 ^ n - 1) n))]) (rest := []) (wr := [(x, .inr (4, [.ref a, .ref b, .ref t, .ref q, .ref q1, .int (nI kq), .int (nI al)])), (a, .inr (0, [.ref ka, .int (nI n)])), (ka, .inl (G.2.1, 24, .inl (nF k))), (q, .inr (2, [.ref fa, .ref fp, .int (nI dd), .int (nI pp), .int (nI st), .int (nI ts)])), (fa, .inl (G.2.1, 640, .inl fx)), (fp, .inl (G.2.1, 25, .inl (nF g)))]) ⟨hx, hb, hml, hown, hts⟩ hK hP hD hS hA (c_X1_holding l G b nb sb rc ne sp (by first | assumption | omega) (by first | assumption | omega) (by first | assumption | omega) (kds k (2 ^ n - 1) n) (by first | assumption | omega)) (cwV 1 hts gX4_countFact_X1_holding rfl rfl rfl (by decide +kernel) ⟨Nat.le_of_ble_eq_true rfl, Nat.le_of_ble_eq_true rfl⟩) [3, 4, 5] [0, 1, 2, 6, 7, 8] ⟨rfl, rfl, by decide, by decide, by decide⟩ 3 1 rfl rfl rfl hl.1 rfl (Nat.le_of_ble_eq_true rfl) ⟨Nat.le_of_ble_eq_true rfl, Nat.le_of_ble_eq_true rfl⟩ dX4_countFact_74 (fun r u H locs hw hP hD hS => ?_)
    have hP : va_P G.1 vwCl [(x, .inr (4, [.ref a, .ref b, .ref t, .ref q, .ref q1, .int (nI kq), .int (nI al)])), (a, .inr (0, [.ref ka, .int (nI n)])), (ka, .inl (G.2.1, 24, .inl (nF k))), (b, .inr (1, [.ref nb, .ref sb, .int (nI rc)])), (nb, .inl (G.2.1, 6, .inl (nF ne))), (sb, .inl (G.2.1, 6, .inl (nF sp))), (q, .inr (2, [.ref fa, .ref fp, .int (nI dd), .int (nI pp), .int (nI st), .int (nI ts)])), (fa, .inl (G.2.1, 640, .inl fx)), (fp, .inl (G.2.1, 25, .inl (nF g)))] H := hP.sub [0, 1, 2, 6, 7, 8, 3, 4, 5] rfl
    have hD : va_D A [(x, .inr (4, [.ref a, .ref b, .ref t, .ref q, .ref q1, .int (nI kq), .int (nI al)])), (a, .inr (0, [.ref ka, .int (nI n)])), (ka, .inl (G.2.1, 24, .inl (nF k))), (b, .inr (1, [.ref nb, .ref sb, .int (nI rc)])), (nb, .inl (G.2.1, 6, .inl (nF ne))), (sb, .inl (G.2.1, 6, .inl (nF sp))), (q, .inr (2, [.ref fa, .ref fp, .int (nI dd), .int (nI pp), .int (nI st), .int (nI ts)])), (fa, .inl (G.2.1, 640, .inl fx)), (fp, .inl (G.2.1, 25, .inl (nF g)))] := hD.sub [0, 1, 2, 6, 7, 8, 3, 4, 5] (by decide) rfl
    subst hw
    exact cs_iret hx hb hr hlocks hK hP hD hS (v := nI (hcn ne sp (kds k (2 ^ n - 1) n) rc)) () (rfl) (rfl) dX4_countFact_77
  by_cases cw_3 : w = 3
  · subst cw_3
    refine lv_tableIn (off := 77) (tgt := 78) hx hb dX4_countFact_1 (by decide +kernel) (by decide +kernel) (by decide +kernel) (by decide +kernel) ?_
    refine lv_aload_n hx hb dX4_countFact_78 rfl (lv_at hl 0 rfl) ?_
    refine va_get (D := G.1) (ci := 4) (v := .ref q) (C := RX4) (T := TX4) (N := 7) hx hb hts hin4 hown hK hP 0 rfl rfl 3 (by decide) (hts (.fieldLink RX4 35 "FaultShrinker" "keptSearch" "LFaultShrinker$Search;") (List.mem_of_getElem? (i := 3) rfl)) (fun _ h9 => h9) rfl dX4_countFact_79 ?_
    refine cs_vi (As := []) (rest := []) (wr := [(x, .inr (4, [.ref a, .ref b, .ref t, .ref q, .ref q1, .int (nI kq), .int (nI al)])), (a, .inr (0, [.ref ka, .int (nI n)])), (ka, .inl (G.2.1, 24, .inl (nF k))), (b, .inr (1, [.ref nb, .ref sb, .int (nI rc)])), (nb, .inl (G.2.1, 6, .inl (nF ne))), (sb, .inl (G.2.1, 6, .inl (nF sp)))]) ⟨hx, hb, hml, hown, hts⟩ hK hP hD hS hA (c_X2_listSize l G q fa fp dd pp st ts fx g (by first | assumption | omega)) (cwV 0 hts gX4_countFact_X2_listSize rfl rfl rfl (by decide +kernel) ⟨Nat.le_of_ble_eq_true rfl, Nat.le_of_ble_eq_true rfl⟩) [6, 7, 8] [0, 1, 2, 3, 4, 5] ⟨rfl, rfl, by decide, by decide, by decide⟩ 6 2 rfl rfl rfl hl.1 rfl (Nat.le_of_ble_eq_true rfl) ⟨Nat.le_of_ble_eq_true rfl, Nat.le_of_ble_eq_true rfl⟩ dX4_countFact_82 (fun r u H locs hw hP hD hS => ?_)
    have hP : va_P G.1 vwCl [(x, .inr (4, [.ref a, .ref b, .ref t, .ref q, .ref q1, .int (nI kq), .int (nI al)])), (a, .inr (0, [.ref ka, .int (nI n)])), (ka, .inl (G.2.1, 24, .inl (nF k))), (b, .inr (1, [.ref nb, .ref sb, .int (nI rc)])), (nb, .inl (G.2.1, 6, .inl (nF ne))), (sb, .inl (G.2.1, 6, .inl (nF sp))), (q, .inr (2, [.ref fa, .ref fp, .int (nI dd), .int (nI pp), .int (nI st), .int (nI ts)])), (fa, .inl (G.2.1, 640, .inl fx)), (fp, .inl (G.2.1, 25, .inl (nF g)))] H := hP.sub [0, 1, 2, 3, 4, 5, 6, 7, 8] rfl
    have hD : va_D A [(x, .inr (4, [.ref a, .ref b, .ref t, .ref q, .ref q1, .int (nI kq), .int (nI al)])), (a, .inr (0, [.ref ka, .int (nI n)])), (ka, .inl (G.2.1, 24, .inl (nF k))), (b, .inr (1, [.ref nb, .ref sb, .int (nI rc)])), (nb, .inl (G.2.1, 6, .inl (nF ne))), (sb, .inl (G.2.1, 6, .inl (nF sp))), (q, .inr (2, [.ref fa, .ref fp, .int (nI dd), .int (nI pp), .int (nI st), .int (nI ts)])), (fa, .inl (G.2.1, 640, .inl fx)), (fp, .inl (G.2.1, 25, .inl (nF g)))] := hD.sub [0, 1, 2, 3, 4, 5, 6, 7, 8] (by decide) rfl
    subst hw
    exact cs_iret hx hb hr hlocks hK hP hD hS (v := nI (cnt dd 24)) () (rfl) (rfl) dX4_countFact_85
  by_cases cw_4 : w = 4
  · subst cw_4
    refine lv_tableIn (off := 85) (tgt := 86) hx hb dX4_countFact_1 (by decide +kernel) (by decide +kernel) (by decide +kernel) (by decide +kernel) ?_
    refine lv_aload_n hx hb dX4_countFact_86 rfl (lv_at hl 0 rfl) ?_
    refine va_get (D := G.1) (ci := 4) (v := .ref q) (C := RX4) (T := TX4) (N := 7) hx hb hts hin4 hown hK hP 0 rfl rfl 3 (by decide) (hts (.fieldLink RX4 35 "FaultShrinker" "keptSearch" "LFaultShrinker$Search;") (List.mem_of_getElem? (i := 3) rfl)) (fun _ h9 => h9) rfl dX4_countFact_87 ?_
    refine cs_vi (As := []) (rest := []) (wr := [(x, .inr (4, [.ref a, .ref b, .ref t, .ref q, .ref q1, .int (nI kq), .int (nI al)])), (a, .inr (0, [.ref ka, .int (nI n)])), (ka, .inl (G.2.1, 24, .inl (nF k))), (b, .inr (1, [.ref nb, .ref sb, .int (nI rc)])), (nb, .inl (G.2.1, 6, .inl (nF ne))), (sb, .inl (G.2.1, 6, .inl (nF sp)))]) ⟨hx, hb, hml, hown, hts⟩ hK hP hD hS hA (c_X2_steps l G q fa fp dd pp st ts fx g) (cwV 0 hts gX4_countFact_X2_steps rfl rfl rfl (by decide +kernel) ⟨Nat.le_of_ble_eq_true rfl, Nat.le_of_ble_eq_true rfl⟩) [6, 7, 8] [0, 1, 2, 3, 4, 5] ⟨rfl, rfl, by decide, by decide, by decide⟩ 6 2 rfl rfl rfl hl.1 rfl (Nat.le_of_ble_eq_true rfl) ⟨Nat.le_of_ble_eq_true rfl, Nat.le_of_ble_eq_true rfl⟩ dX4_countFact_90 (fun r u H locs hw hP hD hS => ?_)
    have hP : va_P G.1 vwCl [(x, .inr (4, [.ref a, .ref b, .ref t, .ref q, .ref q1, .int (nI kq), .int (nI al)])), (a, .inr (0, [.ref ka, .int (nI n)])), (ka, .inl (G.2.1, 24, .inl (nF k))), (b, .inr (1, [.ref nb, .ref sb, .int (nI rc)])), (nb, .inl (G.2.1, 6, .inl (nF ne))), (sb, .inl (G.2.1, 6, .inl (nF sp))), (q, .inr (2, [.ref fa, .ref fp, .int (nI dd), .int (nI pp), .int (nI st), .int (nI ts)])), (fa, .inl (G.2.1, 640, .inl fx)), (fp, .inl (G.2.1, 25, .inl (nF g)))] H := hP.sub [0, 1, 2, 3, 4, 5, 6, 7, 8] rfl
    have hD : va_D A [(x, .inr (4, [.ref a, .ref b, .ref t, .ref q, .ref q1, .int (nI kq), .int (nI al)])), (a, .inr (0, [.ref ka, .int (nI n)])), (ka, .inl (G.2.1, 24, .inl (nF k))), (b, .inr (1, [.ref nb, .ref sb, .int (nI rc)])), (nb, .inl (G.2.1, 6, .inl (nF ne))), (sb, .inl (G.2.1, 6, .inl (nF sp))), (q, .inr (2, [.ref fa, .ref fp, .int (nI dd), .int (nI pp), .int (nI st), .int (nI ts)])), (fa, .inl (G.2.1, 640, .inl fx)), (fp, .inl (G.2.1, 25, .inl (nF g)))] := hD.sub [0, 1, 2, 3, 4, 5, 6, 7, 8] (by decide) rfl
    subst hw
    exact cs_iret hx hb hr hlocks hK hP hD hS (v := nI st) () (rfl) (rfl) dX4_countFact_93
  by_cases cw_5 : w = 5
  · subst cw_5
    refine lv_tableIn (off := 93) (tgt := 94) hx hb dX4_countFact_1 (by decide +kernel) (by decide +kernel) (by decide +kernel) (by decide +kernel) ?_
    refine lv_aload_n hx hb dX4_countFact_94 rfl (lv_at hl 0 rfl) ?_
    refine va_get (D := G.1) (ci := 4) (v := .ref q) (C := RX4) (T := TX4) (N := 7) hx hb hts hin4 hown hK hP 0 rfl rfl 3 (by decide) (hts (.fieldLink RX4 35 "FaultShrinker" "keptSearch" "LFaultShrinker$Search;") (List.mem_of_getElem? (i := 3) rfl)) (fun _ h9 => h9) rfl dX4_countFact_95 ?_
    refine cs_vi (As := []) (rest := []) (wr := [(x, .inr (4, [.ref a, .ref b, .ref t, .ref q, .ref q1, .int (nI kq), .int (nI al)])), (a, .inr (0, [.ref ka, .int (nI n)])), (ka, .inl (G.2.1, 24, .inl (nF k))), (b, .inr (1, [.ref nb, .ref sb, .int (nI rc)])), (nb, .inl (G.2.1, 6, .inl (nF ne))), (sb, .inl (G.2.1, 6, .inl (nF sp)))]) ⟨hx, hb, hml, hown, hts⟩ hK hP hD hS hA (c_X2_tastings l G q fa fp dd pp st ts fx g) (cwV 0 hts gX4_countFact_X2_tastings rfl rfl rfl (by decide +kernel) ⟨Nat.le_of_ble_eq_true rfl, Nat.le_of_ble_eq_true rfl⟩) [6, 7, 8] [0, 1, 2, 3, 4, 5] ⟨rfl, rfl, by decide, by decide, by decide⟩ 6 2 rfl rfl rfl hl.1 rfl (Nat.le_of_ble_eq_true rfl) ⟨Nat.le_of_ble_eq_true rfl, Nat.le_of_ble_eq_true rfl⟩ dX4_countFact_98 (fun r u H locs hw hP hD hS => ?_)
    have hP : va_P G.1 vwCl [(x, .inr (4, [.ref a, .ref b, .ref t, .ref q, .ref q1, .int (nI kq), .int (nI al)])), (a, .inr (0, [.ref ka, .int (nI n)])), (ka, .inl (G.2.1, 24, .inl (nF k))), (b, .inr (1, [.ref nb, .ref sb, .int (nI rc)])), (nb, .inl (G.2.1, 6, .inl (nF ne))), (sb, .inl (G.2.1, 6, .inl (nF sp))), (q, .inr (2, [.ref fa, .ref fp, .int (nI dd), .int (nI pp), .int (nI st), .int (nI ts)])), (fa, .inl (G.2.1, 640, .inl fx)), (fp, .inl (G.2.1, 25, .inl (nF g)))] H := hP.sub [0, 1, 2, 3, 4, 5, 6, 7, 8] rfl
    have hD : va_D A [(x, .inr (4, [.ref a, .ref b, .ref t, .ref q, .ref q1, .int (nI kq), .int (nI al)])), (a, .inr (0, [.ref ka, .int (nI n)])), (ka, .inl (G.2.1, 24, .inl (nF k))), (b, .inr (1, [.ref nb, .ref sb, .int (nI rc)])), (nb, .inl (G.2.1, 6, .inl (nF ne))), (sb, .inl (G.2.1, 6, .inl (nF sp))), (q, .inr (2, [.ref fa, .ref fp, .int (nI dd), .int (nI pp), .int (nI st), .int (nI ts)])), (fa, .inl (G.2.1, 640, .inl fx)), (fp, .inl (G.2.1, 25, .inl (nF g)))] := hD.sub [0, 1, 2, 3, 4, 5, 6, 7, 8] (by decide) rfl
    subst hw
    exact cs_iret hx hb hr hlocks hK hP hD hS (v := nI ts) () (rfl) (rfl) dX4_countFact_101
  refine lv_tableOut (tgt := 102) hx hb dX4_countFact_1 (Or.inr (by rw [nI_toInt (by omega)]; omega)) (by decide +kernel) ?_
  refine lv_aload_n hx hb dX4_countFact_102 rfl (lv_at hl 0 rfl) ?_
  refine va_get (D := G.1) (ci := 4) (v := .int (nI al)) (C := RX4) (T := TX4) (N := 7) hx hb hts hin4 hown hK hP 0 rfl rfl 6 (by decide) (hts (.fieldLink RX4 152 "FaultShrinker" "keptTastings" "I") (List.mem_of_getElem? (i := 4) rfl)) (fun _ h9 => h9) rfl dX4_countFact_103 ?_
  exact cs_iret hx hb hr hlocks hK hP hD hS (v := nI al) () (by unfold cfc; rw [if_neg cw_0, if_neg cw_1, if_neg cw_2, if_neg cw_3, if_neg cw_4, if_neg cw_5]) (rfl) dX4_countFact_106

set_option maxRecDepth 100000 in
theorem in4_X4_ruleFact : ∀ w ∈ wsX40, w ∈ wsX4_ruleFact := by decide +kernel
set_option maxHeartbeats 4000000 in
set_option maxRecDepth 100000 in
theorem c_X4_ruleFact (l : Launch) (G : cG) (x a b t q q1 kq al : Nat) (ka n : Nat) (k : Nat → Nat) (hn : n ≤ 24) (hk : ∀ j, j < n → k j < 16) (nb sb rc : Nat) (ne sp : Nat → Nat) (hrc : rc ≤ 6) (hne : ∀ j, j < 6 → ne j < 65536) (hsp : ∀ j, j < 6 → sp j < 65536) (hkq : kq < 65536) (j w : Nat) (hj : j < rc) (hw : w < 5) : cMI l G yX4_ruleFact wsX4_ruleFact ({ frames := 2, cells := 0, slots := 0, locals := 42 }) [.ref x, .int (nI j), .int (nI w)] [(x, .inr (4, [.ref a, .ref b, .ref t, .ref q, .ref q1, .int (nI kq), .int (nI al)])), (a, .inr (0, [.ref ka, .int (nI n)])), (ka, .inl (G.2.1, 24, .inl (nF k))), (b, .inr (1, [.ref nb, .ref sb, .int (nI rc)])), (nb, .inl (G.2.1, 6, .inl (nF ne))), (sb, .inl (G.2.1, 6, .inl (nF sp)))] (fun (r_ : Int32) (_ : Unit) => r_ = nI (tld k ne sp n kq j w)) (fun (_ : Unit) => [(x, .inr (4, [.ref a, .ref b, .ref t, .ref q, .ref q1, .int (nI kq), .int (nI al)])), (a, .inr (0, [.ref ka, .int (nI n)])), (ka, .inl (G.2.1, 24, .inl (nF k))), (b, .inr (1, [.ref nb, .ref sb, .int (nI rc)])), (nb, .inl (G.2.1, 6, .inl (nF ne))), (sb, .inl (G.2.1, 6, .inl (nF sp)))]) := by
  refine cs_sI (own := RX4) (cc := cX4_ruleFact) (maxL := 3) (ret := (some .int)) (by decide) rfl rfl (Nat.le_of_ble_eq_true rfl) ?_
  intro p e s m below meth c A hx hb hr hml hts hown hlocks hinit hA hK hP hD hS ls hl
  have hin4 := in4_X4_ruleFact
  have hl : lv_has ls 3 [(0, .ref x), (1, .int (nI j)), (2, .int (nI w))] := hl
  have hp24 := two_pow24 hn
  have hkk9 : kds k (2 ^ n - 1) n < 65536 := kds_lt hk
  have hnj := hne j (by omega)
  have hsj := hsp j (by omega)
  refine lv_iload_n hx hb dX4_ruleFact_0 rfl (lv_at hl 2 rfl) ?_
  by_cases cw_0 : w = 0
  · subst cw_0
    refine lv_tableIn (off := 31) (tgt := 32) hx hb dX4_ruleFact_1 (by decide +kernel) (by decide +kernel) (by decide +kernel) (by decide +kernel) ?_
    refine lv_aload_n hx hb dX4_ruleFact_32 rfl (lv_at hl 0 rfl) ?_
    refine va_get (D := G.1) (ci := 4) (v := .ref b) (C := RX4) (T := TX4) (N := 7) hx hb hts hin4 hown hK hP 0 rfl rfl 1 (by decide) (hts (.fieldLink RX4 19 "FaultShrinker" "rules" "LFaultShrinker$RuleBook;") (List.mem_of_getElem? (i := 1) rfl)) (fun _ h9 => h9) rfl dX4_ruleFact_33 ?_
    refine lv_iload_n hx hb dX4_ruleFact_36 rfl (lv_at hl 1 rfl) ?_
    refine cs_vi (As := [.int (nI j)]) (rest := []) (wr := [(x, .inr (4, [.ref a, .ref b, .ref t, .ref q, .ref q1, .int (nI kq), .int (nI al)])), (a, .inr (0, [.ref ka, .int (nI n)])), (ka, .inl (G.2.1, 24, .inl (nF k)))]) ⟨hx, hb, hml, hown, hts⟩ hK hP hD hS hA (c_X1_neededBy l G b nb sb rc ne sp (by first | assumption | omega) j (by first | assumption | omega)) (cwV 1 hts gX4_ruleFact_X1_neededBy rfl rfl rfl (by decide +kernel) ⟨Nat.le_of_ble_eq_true rfl, Nat.le_of_ble_eq_true rfl⟩) [3, 4, 5] [0, 1, 2] ⟨rfl, rfl, by decide, by decide, by decide⟩ 3 1 rfl rfl rfl hl.1 rfl (Nat.le_of_ble_eq_true rfl) ⟨Nat.le_of_ble_eq_true rfl, Nat.le_of_ble_eq_true rfl⟩ dX4_ruleFact_37 (fun r u H locs hw hP hD hS => ?_)
    have hP : va_P G.1 vwCl [(x, .inr (4, [.ref a, .ref b, .ref t, .ref q, .ref q1, .int (nI kq), .int (nI al)])), (a, .inr (0, [.ref ka, .int (nI n)])), (ka, .inl (G.2.1, 24, .inl (nF k))), (b, .inr (1, [.ref nb, .ref sb, .int (nI rc)])), (nb, .inl (G.2.1, 6, .inl (nF ne))), (sb, .inl (G.2.1, 6, .inl (nF sp)))] H := hP.sub [0, 1, 2, 3, 4, 5] rfl
    have hD : va_D A [(x, .inr (4, [.ref a, .ref b, .ref t, .ref q, .ref q1, .int (nI kq), .int (nI al)])), (a, .inr (0, [.ref ka, .int (nI n)])), (ka, .inl (G.2.1, 24, .inl (nF k))), (b, .inr (1, [.ref nb, .ref sb, .int (nI rc)])), (nb, .inl (G.2.1, 6, .inl (nF ne))), (sb, .inl (G.2.1, 6, .inl (nF sp)))] := hD.sub [0, 1, 2, 3, 4, 5] (by decide) rfl
    subst hw
    exact cs_iret hx hb hr hlocks hK hP hD hS (v := nI (ne j)) () (rfl) (rfl) dX4_ruleFact_40
  by_cases cw_1 : w = 1
  · subst cw_1
    refine lv_tableIn (off := 40) (tgt := 41) hx hb dX4_ruleFact_1 (by decide +kernel) (by decide +kernel) (by decide +kernel) (by decide +kernel) ?_
    refine lv_aload_n hx hb dX4_ruleFact_41 rfl (lv_at hl 0 rfl) ?_
    refine va_get (D := G.1) (ci := 4) (v := .ref b) (C := RX4) (T := TX4) (N := 7) hx hb hts hin4 hown hK hP 0 rfl rfl 1 (by decide) (hts (.fieldLink RX4 19 "FaultShrinker" "rules" "LFaultShrinker$RuleBook;") (List.mem_of_getElem? (i := 1) rfl)) (fun _ h9 => h9) rfl dX4_ruleFact_42 ?_
    refine lv_iload_n hx hb dX4_ruleFact_45 rfl (lv_at hl 1 rfl) ?_
    refine cs_vi (As := [.int (nI j)]) (rest := []) (wr := [(x, .inr (4, [.ref a, .ref b, .ref t, .ref q, .ref q1, .int (nI kq), .int (nI al)])), (a, .inr (0, [.ref ka, .int (nI n)])), (ka, .inl (G.2.1, 24, .inl (nF k)))]) ⟨hx, hb, hml, hown, hts⟩ hK hP hD hS hA (c_X1_sparedBy l G b nb sb rc ne sp (by first | assumption | omega) j (by first | assumption | omega)) (cwV 1 hts gX4_ruleFact_X1_sparedBy rfl rfl rfl (by decide +kernel) ⟨Nat.le_of_ble_eq_true rfl, Nat.le_of_ble_eq_true rfl⟩) [3, 4, 5] [0, 1, 2] ⟨rfl, rfl, by decide, by decide, by decide⟩ 3 1 rfl rfl rfl hl.1 rfl (Nat.le_of_ble_eq_true rfl) ⟨Nat.le_of_ble_eq_true rfl, Nat.le_of_ble_eq_true rfl⟩ dX4_ruleFact_46 (fun r u H locs hw hP hD hS => ?_)
    have hP : va_P G.1 vwCl [(x, .inr (4, [.ref a, .ref b, .ref t, .ref q, .ref q1, .int (nI kq), .int (nI al)])), (a, .inr (0, [.ref ka, .int (nI n)])), (ka, .inl (G.2.1, 24, .inl (nF k))), (b, .inr (1, [.ref nb, .ref sb, .int (nI rc)])), (nb, .inl (G.2.1, 6, .inl (nF ne))), (sb, .inl (G.2.1, 6, .inl (nF sp)))] H := hP.sub [0, 1, 2, 3, 4, 5] rfl
    have hD : va_D A [(x, .inr (4, [.ref a, .ref b, .ref t, .ref q, .ref q1, .int (nI kq), .int (nI al)])), (a, .inr (0, [.ref ka, .int (nI n)])), (ka, .inl (G.2.1, 24, .inl (nF k))), (b, .inr (1, [.ref nb, .ref sb, .int (nI rc)])), (nb, .inl (G.2.1, 6, .inl (nF ne))), (sb, .inl (G.2.1, 6, .inl (nF sp)))] := hD.sub [0, 1, 2, 3, 4, 5] (by decide) rfl
    subst hw
    exact cs_iret hx hb hr hlocks hK hP hD hS (v := nI (sp j)) () (rfl) (rfl) dX4_ruleFact_49
  by_cases cw_2 : w = 2
  · subst cw_2
    refine lv_tableIn (off := 49) (tgt := 50) hx hb dX4_ruleFact_1 (by decide +kernel) (by decide +kernel) (by decide +kernel) (by decide +kernel) ?_
    refine lv_aload_n hx hb dX4_ruleFact_50 rfl (lv_at hl 0 rfl) ?_
    refine va_get (D := G.1) (ci := 4) (v := .ref b) (C := RX4) (T := TX4) (N := 7) hx hb hts hin4 hown hK hP 0 rfl rfl 1 (by decide) (hts (.fieldLink RX4 19 "FaultShrinker" "rules" "LFaultShrinker$RuleBook;") (List.mem_of_getElem? (i := 1) rfl)) (fun _ h9 => h9) rfl dX4_ruleFact_51 ?_
    refine lv_iload_n hx hb dX4_ruleFact_54 rfl (lv_at hl 1 rfl) ?_
    refine cs_vi (As := [.int (nI j)]) (rest := []) (wr := [(x, .inr (4, [.ref a, .ref b, .ref t, .ref q, .ref q1, .int (nI kq), .int (nI al)])), (a, .inr (0, [.ref ka, .int (nI n)])), (ka, .inl (G.2.1, 24, .inl (nF k)))]) ⟨hx, hb, hml, hown, hts⟩ hK hP hD hS hA (c_X1_neededBy l G b nb sb rc ne sp (by first | assumption | omega) j (by first | assumption | omega)) (cwV 1 hts gX4_ruleFact_X1_neededBy rfl rfl rfl (by decide +kernel) ⟨Nat.le_of_ble_eq_true rfl, Nat.le_of_ble_eq_true rfl⟩) [3, 4, 5] [0, 1, 2] ⟨rfl, rfl, by decide, by decide, by decide⟩ 3 1 rfl rfl rfl hl.1 rfl (Nat.le_of_ble_eq_true rfl) ⟨Nat.le_of_ble_eq_true rfl, Nat.le_of_ble_eq_true rfl⟩ dX4_ruleFact_55 (fun r u H locs hw hP hD hS => ?_)
    have hP : va_P G.1 vwCl [(x, .inr (4, [.ref a, .ref b, .ref t, .ref q, .ref q1, .int (nI kq), .int (nI al)])), (a, .inr (0, [.ref ka, .int (nI n)])), (ka, .inl (G.2.1, 24, .inl (nF k))), (b, .inr (1, [.ref nb, .ref sb, .int (nI rc)])), (nb, .inl (G.2.1, 6, .inl (nF ne))), (sb, .inl (G.2.1, 6, .inl (nF sp)))] H := hP.sub [0, 1, 2, 3, 4, 5] rfl
    have hD : va_D A [(x, .inr (4, [.ref a, .ref b, .ref t, .ref q, .ref q1, .int (nI kq), .int (nI al)])), (a, .inr (0, [.ref ka, .int (nI n)])), (ka, .inl (G.2.1, 24, .inl (nF k))), (b, .inr (1, [.ref nb, .ref sb, .int (nI rc)])), (nb, .inl (G.2.1, 6, .inl (nF ne))), (sb, .inl (G.2.1, 6, .inl (nF sp)))] := hD.sub [0, 1, 2, 3, 4, 5] (by decide) rfl
    subst hw
    refine cs_si (As := [.int (nI (ne j))]) (rest := []) (wr := [(x, .inr (4, [.ref a, .ref b, .ref t, .ref q, .ref q1, .int (nI kq), .int (nI al)])), (a, .inr (0, [.ref ka, .int (nI n)])), (ka, .inl (G.2.1, 24, .inl (nF k))), (b, .inr (1, [.ref nb, .ref sb, .int (nI rc)])), (nb, .inl (G.2.1, 6, .inl (nF ne))), (sb, .inl (G.2.1, 6, .inl (nF sp)))]) ⟨hx, hb, hml, hown, hts⟩ hK hP hD hS hA (c_J6_bitCount_0f7a4 l G (ne j) (by first | assumption | omega)) (va_cwS 1 hts gX4_ruleFact_J6_bitCount_0f7a4 rfl rfl rfl (by decide +kernel) ⟨Nat.le_of_ble_eq_true rfl, Nat.le_of_ble_eq_true rfl⟩) [] [0, 1, 2, 3, 4, 5] ⟨rfl, rfl, by decide, by decide, by decide⟩ rfl hl.1 rfl (Nat.le_of_ble_eq_true rfl) ⟨Nat.le_of_ble_eq_true rfl, Nat.le_of_ble_eq_true rfl⟩ dX4_ruleFact_58 (fun r u H locs hw hP hD hS => ?_)
    have hP : va_P G.1 vwCl [(x, .inr (4, [.ref a, .ref b, .ref t, .ref q, .ref q1, .int (nI kq), .int (nI al)])), (a, .inr (0, [.ref ka, .int (nI n)])), (ka, .inl (G.2.1, 24, .inl (nF k))), (b, .inr (1, [.ref nb, .ref sb, .int (nI rc)])), (nb, .inl (G.2.1, 6, .inl (nF ne))), (sb, .inl (G.2.1, 6, .inl (nF sp)))] H := hP.sub [0, 1, 2, 3, 4, 5] rfl
    have hD : va_D A [(x, .inr (4, [.ref a, .ref b, .ref t, .ref q, .ref q1, .int (nI kq), .int (nI al)])), (a, .inr (0, [.ref ka, .int (nI n)])), (ka, .inl (G.2.1, 24, .inl (nF k))), (b, .inr (1, [.ref nb, .ref sb, .int (nI rc)])), (nb, .inl (G.2.1, 6, .inl (nF ne))), (sb, .inl (G.2.1, 6, .inl (nF sp)))] := hD.sub [0, 1, 2, 3, 4, 5] (by decide) rfl
    subst hw
    exact cs_iret hx hb hr hlocks hK hP hD hS (v := nI (cnt (ne j) 24)) () (rfl) (rfl) dX4_ruleFact_61
  by_cases cw_3 : w = 3
  · subst cw_3
    refine lv_tableIn (off := 61) (tgt := 62) hx hb dX4_ruleFact_1 (by decide +kernel) (by decide +kernel) (by decide +kernel) (by decide +kernel) ?_
    refine lv_aload_n hx hb dX4_ruleFact_62 rfl (lv_at hl 0 rfl) ?_
    refine va_get (D := G.1) (ci := 4) (v := .ref b) (C := RX4) (T := TX4) (N := 7) hx hb hts hin4 hown hK hP 0 rfl rfl 1 (by decide) (hts (.fieldLink RX4 19 "FaultShrinker" "rules" "LFaultShrinker$RuleBook;") (List.mem_of_getElem? (i := 1) rfl)) (fun _ h9 => h9) rfl dX4_ruleFact_63 ?_
    refine lv_iload_n hx hb dX4_ruleFact_66 rfl (lv_at hl 1 rfl) ?_
    refine lv_aload_n hx hb dX4_ruleFact_67 rfl (lv_at hl 0 rfl) ?_
    refine va_get (D := G.1) (ci := 4) (v := .ref a) (C := RX4) (T := TX4) (N := 7) hx hb hts hin4 hown hK hP 0 rfl rfl 0 (by decide) (hts (.fieldLink RX4 10 "FaultShrinker" "recipe" "LFaultShrinker$Recipe;") (List.mem_of_getElem? (i := 2) rfl)) (fun _ h9 => h9) rfl dX4_ruleFact_68 ?_
    refine lv_aload_n hx hb dX4_ruleFact_71 rfl (lv_at hl 0 rfl) ?_
    refine va_get (D := G.1) (ci := 4) (v := .ref a) (C := RX4) (T := TX4) (N := 7) hx hb hts hin4 hown hK hP 0 rfl rfl 0 (by decide) (hts (.fieldLink RX4 10 "FaultShrinker" "recipe" "LFaultShrinker$Recipe;") (List.mem_of_getElem? (i := 2) rfl)) (fun _ h9 => h9) rfl dX4_ruleFact_72 ?_
    refine cs_vi (As := []) (rest := [.ref a, .int (nI j), .ref b]) (wr := [(x, .inr (4, [.ref a, .ref b, .ref t, .ref q, .ref q1, .int (nI kq), .int (nI al)])), (b, .inr (1, [.ref nb, .ref sb, .int (nI rc)])), (nb, .inl (G.2.1, 6, .inl (nF ne))), (sb, .inl (G.2.1, 6, .inl (nF sp)))]) ⟨hx, hb, hml, hown, hts⟩ hK hP hD hS hA (c_X0_wholeDish l G a ka n k (by first | assumption | omega)) (cwV 0 hts gX4_ruleFact_X0_wholeDish rfl rfl rfl (by decide +kernel) ⟨Nat.le_of_ble_eq_true rfl, Nat.le_of_ble_eq_true rfl⟩) [1, 2] [0, 3, 4, 5] ⟨rfl, rfl, by decide, by decide, by decide⟩ 1 0 rfl rfl rfl hl.1 rfl (Nat.le_of_ble_eq_true rfl) ⟨Nat.le_of_ble_eq_true rfl, Nat.le_of_ble_eq_true rfl⟩ dX4_ruleFact_75 (fun r u H locs hw hP hD hS => ?_)
    have hP : va_P G.1 vwCl [(x, .inr (4, [.ref a, .ref b, .ref t, .ref q, .ref q1, .int (nI kq), .int (nI al)])), (a, .inr (0, [.ref ka, .int (nI n)])), (ka, .inl (G.2.1, 24, .inl (nF k))), (b, .inr (1, [.ref nb, .ref sb, .int (nI rc)])), (nb, .inl (G.2.1, 6, .inl (nF ne))), (sb, .inl (G.2.1, 6, .inl (nF sp)))] H := hP.sub [0, 4, 5, 1, 2, 3] rfl
    have hD : va_D A [(x, .inr (4, [.ref a, .ref b, .ref t, .ref q, .ref q1, .int (nI kq), .int (nI al)])), (a, .inr (0, [.ref ka, .int (nI n)])), (ka, .inl (G.2.1, 24, .inl (nF k))), (b, .inr (1, [.ref nb, .ref sb, .int (nI rc)])), (nb, .inl (G.2.1, 6, .inl (nF ne))), (sb, .inl (G.2.1, 6, .inl (nF sp)))] := hD.sub [0, 4, 5, 1, 2, 3] (by decide) rfl
    subst hw
    refine cs_vi (As := [.int (nI (2 ^ n - 1))]) (rest := [.int (nI j), .ref b]) (wr := [(x, .inr (4, [.ref a, .ref b, .ref t, .ref q, .ref q1, .int (nI kq), .int (nI al)])), (b, .inr (1, [.ref nb, .ref sb, .int (nI rc)])), (nb, .inl (G.2.1, 6, .inl (nF ne))), (sb, .inl (G.2.1, 6, .inl (nF sp)))]) ⟨hx, hb, hml, hown, hts⟩ hK hP hD hS hA (c_X0_kindsOf l G a ka n k (2 ^ n - 1) (by first | assumption | omega) (by first | assumption | omega) (by first | assumption | omega)) (cwV 1 hts gX4_ruleFact_X0_kindsOf rfl rfl rfl (by decide +kernel) ⟨Nat.le_of_ble_eq_true rfl, Nat.le_of_ble_eq_true rfl⟩) [1, 2] [0, 3, 4, 5] ⟨rfl, rfl, by decide, by decide, by decide⟩ 1 0 rfl rfl rfl hl.1 rfl (Nat.le_of_ble_eq_true rfl) ⟨Nat.le_of_ble_eq_true rfl, Nat.le_of_ble_eq_true rfl⟩ dX4_ruleFact_78 (fun r u H locs hw hP hD hS => ?_)
    have hP : va_P G.1 vwCl [(x, .inr (4, [.ref a, .ref b, .ref t, .ref q, .ref q1, .int (nI kq), .int (nI al)])), (a, .inr (0, [.ref ka, .int (nI n)])), (ka, .inl (G.2.1, 24, .inl (nF k))), (b, .inr (1, [.ref nb, .ref sb, .int (nI rc)])), (nb, .inl (G.2.1, 6, .inl (nF ne))), (sb, .inl (G.2.1, 6, .inl (nF sp)))] H := hP.sub [0, 4, 5, 1, 2, 3] rfl
    have hD : va_D A [(x, .inr (4, [.ref a, .ref b, .ref t, .ref q, .ref q1, .int (nI kq), .int (nI al)])), (a, .inr (0, [.ref ka, .int (nI n)])), (ka, .inl (G.2.1, 24, .inl (nF k))), (b, .inr (1, [.ref nb, .ref sb, .int (nI rc)])), (nb, .inl (G.2.1, 6, .inl (nF ne))), (sb, .inl (G.2.1, 6, .inl (nF sp)))] := hD.sub [0, 4, 5, 1, 2, 3] (by decide) rfl
    subst hw
    refine cs_vi (As := [.int (nI j), .int (nI (kds k (2 ^ n - 1) n))]) (rest := []) (wr := [(x, .inr (4, [.ref a, .ref b, .ref t, .ref q, .ref q1, .int (nI kq), .int (nI al)])), (a, .inr (0, [.ref ka, .int (nI n)])), (ka, .inl (G.2.1, 24, .inl (nF k)))]) ⟨hx, hb, hml, hown, hts⟩ hK hP hD hS hA (c_X1_holds l G b nb sb rc ne sp (by first | assumption | omega) (by first | assumption | omega) (by first | assumption | omega) j (kds k (2 ^ n - 1) n) (by first | assumption | omega) (by first | assumption | omega)) (cwV 2 hts gX4_ruleFact_X1_holds rfl rfl rfl (by decide +kernel) ⟨Nat.le_of_ble_eq_true rfl, Nat.le_of_ble_eq_true rfl⟩) [3, 4, 5] [0, 1, 2] ⟨rfl, rfl, by decide, by decide, by decide⟩ 3 1 rfl rfl rfl hl.1 rfl (Nat.le_of_ble_eq_true rfl) ⟨Nat.le_of_ble_eq_true rfl, Nat.le_of_ble_eq_true rfl⟩ dX4_ruleFact_81 (fun r u H locs hw hP hD hS => ?_)
    have hP : va_P G.1 vwCl [(x, .inr (4, [.ref a, .ref b, .ref t, .ref q, .ref q1, .int (nI kq), .int (nI al)])), (a, .inr (0, [.ref ka, .int (nI n)])), (ka, .inl (G.2.1, 24, .inl (nF k))), (b, .inr (1, [.ref nb, .ref sb, .int (nI rc)])), (nb, .inl (G.2.1, 6, .inl (nF ne))), (sb, .inl (G.2.1, 6, .inl (nF sp)))] H := hP.sub [0, 1, 2, 3, 4, 5] rfl
    have hD : va_D A [(x, .inr (4, [.ref a, .ref b, .ref t, .ref q, .ref q1, .int (nI kq), .int (nI al)])), (a, .inr (0, [.ref ka, .int (nI n)])), (ka, .inl (G.2.1, 24, .inl (nF k))), (b, .inr (1, [.ref nb, .ref sb, .int (nI rc)])), (nb, .inl (G.2.1, 6, .inl (nF ne))), (sb, .inl (G.2.1, 6, .inl (nF sp)))] := hD.sub [0, 1, 2, 3, 4, 5] (by decide) rfl
    subst hw
    refine lv_if_eq (tgt := 91) hx hb dX4_ruleFact_84 (by decide) (fun c_84 => ?_) (fun c_84 => ?_)
    · have c_84 := bI_0 c_84
      refine lv_iconst (v := nI 0) hx hb dX4_ruleFact_91 (by decide +kernel) ?_
      exact cs_iret hx hb hr hlocks hK hP hD hS (v := nI 0) () (by show _ = nI (if hld (ne j) (sp j) (kds k (2 ^ n - 1) n) = true then 1 else 0); rw [c_84]; rfl) (rfl) dX4_ruleFact_92
    · have c_84 := bI_n0 c_84
      refine lv_iconst (v := nI 1) hx hb dX4_ruleFact_87 (by decide +kernel) ?_
      refine lv_goto (tgt := 92) hx hb dX4_ruleFact_88 (by decide) ?_
      exact cs_iret hx hb hr hlocks hK hP hD hS (v := nI 1) () (by show _ = nI (if hld (ne j) (sp j) (kds k (2 ^ n - 1) n) = true then 1 else 0); rw [c_84]; rfl) (rfl) dX4_ruleFact_92
  refine lv_tableOut (tgt := 93) hx hb dX4_ruleFact_1 (Or.inr (by rw [nI_toInt (by omega)]; omega)) (by decide +kernel) ?_
  refine lv_aload_n hx hb dX4_ruleFact_93 rfl (lv_at hl 0 rfl) ?_
  refine va_get (D := G.1) (ci := 4) (v := .ref b) (C := RX4) (T := TX4) (N := 7) hx hb hts hin4 hown hK hP 0 rfl rfl 1 (by decide) (hts (.fieldLink RX4 19 "FaultShrinker" "rules" "LFaultShrinker$RuleBook;") (List.mem_of_getElem? (i := 1) rfl)) (fun _ h9 => h9) rfl dX4_ruleFact_94 ?_
  refine lv_iload_n hx hb dX4_ruleFact_97 rfl (lv_at hl 1 rfl) ?_
  refine lv_aload_n hx hb dX4_ruleFact_98 rfl (lv_at hl 0 rfl) ?_
  refine va_get (D := G.1) (ci := 4) (v := .int (nI kq)) (C := RX4) (T := TX4) (N := 7) hx hb hts hin4 hown hK hP 0 rfl rfl 5 (by decide) (hts (.fieldLink RX4 148 "FaultShrinker" "keptListKinds" "I") (List.mem_of_getElem? (i := 3) rfl)) (fun _ h9 => h9) rfl dX4_ruleFact_99 ?_
  refine cs_vi (As := [.int (nI j), .int (nI kq)]) (rest := []) (wr := [(x, .inr (4, [.ref a, .ref b, .ref t, .ref q, .ref q1, .int (nI kq), .int (nI al)])), (a, .inr (0, [.ref ka, .int (nI n)])), (ka, .inl (G.2.1, 24, .inl (nF k)))]) ⟨hx, hb, hml, hown, hts⟩ hK hP hD hS hA (c_X1_holds l G b nb sb rc ne sp (by first | assumption | omega) (by first | assumption | omega) (by first | assumption | omega) j kq (by first | assumption | omega) (by first | assumption | omega)) (cwV 2 hts gX4_ruleFact_X1_holds rfl rfl rfl (by decide +kernel) ⟨Nat.le_of_ble_eq_true rfl, Nat.le_of_ble_eq_true rfl⟩) [3, 4, 5] [0, 1, 2] ⟨rfl, rfl, by decide, by decide, by decide⟩ 3 1 rfl rfl rfl hl.1 rfl (Nat.le_of_ble_eq_true rfl) ⟨Nat.le_of_ble_eq_true rfl, Nat.le_of_ble_eq_true rfl⟩ dX4_ruleFact_102 (fun r u H locs hw hP hD hS => ?_)
  have hP : va_P G.1 vwCl [(x, .inr (4, [.ref a, .ref b, .ref t, .ref q, .ref q1, .int (nI kq), .int (nI al)])), (a, .inr (0, [.ref ka, .int (nI n)])), (ka, .inl (G.2.1, 24, .inl (nF k))), (b, .inr (1, [.ref nb, .ref sb, .int (nI rc)])), (nb, .inl (G.2.1, 6, .inl (nF ne))), (sb, .inl (G.2.1, 6, .inl (nF sp)))] H := hP.sub [0, 1, 2, 3, 4, 5] rfl
  have hD : va_D A [(x, .inr (4, [.ref a, .ref b, .ref t, .ref q, .ref q1, .int (nI kq), .int (nI al)])), (a, .inr (0, [.ref ka, .int (nI n)])), (ka, .inl (G.2.1, 24, .inl (nF k))), (b, .inr (1, [.ref nb, .ref sb, .int (nI rc)])), (nb, .inl (G.2.1, 6, .inl (nF ne))), (sb, .inl (G.2.1, 6, .inl (nF sp)))] := hD.sub [0, 1, 2, 3, 4, 5] (by decide) rfl
  subst hw
  refine lv_if_eq (tgt := 112) hx hb dX4_ruleFact_105 (by decide) (fun c_105 => ?_) (fun c_105 => ?_)
  · have c_105 := bI_0 c_105
    refine lv_iconst (v := nI 0) hx hb dX4_ruleFact_112 (by decide +kernel) ?_
    exact cs_iret hx hb hr hlocks hK hP hD hS (v := nI 0) () (by unfold tld; rw [if_neg cw_0, if_neg cw_1, if_neg cw_2, if_neg cw_3, c_105]; rfl) (rfl) dX4_ruleFact_113
  · have c_105 := bI_n0 c_105
    refine lv_iconst (v := nI 1) hx hb dX4_ruleFact_108 (by decide +kernel) ?_
    refine lv_goto (tgt := 113) hx hb dX4_ruleFact_109 (by decide) ?_
    exact cs_iret hx hb hr hlocks hK hP hD hS (v := nI 1) () (by unfold tld; rw [if_neg cw_0, if_neg cw_1, if_neg cw_2, if_neg cw_3, c_105]; rfl) (rfl) dX4_ruleFact_113

set_option maxRecDepth 100000 in
theorem in4_X4_least : ∀ w ∈ wsX40, w ∈ wsX4_least := by decide +kernel
set_option maxHeartbeats 4000000 in
set_option maxRecDepth 100000 in
theorem c_X4_least (l : Launch) (G : cG) (x a b t q q1 kq al : Nat) (ka n : Nat) (k : Nat → Nat) (hn : n ≤ 24) (hk : ∀ j, j < n → k j < 16) (nb sb rc : Nat) (ne sp : Nat → Nat) (hrc : rc ≤ 6) (hne : ∀ j, j < 6 → ne j < 65536) (hsp : ∀ j, j < 6 → sp j < 65536) : cMI l G yX4_least wsX4_least ({ frames := 2, cells := 0, slots := 0, locals := 45 }) [.ref x] [(x, .inr (4, [.ref a, .ref b, .ref t, .ref q, .ref q1, .int (nI kq), .int (nI al)])), (a, .inr (0, [.ref ka, .int (nI n)])), (ka, .inl (G.2.1, 24, .inl (nF k))), (b, .inr (1, [.ref nb, .ref sb, .int (nI rc)])), (nb, .inl (G.2.1, 6, .inl (nF ne))), (sb, .inl (G.2.1, 6, .inl (nF sp)))] (fun (r_ : Int32) (_ : Unit) => r_ = nI (lst ne (kds k (2 ^ n - 1) n) rc)) (fun (_ : Unit) => [(x, .inr (4, [.ref a, .ref b, .ref t, .ref q, .ref q1, .int (nI kq), .int (nI al)])), (a, .inr (0, [.ref ka, .int (nI n)])), (ka, .inl (G.2.1, 24, .inl (nF k))), (b, .inr (1, [.ref nb, .ref sb, .int (nI rc)])), (nb, .inl (G.2.1, 6, .inl (nF ne))), (sb, .inl (G.2.1, 6, .inl (nF sp)))]) := by
  refine cs_sI (own := RX4) (cc := cX4_least) (maxL := 1) (ret := (some .int)) (by decide) rfl rfl (Nat.le_of_ble_eq_true rfl) ?_
  intro p e s m below meth c A hx hb hr hml hts hown hlocks hinit hA hK hP hD hS ls hl
  have hin4 := in4_X4_least
  have hl : lv_has ls 1 [(0, .ref x)] := hl
  have hp24 := two_pow24 hn
  have hkk9 : kds k (2 ^ n - 1) n < 65536 := kds_lt hk
  refine lv_aload_n hx hb dX4_least_0 rfl (lv_at hl 0 rfl) ?_
  refine va_get (D := G.1) (ci := 4) (v := .ref b) (C := RX4) (T := TX4) (N := 7) hx hb hts hin4 hown hK hP 0 rfl rfl 1 (by decide) (hts (.fieldLink RX4 19 "FaultShrinker" "rules" "LFaultShrinker$RuleBook;") (List.mem_of_getElem? (i := 1) rfl)) (fun _ h9 => h9) rfl dX4_least_1 ?_
  refine lv_aload_n hx hb dX4_least_4 rfl (lv_at hl 0 rfl) ?_
  refine va_get (D := G.1) (ci := 4) (v := .ref a) (C := RX4) (T := TX4) (N := 7) hx hb hts hin4 hown hK hP 0 rfl rfl 0 (by decide) (hts (.fieldLink RX4 10 "FaultShrinker" "recipe" "LFaultShrinker$Recipe;") (List.mem_of_getElem? (i := 2) rfl)) (fun _ h9 => h9) rfl dX4_least_5 ?_
  refine lv_aload_n hx hb dX4_least_8 rfl (lv_at hl 0 rfl) ?_
  refine va_get (D := G.1) (ci := 4) (v := .ref a) (C := RX4) (T := TX4) (N := 7) hx hb hts hin4 hown hK hP 0 rfl rfl 0 (by decide) (hts (.fieldLink RX4 10 "FaultShrinker" "recipe" "LFaultShrinker$Recipe;") (List.mem_of_getElem? (i := 2) rfl)) (fun _ h9 => h9) rfl dX4_least_9 ?_
  refine cs_vi (As := []) (rest := [.ref a, .ref b]) (wr := [(x, .inr (4, [.ref a, .ref b, .ref t, .ref q, .ref q1, .int (nI kq), .int (nI al)])), (b, .inr (1, [.ref nb, .ref sb, .int (nI rc)])), (nb, .inl (G.2.1, 6, .inl (nF ne))), (sb, .inl (G.2.1, 6, .inl (nF sp)))]) ⟨hx, hb, hml, hown, hts⟩ hK hP hD hS hA (c_X0_wholeDish l G a ka n k (by first | assumption | omega)) (cwV 0 hts gX4_least_X0_wholeDish rfl rfl rfl (by decide +kernel) ⟨Nat.le_of_ble_eq_true rfl, Nat.le_of_ble_eq_true rfl⟩) [1, 2] [0, 3, 4, 5] ⟨rfl, rfl, by decide, by decide, by decide⟩ 1 0 rfl rfl rfl hl.1 rfl (Nat.le_of_ble_eq_true rfl) ⟨Nat.le_of_ble_eq_true rfl, Nat.le_of_ble_eq_true rfl⟩ dX4_least_12 (fun r u H locs hw hP hD hS => ?_)
  have hP : va_P G.1 vwCl [(x, .inr (4, [.ref a, .ref b, .ref t, .ref q, .ref q1, .int (nI kq), .int (nI al)])), (a, .inr (0, [.ref ka, .int (nI n)])), (ka, .inl (G.2.1, 24, .inl (nF k))), (b, .inr (1, [.ref nb, .ref sb, .int (nI rc)])), (nb, .inl (G.2.1, 6, .inl (nF ne))), (sb, .inl (G.2.1, 6, .inl (nF sp)))] H := hP.sub [0, 4, 5, 1, 2, 3] rfl
  have hD : va_D A [(x, .inr (4, [.ref a, .ref b, .ref t, .ref q, .ref q1, .int (nI kq), .int (nI al)])), (a, .inr (0, [.ref ka, .int (nI n)])), (ka, .inl (G.2.1, 24, .inl (nF k))), (b, .inr (1, [.ref nb, .ref sb, .int (nI rc)])), (nb, .inl (G.2.1, 6, .inl (nF ne))), (sb, .inl (G.2.1, 6, .inl (nF sp)))] := hD.sub [0, 4, 5, 1, 2, 3] (by decide) rfl
  subst hw
  refine cs_vi (As := [.int (nI (2 ^ n - 1))]) (rest := [.ref b]) (wr := [(x, .inr (4, [.ref a, .ref b, .ref t, .ref q, .ref q1, .int (nI kq), .int (nI al)])), (b, .inr (1, [.ref nb, .ref sb, .int (nI rc)])), (nb, .inl (G.2.1, 6, .inl (nF ne))), (sb, .inl (G.2.1, 6, .inl (nF sp)))]) ⟨hx, hb, hml, hown, hts⟩ hK hP hD hS hA (c_X0_kindsOf l G a ka n k (2 ^ n - 1) (by first | assumption | omega) (by first | assumption | omega) (by first | assumption | omega)) (cwV 1 hts gX4_least_X0_kindsOf rfl rfl rfl (by decide +kernel) ⟨Nat.le_of_ble_eq_true rfl, Nat.le_of_ble_eq_true rfl⟩) [1, 2] [0, 3, 4, 5] ⟨rfl, rfl, by decide, by decide, by decide⟩ 1 0 rfl rfl rfl hl.1 rfl (Nat.le_of_ble_eq_true rfl) ⟨Nat.le_of_ble_eq_true rfl, Nat.le_of_ble_eq_true rfl⟩ dX4_least_15 (fun r u H locs hw hP hD hS => ?_)
  have hP : va_P G.1 vwCl [(x, .inr (4, [.ref a, .ref b, .ref t, .ref q, .ref q1, .int (nI kq), .int (nI al)])), (a, .inr (0, [.ref ka, .int (nI n)])), (ka, .inl (G.2.1, 24, .inl (nF k))), (b, .inr (1, [.ref nb, .ref sb, .int (nI rc)])), (nb, .inl (G.2.1, 6, .inl (nF ne))), (sb, .inl (G.2.1, 6, .inl (nF sp)))] H := hP.sub [0, 4, 5, 1, 2, 3] rfl
  have hD : va_D A [(x, .inr (4, [.ref a, .ref b, .ref t, .ref q, .ref q1, .int (nI kq), .int (nI al)])), (a, .inr (0, [.ref ka, .int (nI n)])), (ka, .inl (G.2.1, 24, .inl (nF k))), (b, .inr (1, [.ref nb, .ref sb, .int (nI rc)])), (nb, .inl (G.2.1, 6, .inl (nF ne))), (sb, .inl (G.2.1, 6, .inl (nF sp)))] := hD.sub [0, 4, 5, 1, 2, 3] (by decide) rfl
  subst hw
  refine cs_vi (As := [.int (nI (kds k (2 ^ n - 1) n))]) (rest := []) (wr := [(x, .inr (4, [.ref a, .ref b, .ref t, .ref q, .ref q1, .int (nI kq), .int (nI al)])), (a, .inr (0, [.ref ka, .int (nI n)])), (ka, .inl (G.2.1, 24, .inl (nF k)))]) ⟨hx, hb, hml, hown, hts⟩ hK hP hD hS hA (c_X1_leastNeeded l G b nb sb rc ne sp (by first | assumption | omega) (by first | assumption | omega) (kds k (2 ^ n - 1) n) (by first | assumption | omega)) (cwV 1 hts gX4_least_X1_leastNeeded rfl rfl rfl (by decide +kernel) ⟨Nat.le_of_ble_eq_true rfl, Nat.le_of_ble_eq_true rfl⟩) [3, 4, 5] [0, 1, 2] ⟨rfl, rfl, by decide, by decide, by decide⟩ 3 1 rfl rfl rfl hl.1 rfl (Nat.le_of_ble_eq_true rfl) ⟨Nat.le_of_ble_eq_true rfl, Nat.le_of_ble_eq_true rfl⟩ dX4_least_18 (fun r u H locs hw hP hD hS => ?_)
  have hP : va_P G.1 vwCl [(x, .inr (4, [.ref a, .ref b, .ref t, .ref q, .ref q1, .int (nI kq), .int (nI al)])), (a, .inr (0, [.ref ka, .int (nI n)])), (ka, .inl (G.2.1, 24, .inl (nF k))), (b, .inr (1, [.ref nb, .ref sb, .int (nI rc)])), (nb, .inl (G.2.1, 6, .inl (nF ne))), (sb, .inl (G.2.1, 6, .inl (nF sp)))] H := hP.sub [0, 1, 2, 3, 4, 5] rfl
  have hD : va_D A [(x, .inr (4, [.ref a, .ref b, .ref t, .ref q, .ref q1, .int (nI kq), .int (nI al)])), (a, .inr (0, [.ref ka, .int (nI n)])), (ka, .inl (G.2.1, 24, .inl (nF k))), (b, .inr (1, [.ref nb, .ref sb, .int (nI rc)])), (nb, .inl (G.2.1, 6, .inl (nF ne))), (sb, .inl (G.2.1, 6, .inl (nF sp)))] := hD.sub [0, 1, 2, 3, 4, 5] (by decide) rfl
  subst hw
  exact cs_iret hx hb hr hlocks hK hP hD hS (v := nI (lst ne (kds k (2 ^ n - 1) n) rc)) () (by first | rfl | assumption) (rfl) dX4_least_21

set_option maxRecDepth 100000 in
theorem in4_X4_mean : ∀ w ∈ wsX40, w ∈ wsX4_mean := by decide +kernel
set_option maxHeartbeats 4000000 in
set_option maxRecDepth 100000 in
theorem c_X4_mean (l : Launch) (G : cG) (x a b t q q1 kq al : Nat) (nb sb rc : Nat) (ne sp : Nat → Nat) (hrc : rc ≤ 6) (hne : ∀ j, j < 6 → ne j < 65536) (hsp : ∀ j, j < 6 → sp j < 65536) : cMD l G yX4_mean wsX4_mean ({ frames := 2, cells := 0, slots := 0, locals := 42 }) [.ref x] [(x, .inr (4, [.ref a, .ref b, .ref t, .ref q, .ref q1, .int (nI kq), .int (nI al)])), (b, .inr (1, [.ref nb, .ref sb, .int (nI rc)])), (nb, .inl (G.2.1, 6, .inl (nF ne))), (sb, .inl (G.2.1, 6, .inl (nF sp)))] (fun (r_ : UInt64) (_ : Unit) => r_ = mnv ne rc) (fun (_ : Unit) => [(x, .inr (4, [.ref a, .ref b, .ref t, .ref q, .ref q1, .int (nI kq), .int (nI al)])), (b, .inr (1, [.ref nb, .ref sb, .int (nI rc)])), (nb, .inl (G.2.1, 6, .inl (nF ne))), (sb, .inl (G.2.1, 6, .inl (nF sp)))]) := by
  refine cs_sD (own := RX4) (cc := cX4_mean) (maxL := 4) (ret := (some .double)) (by decide) rfl rfl (Nat.le_of_ble_eq_true rfl) ?_
  intro p e s m below meth c A hx hb hr hml hts hown hlocks hinit hA hK hP hD hS ls hl
  have hin4 := in4_X4_mean
  have hl : lv_has ls 4 [(0, .ref x)] := hl
  refine lv_aload_n hx hb dX4_mean_0 rfl (lv_at hl 0 rfl) ?_
  refine va_get (D := G.1) (ci := 4) (v := .ref b) (C := RX4) (T := TX4) (N := 7) hx hb hts hin4 hown hK hP 0 rfl rfl 1 (by decide) (hts (.fieldLink RX4 19 "FaultShrinker" "rules" "LFaultShrinker$RuleBook;") (List.mem_of_getElem? (i := 1) rfl)) (fun _ h9 => h9) rfl dX4_mean_1 ?_
  refine cs_vi (As := []) (rest := []) (wr := [(x, .inr (4, [.ref a, .ref b, .ref t, .ref q, .ref q1, .int (nI kq), .int (nI al)]))]) ⟨hx, hb, hml, hown, hts⟩ hK hP hD hS hA (c_X1_size l G b nb sb rc ne sp (by first | assumption | omega)) (cwV 0 hts gX4_mean_X1_size rfl rfl rfl (by decide +kernel) ⟨Nat.le_of_ble_eq_true rfl, Nat.le_of_ble_eq_true rfl⟩) [1, 2, 3] [0] ⟨rfl, rfl, by decide, by decide, by decide⟩ 1 1 rfl rfl rfl hl.1 rfl (Nat.le_of_ble_eq_true rfl) ⟨Nat.le_of_ble_eq_true rfl, Nat.le_of_ble_eq_true rfl⟩ dX4_mean_4 (fun r u H locs hw hP hD hS => ?_)
  have hP : va_P G.1 vwCl [(x, .inr (4, [.ref a, .ref b, .ref t, .ref q, .ref q1, .int (nI kq), .int (nI al)])), (b, .inr (1, [.ref nb, .ref sb, .int (nI rc)])), (nb, .inl (G.2.1, 6, .inl (nF ne))), (sb, .inl (G.2.1, 6, .inl (nF sp)))] H := hP.sub [0, 1, 2, 3] rfl
  have hD : va_D A [(x, .inr (4, [.ref a, .ref b, .ref t, .ref q, .ref q1, .int (nI kq), .int (nI al)])), (b, .inr (1, [.ref nb, .ref sb, .int (nI rc)])), (nb, .inl (G.2.1, 6, .inl (nF ne))), (sb, .inl (G.2.1, 6, .inl (nF sp)))] := hD.sub [0, 1, 2, 3] (by decide) rfl
  subst hw
  refine lv_istore_n (lv' := [(1, .int (nI rc)), (0, .ref x)]) hx hb dX4_mean_7 rfl hl (by decide) rfl (fun ls hl => ?_)
  refine lv_iload_n hx hb dX4_mean_8 rfl (lv_at hl 0 rfl) ?_
  refine lv_if_ne (tgt := 14) hx hb dX4_mean_9 (by decide) (fun c_9 => ?_) (fun c_9 => ?_)
  · have c_9 := (nI_ne0I (by omega)).mp c_9
    refine lv_iconst (v := nI 0) hx hb dX4_mean_14 (by decide +kernel) ?_
    refine lv_istore_n (lv' := [(2, .int (nI 0)), (1, .int (nI rc)), (0, .ref x)]) hx hb dX4_mean_15 rfl hl (by decide) rfl (fun ls hl => ?_)
    refine lv_iconst (v := nI 0) hx hb dX4_mean_16 (by decide +kernel) ?_
    refine lv_istore_n (lv' := [(3, .int (nI 0)), (2, .int (nI 0)), (1, .int (nI rc)), (0, .ref x)]) hx hb dX4_mean_17 rfl hl (by decide) rfl (fun ls hl => ?_)
    refine cs_loop (G := G) (nL := 4) (σ := Nat) (fun (i : Nat) => rc - i) (fun (i : Nat) => i ≤ rc) (fun (i : Nat) => [(x, .inr (4, [.ref a, .ref b, .ref t, .ref q, .ref q1, .int (nI kq), .int (nI al)])), (b, .inr (1, [.ref nb, .ref sb, .int (nI rc)])), (nb, .inl (G.2.1, 6, .inl (nF ne))), (sb, .inl (G.2.1, 6, .inl (nF sp)))]) (fun (i : Nat) => [(0, .ref x), (1, .int (nI rc)), (2, .int (nI (sms ne i))), (3, .int (nI i))]) ?_ (0) (by show 0 ≤ rc; omega) (hP.sub (ws' := [(x, .inr (4, [.ref a, .ref b, .ref t, .ref q, .ref q1, .int (nI kq), .int (nI al)])), (b, .inr (1, [.ref nb, .ref sb, .int (nI rc)])), (nb, .inl (G.2.1, 6, .inl (nF ne))), (sb, .inl (G.2.1, 6, .inl (nF sp)))]) [0, 1, 2, 3] rfl) (hD.sub (ws' := [(x, .inr (4, [.ref a, .ref b, .ref t, .ref q, .ref q1, .int (nI kq), .int (nI al)])), (b, .inr (1, [.ref nb, .ref sb, .int (nI rc)])), (nb, .inl (G.2.1, 6, .inl (nF ne))), (sb, .inl (G.2.1, 6, .inl (nF sp)))]) [0, 1, 2, 3] (by decide) rfl) hS (lv_sub (l' := [(0, .ref x), (1, .int (nI rc)), (2, .int (nI (sms ne 0))), (3, .int (nI 0))]) hl [3, 2, 1, 0] rfl)
    rintro i hinv ih H locs ls hP hD hS hl
    have hP : va_P G.1 vwCl [(x, .inr (4, [.ref a, .ref b, .ref t, .ref q, .ref q1, .int (nI kq), .int (nI al)])), (b, .inr (1, [.ref nb, .ref sb, .int (nI rc)])), (nb, .inl (G.2.1, 6, .inl (nF ne))), (sb, .inl (G.2.1, 6, .inl (nF sp)))] H := hP
    have hD : va_D A [(x, .inr (4, [.ref a, .ref b, .ref t, .ref q, .ref q1, .int (nI kq), .int (nI al)])), (b, .inr (1, [.ref nb, .ref sb, .int (nI rc)])), (nb, .inl (G.2.1, 6, .inl (nF ne))), (sb, .inl (G.2.1, 6, .inl (nF sp)))] := hD
    have hl : lv_has ls 4 [(0, .ref x), (1, .int (nI rc)), (2, .int (nI (sms ne i))), (3, .int (nI i))] := hl
    have hinv : i ≤ rc := hinv
    refine lv_iload_n hx hb dX4_mean_18 rfl (lv_at hl 3 rfl) ?_
    refine lv_iload_n hx hb dX4_mean_19 rfl (lv_at hl 1 rfl) ?_
    refine lv_icmp_ge (tgt := 43) hx hb dX4_mean_20 (by decide) (fun c_20 => ?_) (fun c_20 => ?_)
    · have c_20 := (nI_leI (by omega) (by omega)).mp c_20
      have e7 : i = rc := by omega
      subst e7
      have hsm := sms_le ne i
      refine lv_iload_n hx hb dX4_mean_43 rfl (lv_at hl 2 rfl) ?_
      refine lv_i2d hx hb dX4_mean_44 ?_
      refine lv_iload_n hx hb dX4_mean_45 rfl (lv_at hl 1 rfl) ?_
      refine lv_i2d hx hb dX4_mean_46 ?_
      refine lv_ddiv hx hb dX4_mean_47 (mean_n (by omega) (by omega) (by omega)) ?_
      exact cs_dret hx hb hr hlocks hK hP hD hS (v := FP.ddiv (FP.i2d (nI (sms ne i))) (FP.i2d (nI i))) () (by unfold mnv; rw [if_neg c_9]) (rfl) dX4_mean_48
    · have c_20 := mt (nI_leI (by omega) (by omega)).mpr c_20
      have hni := hne i (by omega)
      refine lv_iload_n hx hb dX4_mean_23 rfl (lv_at hl 2 rfl) ?_
      refine lv_aload_n hx hb dX4_mean_24 rfl (lv_at hl 0 rfl) ?_
      refine va_get (D := G.1) (ci := 4) (v := .ref b) (C := RX4) (T := TX4) (N := 7) hx hb hts hin4 hown hK hP 0 rfl rfl 1 (by decide) (hts (.fieldLink RX4 19 "FaultShrinker" "rules" "LFaultShrinker$RuleBook;") (List.mem_of_getElem? (i := 1) rfl)) (fun _ h9 => h9) rfl dX4_mean_25 ?_
      refine lv_iload_n hx hb dX4_mean_28 rfl (lv_at hl 3 rfl) ?_
      refine cs_vi (As := [.int (nI i)]) (rest := [.int (nI (sms ne i))]) (wr := [(x, .inr (4, [.ref a, .ref b, .ref t, .ref q, .ref q1, .int (nI kq), .int (nI al)]))]) ⟨hx, hb, hml, hown, hts⟩ hK hP hD hS hA (c_X1_neededBy l G b nb sb rc ne sp (by first | assumption | omega) i (by first | assumption | omega)) (cwV 1 hts gX4_mean_X1_neededBy rfl rfl rfl (by decide +kernel) ⟨Nat.le_of_ble_eq_true rfl, Nat.le_of_ble_eq_true rfl⟩) [1, 2, 3] [0] ⟨rfl, rfl, by decide, by decide, by decide⟩ 1 1 rfl rfl rfl hl.1 rfl (Nat.le_of_ble_eq_true rfl) ⟨Nat.le_of_ble_eq_true rfl, Nat.le_of_ble_eq_true rfl⟩ dX4_mean_29 (fun r u H locs hw hP hD hS => ?_)
      have hP : va_P G.1 vwCl [(x, .inr (4, [.ref a, .ref b, .ref t, .ref q, .ref q1, .int (nI kq), .int (nI al)])), (b, .inr (1, [.ref nb, .ref sb, .int (nI rc)])), (nb, .inl (G.2.1, 6, .inl (nF ne))), (sb, .inl (G.2.1, 6, .inl (nF sp)))] H := hP.sub [0, 1, 2, 3] rfl
      have hD : va_D A [(x, .inr (4, [.ref a, .ref b, .ref t, .ref q, .ref q1, .int (nI kq), .int (nI al)])), (b, .inr (1, [.ref nb, .ref sb, .int (nI rc)])), (nb, .inl (G.2.1, 6, .inl (nF ne))), (sb, .inl (G.2.1, 6, .inl (nF sp)))] := hD.sub [0, 1, 2, 3] (by decide) rfl
      subst hw
      refine cs_si (As := [.int (nI (ne i))]) (rest := [.int (nI (sms ne i))]) (wr := [(x, .inr (4, [.ref a, .ref b, .ref t, .ref q, .ref q1, .int (nI kq), .int (nI al)])), (b, .inr (1, [.ref nb, .ref sb, .int (nI rc)])), (nb, .inl (G.2.1, 6, .inl (nF ne))), (sb, .inl (G.2.1, 6, .inl (nF sp)))]) ⟨hx, hb, hml, hown, hts⟩ hK hP hD hS hA (c_J6_bitCount_0f7a4 l G (ne i) (by first | assumption | omega)) (va_cwS 1 hts gX4_mean_J6_bitCount_0f7a4 rfl rfl rfl (by decide +kernel) ⟨Nat.le_of_ble_eq_true rfl, Nat.le_of_ble_eq_true rfl⟩) [] [0, 1, 2, 3] ⟨rfl, rfl, by decide, by decide, by decide⟩ rfl hl.1 rfl (Nat.le_of_ble_eq_true rfl) ⟨Nat.le_of_ble_eq_true rfl, Nat.le_of_ble_eq_true rfl⟩ dX4_mean_32 (fun r u H locs hw hP hD hS => ?_)
      have hP : va_P G.1 vwCl [(x, .inr (4, [.ref a, .ref b, .ref t, .ref q, .ref q1, .int (nI kq), .int (nI al)])), (b, .inr (1, [.ref nb, .ref sb, .int (nI rc)])), (nb, .inl (G.2.1, 6, .inl (nF ne))), (sb, .inl (G.2.1, 6, .inl (nF sp)))] H := hP.sub [0, 1, 2, 3] rfl
      have hD : va_D A [(x, .inr (4, [.ref a, .ref b, .ref t, .ref q, .ref q1, .int (nI kq), .int (nI al)])), (b, .inr (1, [.ref nb, .ref sb, .int (nI rc)])), (nb, .inl (G.2.1, 6, .inl (nF ne))), (sb, .inl (G.2.1, 6, .inl (nF sp)))] := hD.sub [0, 1, 2, 3] (by decide) rfl
      subst hw
      refine lv_iadd hx hb dX4_mean_35 ?_
      refine cs_i (y := nI ((sms ne i) + (cnt (ne i) 24))) (nI_add _ _) ?_
      refine lv_istore_n (lv' := [(2, .int (nI ((sms ne i) + (cnt (ne i) 24)))), (0, .ref x), (1, .int (nI rc)), (3, .int (nI i))]) hx hb dX4_mean_36 rfl hl (by decide) rfl (fun ls hl => ?_)
      have e8 : nI ((sms ne i) + (cnt (ne i) 24)) = nI (sms ne (i + 1)) := rfl
      have hl : lv_has ls 4 [(2, .int (nI (sms ne (i + 1)))), (0, .ref x), (1, .int (nI rc)), (3, .int (nI i))] := by rw [← e8]; exact hl
      refine lv_iinc (v := nI (i + 1)) (lv' := [(3, .int (nI (i + 1))), (2, .int (nI (sms ne (i + 1)))), (0, .ref x), (1, .int (nI rc))]) hx hb dX4_mean_37 hl (k := 3) rfl ((nI_succ i).symm) (by decide) rfl (fun ls hl => ?_)
      refine lv_goto (tgt := 18) hx hb dX4_mean_40 (by decide) ?_
      exact ih (i + 1) (by show rc - (i + 1) < rc - i; omega) (by show (i + 1) ≤ rc; omega) _ _ _ (hP.sub (ws' := [(x, .inr (4, [.ref a, .ref b, .ref t, .ref q, .ref q1, .int (nI kq), .int (nI al)])), (b, .inr (1, [.ref nb, .ref sb, .int (nI rc)])), (nb, .inl (G.2.1, 6, .inl (nF ne))), (sb, .inl (G.2.1, 6, .inl (nF sp)))]) [0, 1, 2, 3] rfl) (hD.sub (ws' := [(x, .inr (4, [.ref a, .ref b, .ref t, .ref q, .ref q1, .int (nI kq), .int (nI al)])), (b, .inr (1, [.ref nb, .ref sb, .int (nI rc)])), (nb, .inl (G.2.1, 6, .inl (nF ne))), (sb, .inl (G.2.1, 6, .inl (nF sp)))]) [0, 1, 2, 3] (by decide) rfl) hS (lv_sub (l' := [(0, .ref x), (1, .int (nI rc)), (2, .int (nI (sms ne (i + 1)))), (3, .int (nI (i + 1)))]) hl [2, 3, 1, 0] rfl)
  · have c_9 := (nI_eq0 (by omega)).mp c_9
    refine lv_dconst0 hx hb dX4_mean_12 ?_
    exact cs_dret hx hb hr hlocks hK hP hD hS (v := FP.dconst0) () (by unfold mnv; rw [if_pos c_9]) (rfl) dX4_mean_13
