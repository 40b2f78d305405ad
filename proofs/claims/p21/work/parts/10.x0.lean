set_option maxRecDepth 100000 in
theorem in0_X0_size : ∀ w ∈ wsX00, w ∈ wsX0_size := by decide +kernel
set_option maxHeartbeats 4000000 in
set_option maxRecDepth 100000 in
theorem c_X0_size (l : Launch) (G : cG) (a ka n : Nat) (k : Nat → Nat) (hn : n ≤ 24) : cMI l G yX0_size wsX0_size ({ frames := 0, cells := 0, slots := 0, locals := 0 }) [.ref a] [(a, .inr (0, [.ref ka, .int (nI n)])), (ka, .inl (G.2.1, 24, .inl (nF k)))] (fun (r_ : Int32) (_ : Unit) => r_ = nI n) (fun (_ : Unit) => [(a, .inr (0, [.ref ka, .int (nI n)])), (ka, .inl (G.2.1, 24, .inl (nF k)))]) := by
  refine cs_sI (own := RX0) (cc := cX0_size) (maxL := 1) (ret := (some .int)) (by decide) rfl rfl (Nat.le_of_ble_eq_true rfl) ?_
  intro p e s m below meth c A hx hb hr hml hts hown hlocks hinit hA hK hP hD hS ls hl
  have hin0 := in0_X0_size
  have hl : lv_has ls 1 [(0, .ref a)] := hl
  refine lv_aload_n hx hb dX0_size_0 rfl (lv_at hl 0 rfl) ?_
  refine va_get (D := G.1) (ci := 0) (v := .int (nI n)) (C := RX0) (T := TX0) (N := 2) hx hb hts hin0 hown hK hP 0 rfl rfl 1 (by decide) (hts (.fieldLink RX0 15 "FaultShrinker$Recipe" "size" "I") (List.mem_of_getElem? (i := 1) rfl)) (fun _ h9 => h9) rfl dX0_size_1 ?_
  exact cs_iret hx hb hr hlocks hK hP hD hS (v := nI n) () (by first | rfl | assumption) rfl dX0_size_4

set_option maxRecDepth 100000 in
theorem in0_X0_isFull : ∀ w ∈ wsX00, w ∈ wsX0_isFull := by decide +kernel
set_option maxHeartbeats 4000000 in
set_option maxRecDepth 100000 in
theorem c_X0_isFull (l : Launch) (G : cG) (a ka n : Nat) (k : Nat → Nat) (hn : n ≤ 24) : cMI l G yX0_isFull wsX0_isFull ({ frames := 0, cells := 0, slots := 0, locals := 0 }) [.ref a] [(a, .inr (0, [.ref ka, .int (nI n)])), (ka, .inl (G.2.1, 24, .inl (nF k)))] (fun (r_ : Int32) (_ : Unit) => r_ = bI (decide (24 ≤ n))) (fun (_ : Unit) => [(a, .inr (0, [.ref ka, .int (nI n)])), (ka, .inl (G.2.1, 24, .inl (nF k)))]) := by
  refine cs_sI (own := RX0) (cc := cX0_isFull) (maxL := 1) (ret := (some .boolean)) (by decide) rfl rfl (Nat.le_of_ble_eq_true rfl) ?_
  intro p e s m below meth c A hx hb hr hml hts hown hlocks hinit hA hK hP hD hS ls hl
  have hin0 := in0_X0_isFull
  have hl : lv_has ls 1 [(0, .ref a)] := hl
  refine lv_aload_n hx hb dX0_isFull_0 rfl (lv_at hl 0 rfl) ?_
  refine va_get (D := G.1) (ci := 0) (v := .int (nI n)) (C := RX0) (T := TX0) (N := 2) hx hb hts hin0 hown hK hP 0 rfl rfl 1 (by decide) (hts (.fieldLink RX0 15 "FaultShrinker$Recipe" "size" "I") (List.mem_of_getElem? (i := 1) rfl)) (fun _ h9 => h9) rfl dX0_isFull_1 ?_
  refine lv_aload_n hx hb dX0_isFull_4 rfl (lv_at hl 0 rfl) ?_
  refine va_get (D := G.1) (ci := 0) (v := .ref ka) (C := RX0) (T := TX0) (N := 2) hx hb hts hin0 hown hK hP 0 rfl rfl 0 (by decide) (hts (.fieldLink RX0 9 "FaultShrinker$Recipe" "kinds" "[I") (List.mem_of_getElem? (i := 2) rfl)) (fun _ h9 => h9) rfl dX0_isFull_5 ?_
  refine va_alen hx hb hK hP 1 0 rfl rfl (v := nI 24) rfl dX0_isFull_8 ?_
  refine lv_icmp_lt (tgt := 16) hx hb dX0_isFull_9 (by decide) (fun c_9 => ?_) (fun c_9 => ?_)
  · have c_9 := (nI_ltI (by omega) (by omega)).mp c_9
    refine lv_iconst (v := nI 0) hx hb dX0_isFull_16 (by decide +kernel) ?_
    exact cs_zret hx hb hr hlocks hK hP hD hS (v := nI 0) (rfl) () (by first | (rw [decide_eq_true (by omega)]; rfl) | (rw [decide_eq_false (by omega)]; rfl)) rfl dX0_isFull_17
  · have c_9 := mt (nI_ltI (by omega) (by omega)).mpr c_9
    refine lv_iconst (v := nI 1) hx hb dX0_isFull_12 (by decide +kernel) ?_
    refine lv_goto (tgt := 17) hx hb dX0_isFull_13 (by decide) ?_
    exact cs_zret hx hb hr hlocks hK hP hD hS (v := nI 1) (rfl) () (by first | (rw [decide_eq_true (by omega)]; rfl) | (rw [decide_eq_false (by omega)]; rfl)) rfl dX0_isFull_17

set_option maxRecDepth 100000 in
theorem in0_X0_hasPlace : ∀ w ∈ wsX00, w ∈ wsX0_hasPlace := by decide +kernel
set_option maxHeartbeats 4000000 in
set_option maxRecDepth 100000 in
theorem c_X0_hasPlace (l : Launch) (G : cG) (a ka n : Nat) (k : Nat → Nat) (hn : n ≤ 24) (x : Int32) : cMI l G yX0_hasPlace wsX0_hasPlace ({ frames := 0, cells := 0, slots := 0, locals := 0 }) [.ref a, .int x] [(a, .inr (0, [.ref ka, .int (nI n)])), (ka, .inl (G.2.1, 24, .inl (nF k)))] (fun (r_ : Int32) (_ : Unit) => r_ = bI (hp x n)) (fun (_ : Unit) => [(a, .inr (0, [.ref ka, .int (nI n)])), (ka, .inl (G.2.1, 24, .inl (nF k)))]) := by
  refine cs_sI (own := RX0) (cc := cX0_hasPlace) (maxL := 2) (ret := (some .boolean)) (by decide) rfl rfl (Nat.le_of_ble_eq_true rfl) ?_
  intro p e s m below meth c A hx hb hr hml hts hown hlocks hinit hA hK hP hD hS ls hl
  have hin0 := in0_X0_hasPlace
  have hl : lv_has ls 2 [(0, .ref a), (1, .int x)] := hl
  refine lv_iload_n hx hb dX0_hasPlace_0 rfl (lv_at hl 1 rfl) ?_
  refine lv_if_lt (tgt := 16) hx hb dX0_hasPlace_1 (by decide) (fun c_1 => ?_) (fun c_1 => ?_)
  · refine lv_iconst (v := nI 0) hx hb dX0_hasPlace_16 (by decide +kernel) ?_
    exact cs_zret hx hb hr hlocks hK hP hD hS (v := nI 0) (rfl) () (by first | (rw [hp_t c_1 c_9]; rfl) | (rw [hp_f1 c_1]; rfl) | (rw [hp_f2 c_9]; rfl)) rfl dX0_hasPlace_17
  · refine lv_iload_n hx hb dX0_hasPlace_4 rfl (lv_at hl 1 rfl) ?_
    refine lv_aload_n hx hb dX0_hasPlace_5 rfl (lv_at hl 0 rfl) ?_
    refine va_get (D := G.1) (ci := 0) (v := .int (nI n)) (C := RX0) (T := TX0) (N := 2) hx hb hts hin0 hown hK hP 0 rfl rfl 1 (by decide) (hts (.fieldLink RX0 15 "FaultShrinker$Recipe" "size" "I") (List.mem_of_getElem? (i := 1) rfl)) (fun _ h9 => h9) rfl dX0_hasPlace_6 ?_
    refine lv_icmp_ge (tgt := 16) hx hb dX0_hasPlace_9 (by decide) (fun c_9 => ?_) (fun c_9 => ?_)
    · refine lv_iconst (v := nI 0) hx hb dX0_hasPlace_16 (by decide +kernel) ?_
      exact cs_zret hx hb hr hlocks hK hP hD hS (v := nI 0) (rfl) () (by first | (rw [hp_t c_1 c_9]; rfl) | (rw [hp_f1 c_1]; rfl) | (rw [hp_f2 c_9]; rfl)) rfl dX0_hasPlace_17
    · refine lv_iconst (v := nI 1) hx hb dX0_hasPlace_12 (by decide +kernel) ?_
      refine lv_goto (tgt := 17) hx hb dX0_hasPlace_13 (by decide) ?_
      exact cs_zret hx hb hr hlocks hK hP hD hS (v := nI 1) (rfl) () (by first | (rw [hp_t c_1 c_9]; rfl) | (rw [hp_f1 c_1]; rfl) | (rw [hp_f2 c_9]; rfl)) rfl dX0_hasPlace_17

set_option maxRecDepth 100000 in
theorem in0_X0_hasDish : ∀ w ∈ wsX00, w ∈ wsX0_hasDish := by decide +kernel
set_option maxHeartbeats 4000000 in
set_option maxRecDepth 100000 in
theorem c_X0_hasDish (l : Launch) (G : cG) (a ka n : Nat) (k : Nat → Nat) (hn : n ≤ 24) (x : Int32) : cMI l G yX0_hasDish wsX0_hasDish ({ frames := 0, cells := 0, slots := 0, locals := 0 }) [.ref a, .int x] [(a, .inr (0, [.ref ka, .int (nI n)])), (ka, .inl (G.2.1, 24, .inl (nF k)))] (fun (r_ : Int32) (_ : Unit) => r_ = bI (hdi x n)) (fun (_ : Unit) => [(a, .inr (0, [.ref ka, .int (nI n)])), (ka, .inl (G.2.1, 24, .inl (nF k)))]) := by
  refine cs_sI (own := RX0) (cc := cX0_hasDish) (maxL := 2) (ret := (some .boolean)) (by decide) rfl rfl (Nat.le_of_ble_eq_true rfl) ?_
  intro p e s m below meth c A hx hb hr hml hts hown hlocks hinit hA hK hP hD hS ls hl
  have hin0 := in0_X0_hasDish
  have hl : lv_has ls 2 [(0, .ref a), (1, .int x)] := hl
  refine lv_iload_n hx hb dX0_hasDish_0 rfl (lv_at hl 1 rfl) ?_
  refine lv_if_lt (tgt := 17) hx hb dX0_hasDish_1 (by decide) (fun c_1 => ?_) (fun c_1 => ?_)
  · refine lv_iconst (v := nI 0) hx hb dX0_hasDish_17 (by decide +kernel) ?_
    exact cs_zret hx hb hr hlocks hK hP hD hS (v := nI 0) (rfl) () (by first | (rw [hdi_t c_1 c_10]; rfl) | (rw [hdi_f1 c_1]; rfl) | (rw [hdi_f2 c_10]; rfl)) rfl dX0_hasDish_18
  · refine lv_iload_n hx hb dX0_hasDish_4 rfl (lv_at hl 1 rfl) ?_
    refine lv_aload_n hx hb dX0_hasDish_5 rfl (lv_at hl 0 rfl) ?_
    refine va_get (D := G.1) (ci := 0) (v := .int (nI n)) (C := RX0) (T := TX0) (N := 2) hx hb hts hin0 hown hK hP 0 rfl rfl 1 (by decide) (hts (.fieldLink RX0 15 "FaultShrinker$Recipe" "size" "I") (List.mem_of_getElem? (i := 1) rfl)) (fun _ h9 => h9) rfl dX0_hasDish_6 ?_
    refine lv_ishr hx hb dX0_hasDish_9 ?_
    refine lv_if_ne (tgt := 17) hx hb dX0_hasDish_10 (by decide) (fun c_10 => ?_) (fun c_10 => ?_)
    · refine lv_iconst (v := nI 0) hx hb dX0_hasDish_17 (by decide +kernel) ?_
      exact cs_zret hx hb hr hlocks hK hP hD hS (v := nI 0) (rfl) () (by first | (rw [hdi_t c_1 c_10]; rfl) | (rw [hdi_f1 c_1]; rfl) | (rw [hdi_f2 c_10]; rfl)) rfl dX0_hasDish_18
    · refine lv_iconst (v := nI 1) hx hb dX0_hasDish_13 (by decide +kernel) ?_
      refine lv_goto (tgt := 18) hx hb dX0_hasDish_14 (by decide) ?_
      exact cs_zret hx hb hr hlocks hK hP hD hS (v := nI 1) (rfl) () (by first | (rw [hdi_t c_1 c_10]; rfl) | (rw [hdi_f1 c_1]; rfl) | (rw [hdi_f2 c_10]; rfl)) rfl dX0_hasDish_18

set_option maxRecDepth 100000 in
theorem in0_X0_wholeDish : ∀ w ∈ wsX00, w ∈ wsX0_wholeDish := by decide +kernel
set_option maxHeartbeats 4000000 in
set_option maxRecDepth 100000 in
theorem c_X0_wholeDish (l : Launch) (G : cG) (a ka n : Nat) (k : Nat → Nat) (hn : n ≤ 24) : cMI l G yX0_wholeDish wsX0_wholeDish ({ frames := 0, cells := 0, slots := 0, locals := 0 }) [.ref a] [(a, .inr (0, [.ref ka, .int (nI n)])), (ka, .inl (G.2.1, 24, .inl (nF k)))] (fun (r_ : Int32) (_ : Unit) => r_ = nI (2 ^ n - 1)) (fun (_ : Unit) => [(a, .inr (0, [.ref ka, .int (nI n)])), (ka, .inl (G.2.1, 24, .inl (nF k)))]) := by
  refine cs_sI (own := RX0) (cc := cX0_wholeDish) (maxL := 1) (ret := (some .int)) (by decide) rfl rfl (Nat.le_of_ble_eq_true rfl) ?_
  intro p e s m below meth c A hx hb hr hml hts hown hlocks hinit hA hK hP hD hS ls hl
  have hin0 := in0_X0_wholeDish
  have hl : lv_has ls 1 [(0, .ref a)] := hl
  refine lv_iconst (v := nI 1) hx hb dX0_wholeDish_0 (by decide +kernel) ?_
  refine lv_aload_n hx hb dX0_wholeDish_1 rfl (lv_at hl 0 rfl) ?_
  refine va_get (D := G.1) (ci := 0) (v := .int (nI n)) (C := RX0) (T := TX0) (N := 2) hx hb hts hin0 hown hK hP 0 rfl rfl 1 (by decide) (hts (.fieldLink RX0 15 "FaultShrinker$Recipe" "size" "I") (List.mem_of_getElem? (i := 1) rfl)) (fun _ h9 => h9) rfl dX0_wholeDish_2 ?_
  refine lv_ishl hx hb dX0_wholeDish_5 ?_
  refine cs_i (y := nI (2 ^ n)) (nI_one_shl (by omega)) ?_
  refine lv_iconst (v := nI 1) hx hb dX0_wholeDish_6 (by decide +kernel) ?_
  refine lv_isub hx hb dX0_wholeDish_7 ?_
  refine cs_i (y := nI (2 ^ n - 1)) (pk_sub (Nat.one_le_two_pow)) ?_
  exact cs_iret hx hb hr hlocks hK hP hD hS (v := nI (2 ^ n - 1)) () (by first | rfl | assumption) rfl dX0_wholeDish_8

set_option maxRecDepth 100000 in
theorem in0_X0_kindAt : ∀ w ∈ wsX00, w ∈ wsX0_kindAt := by decide +kernel
set_option maxHeartbeats 4000000 in
set_option maxRecDepth 100000 in
theorem c_X0_kindAt (l : Launch) (G : cG) (a ka n : Nat) (k : Nat → Nat) (hn : n ≤ 24) (j : Nat) (hj : j < n) : cMI l G yX0_kindAt wsX0_kindAt ({ frames := 1, cells := 0, slots := 0, locals := 21 }) [.ref a, .int (nI j)] [(a, .inr (0, [.ref ka, .int (nI n)])), (ka, .inl (G.2.1, 24, .inl (nF k)))] (fun (r_ : Int32) (_ : Unit) => r_ = nI (k j)) (fun (_ : Unit) => [(a, .inr (0, [.ref ka, .int (nI n)])), (ka, .inl (G.2.1, 24, .inl (nF k)))]) := by
  refine cs_sI (own := RX0) (cc := cX0_kindAt) (maxL := 2) (ret := (some .int)) (by decide) rfl rfl (Nat.le_of_ble_eq_true rfl) ?_
  intro p e s m below meth c A hx hb hr hml hts hown hlocks hinit hA hK hP hD hS ls hl
  have hin0 := in0_X0_kindAt
  have hl : lv_has ls 2 [(0, .ref a), (1, .int (nI j))] := hl
  refine lv_aload_n hx hb dX0_kindAt_0 rfl (lv_at hl 0 rfl) ?_
  refine lv_iload_n hx hb dX0_kindAt_1 rfl (lv_at hl 1 rfl) ?_
  refine cs_vi (As := [.int (nI j)]) (rest := []) (wr := []) ⟨hx, hb, hml, hown, hts⟩ hK hP hD hS hA (c_X0_hasPlace l G a ka n k (by first | assumption | omega) (nI j)) (cwV 1 hts gX0_kindAt_X0_hasPlace rfl rfl rfl (by decide +kernel) ⟨Nat.le_of_ble_eq_true rfl, Nat.le_of_ble_eq_true rfl⟩) [0, 1] [] ⟨rfl, rfl, by decide, by decide, by decide⟩ 0 0 rfl rfl rfl hl.1 rfl (by decide) ⟨Nat.le_of_ble_eq_true rfl, Nat.le_of_ble_eq_true rfl⟩ dX0_kindAt_2 (fun r u H locs hw hP hD hS => ?_)
  have hP : va_P G.1 vwCl [(a, .inr (0, [.ref ka, .int (nI n)])), (ka, .inl (G.2.1, 24, .inl (nF k)))] H := hP.sub [0, 1] rfl
  have hD : va_D A [(a, .inr (0, [.ref ka, .int (nI n)])), (ka, .inl (G.2.1, 24, .inl (nF k)))] := hD.sub [0, 1] (by decide) rfl
  subst hw
  refine lv_if_eq (tgt := 17) hx hb dX0_kindAt_5 (by decide) (fun c_5 => ?_) (fun c_5 => ?_)
  · have c_5 := bI_0 c_5
    exact absurd c_5 (by rw [hp_nI hj hn]; decide)
  · have c_5 := bI_n0 c_5
    refine lv_aload_n hx hb dX0_kindAt_8 rfl (lv_at hl 0 rfl) ?_
    refine va_get (D := G.1) (ci := 0) (v := .ref ka) (C := RX0) (T := TX0) (N := 2) hx hb hts hin0 hown hK hP 0 rfl rfl 0 (by decide) (hts (.fieldLink RX0 9 "FaultShrinker$Recipe" "kinds" "[I") (List.mem_of_getElem? (i := 1) rfl)) (fun _ h9 => h9) rfl dX0_kindAt_9 ?_
    refine lv_iload_n hx hb dX0_kindAt_12 rfl (lv_at hl 1 rfl) ?_
    refine va_iald hx hb hK hP 1 0 rfl rfl (vp_in_nI (by omega) (by omega)) dX0_kindAt_13 ?_
    refine cs_i (y := nI (k j)) (nF_at _ (by omega)) ?_
    refine lv_goto (tgt := 18) hx hb dX0_kindAt_14 (by decide) ?_
    exact cs_iret hx hb hr hlocks hK hP hD hS (v := nI (k j)) () (by first | rfl | assumption) rfl dX0_kindAt_18

set_option maxRecDepth 100000 in
theorem in0_X0_append : ∀ w ∈ wsX00, w ∈ wsX0_append := by decide +kernel
set_option maxHeartbeats 4000000 in
set_option maxRecDepth 100000 in
theorem c_X0_append (l : Launch) (G : cG) (a ka n : Nat) (k : Nat → Nat) (hn : n < 24) (v : Nat) : cMV l G yX0_append wsX0_append ({ frames := 1, cells := 0, slots := 0, locals := 20 }) [.ref a, .int (nI v)] [(a, .inr (0, [.ref ka, .int (nI n)])), (ka, .inl (G.2.1, 24, .inl (nF k)))] (fun (_ : Unit) => True) (fun (_ : Unit) => [(a, .inr (0, [.ref ka, .int (nI (n + 1))])), (ka, .inl (G.2.1, 24, .inl (nF (va_up k n v))))]) := by
  refine cs_sV (own := RX0) (cc := cX0_append) (maxL := 2) (ret := none) (by decide) rfl rfl (Nat.le_of_ble_eq_true rfl) ?_
  intro p e s m below meth c A hx hb hr hml hts hown hlocks hinit hA hK hP hD hS ls hl
  have hin0 := in0_X0_append
  have hl : lv_has ls 2 [(0, .ref a), (1, .int (nI v))] := hl
  refine lv_aload_n hx hb dX0_append_0 rfl (lv_at hl 0 rfl) ?_
  refine cs_vi (As := []) (rest := []) (wr := []) ⟨hx, hb, hml, hown, hts⟩ hK hP hD hS hA (c_X0_isFull l G a ka n k (by first | assumption | omega)) (cwV 0 hts gX0_append_X0_isFull rfl rfl rfl (by decide +kernel) ⟨Nat.le_of_ble_eq_true rfl, Nat.le_of_ble_eq_true rfl⟩) [0, 1] [] ⟨rfl, rfl, by decide, by decide, by decide⟩ 0 0 rfl rfl rfl hl.1 rfl (by decide) ⟨Nat.le_of_ble_eq_true rfl, Nat.le_of_ble_eq_true rfl⟩ dX0_append_1 (fun r u H locs hw hP hD hS => ?_)
  have hP : va_P G.1 vwCl [(a, .inr (0, [.ref ka, .int (nI n)])), (ka, .inl (G.2.1, 24, .inl (nF k)))] H := hP.sub [0, 1] rfl
  have hD : va_D A [(a, .inr (0, [.ref ka, .int (nI n)])), (ka, .inl (G.2.1, 24, .inl (nF k)))] := hD.sub [0, 1] (by decide) rfl
  subst hw
  refine lv_if_ne (tgt := 27) hx hb dX0_append_4 (by decide) (fun c_4 => ?_) (fun c_4 => ?_)
  · have c_4 := bI_n0 c_4
    exact absurd c_4 (by rw [decide_eq_false (by omega)]; decide)
  · have c_4 := bI_0 c_4
    refine lv_aload_n hx hb dX0_append_7 rfl (lv_at hl 0 rfl) ?_
    refine va_get (D := G.1) (ci := 0) (v := .ref ka) (C := RX0) (T := TX0) (N := 2) hx hb hts hin0 hown hK hP 0 rfl rfl 0 (by decide) (hts (.fieldLink RX0 9 "FaultShrinker$Recipe" "kinds" "[I") (List.mem_of_getElem? (i := 1) rfl)) (fun _ h9 => h9) rfl dX0_append_8 ?_
    refine lv_aload_n hx hb dX0_append_11 rfl (lv_at hl 0 rfl) ?_
    refine va_get (D := G.1) (ci := 0) (v := .int (nI n)) (C := RX0) (T := TX0) (N := 2) hx hb hts hin0 hown hK hP 0 rfl rfl 1 (by decide) (hts (.fieldLink RX0 15 "FaultShrinker$Recipe" "size" "I") (List.mem_of_getElem? (i := 2) rfl)) (fun _ h9 => h9) rfl dX0_append_12 ?_
    refine lv_iload_n hx hb dX0_append_15 rfl (lv_at hl 1 rfl) ?_
    refine va_iast hx hb hK hP hD hS 1 0 rfl rfl (vp_in_nI (by omega) (by omega)) dX0_append_16 (fun H locs hP hD hS => ?_)
    rw [nF_upd _ (by omega)] at hP hD
    have hP : va_P G.1 vwCl [(a, .inr (0, [.ref ka, .int (nI n)])), (ka, .inl (G.2.1, 24, .inl (nF (va_up k n v))))] H := hP
    have hD : va_D A [(a, .inr (0, [.ref ka, .int (nI n)])), (ka, .inl (G.2.1, 24, .inl (nF (va_up k n v))))] := hD
    refine lv_aload_n hx hb dX0_append_17 rfl (lv_at hl 0 rfl) ?_
    refine lv_dup hx hb dX0_append_18 rfl ?_
    refine va_get (D := G.1) (ci := 0) (v := .int (nI n)) (C := RX0) (T := TX0) (N := 2) hx hb hts hin0 hown hK hP 0 rfl rfl 1 (by decide) (hts (.fieldLink RX0 15 "FaultShrinker$Recipe" "size" "I") (List.mem_of_getElem? (i := 2) rfl)) (fun _ h9 => h9) rfl dX0_append_19 ?_
    refine lv_iconst (v := nI 1) hx hb dX0_append_22 (by decide +kernel) ?_
    refine lv_iadd hx hb dX0_append_23 ?_
    refine cs_i (y := nI (n + 1)) (nI_add _ _) ?_
    refine va_put (D := G.1) (ci := 0) (v := .int (nI (n + 1))) (ty := .int) (C := RX0) (T := TX0) (N := 2) hx hb hts hin0 tyX0 tyX0_ok nmX0 hown hK hP hD hS 0 rfl rfl 1 (by decide) (hts (.fieldLink RX0 15 "FaultShrinker$Recipe" "size" "I") (List.mem_of_getElem? (i := 2) rfl)) (fun _ h9 => h9) rfl (by decide +kernel) rfl rfl (Nat.le_of_ble_eq_true rfl) dX0_append_24 (fun H locs hP hD hS => ?_)
    have hP : va_P G.1 vwCl [(a, .inr (0, [.ref ka, .int (nI (n + 1))])), (ka, .inl (G.2.1, 24, .inl (nF (va_up k n v))))] H := hP
    have hD : va_D A [(a, .inr (0, [.ref ka, .int (nI (n + 1))])), (ka, .inl (G.2.1, 24, .inl (nF (va_up k n v))))] := hD
    exact cs_vret hx hb hr hlocks hK hP hD hS () (trivial) rfl dX0_append_27

set_option maxRecDepth 100000 in
theorem in0_X0_takeOut : ∀ w ∈ wsX00, w ∈ wsX0_takeOut := by decide +kernel
set_option maxHeartbeats 4000000 in
set_option maxRecDepth 100000 in
theorem c_X0_takeOut (l : Launch) (G : cG) (a ka n : Nat) (k : Nat → Nat) (j : Nat) (hn : n ≤ 24) (hj : j < n) : cMV l G yX0_takeOut wsX0_takeOut ({ frames := 1, cells := 0, slots := 0, locals := 21 }) [.ref a, .int (nI j)] [(a, .inr (0, [.ref ka, .int (nI n)])), (ka, .inl (G.2.1, 24, .inl (nF k)))] (fun (_ : Unit) => True) (fun (_ : Unit) => [(a, .inr (0, [.ref ka, .int (nI (n - 1))])), (ka, .inl (G.2.1, 24, .inl (nF (tkt k j (n - 1)))))]) := by
  refine cs_sV (own := RX0) (cc := cX0_takeOut) (maxL := 3) (ret := none) (by decide) rfl rfl (Nat.le_of_ble_eq_true rfl) ?_
  intro p e s m below meth c A hx hb hr hml hts hown hlocks hinit hA hK hP hD hS ls hl
  have hin0 := in0_X0_takeOut
  have hl : lv_has ls 3 [(0, .ref a), (1, .int (nI j))] := hl
  refine lv_aload_n hx hb dX0_takeOut_0 rfl (lv_at hl 0 rfl) ?_
  refine lv_iload_n hx hb dX0_takeOut_1 rfl (lv_at hl 1 rfl) ?_
  refine cs_vi (As := [.int (nI j)]) (rest := []) (wr := []) ⟨hx, hb, hml, hown, hts⟩ hK hP hD hS hA (c_X0_hasPlace l G a ka n k (by first | assumption | omega) (nI j)) (cwV 1 hts gX0_takeOut_X0_hasPlace rfl rfl rfl (by decide +kernel) ⟨Nat.le_of_ble_eq_true rfl, Nat.le_of_ble_eq_true rfl⟩) [0, 1] [] ⟨rfl, rfl, by decide, by decide, by decide⟩ 0 0 rfl rfl rfl hl.1 rfl (by decide) ⟨Nat.le_of_ble_eq_true rfl, Nat.le_of_ble_eq_true rfl⟩ dX0_takeOut_2 (fun r u H locs hw hP hD hS => ?_)
  have hP : va_P G.1 vwCl [(a, .inr (0, [.ref ka, .int (nI n)])), (ka, .inl (G.2.1, 24, .inl (nF k)))] H := hP.sub [0, 1] rfl
  have hD : va_D A [(a, .inr (0, [.ref ka, .int (nI n)])), (ka, .inl (G.2.1, 24, .inl (nF k)))] := hD.sub [0, 1] (by decide) rfl
  subst hw
  refine lv_if_ne (tgt := 9) hx hb dX0_takeOut_5 (by decide) (fun c_5 => ?_) (fun c_5 => ?_)
  · have c_5 := bI_n0 c_5
    refine lv_iload_n hx hb dX0_takeOut_9 rfl (lv_at hl 1 rfl) ?_
    refine lv_istore_n (lv' := [(2, .int (nI j)), (0, .ref a), (1, .int (nI j))]) hx hb dX0_takeOut_10 rfl hl (by decide) rfl (fun ls hl => ?_)
    have e9 : nF k = nF (tkt k j j) := by rw [tkt_0]
    rw [e9] at hP hD
    have hP : va_P G.1 vwCl [(a, .inr (0, [.ref ka, .int (nI n)])), (ka, .inl (G.2.1, 24, .inl (nF (tkt k j j))))] H := hP
    have hD : va_D A [(a, .inr (0, [.ref ka, .int (nI n)])), (ka, .inl (G.2.1, 24, .inl (nF (tkt k j j))))] := hD
    refine cs_loop (G := G) (nL := 3) (σ := Nat) (fun (i : Nat) => n - i) (fun (i : Nat) => j ≤ i ∧ i + 1 ≤ n) (fun (i : Nat) => [(a, .inr (0, [.ref ka, .int (nI n)])), (ka, .inl (G.2.1, 24, .inl (nF (tkt k j i))))]) (fun (i : Nat) => [(0, .ref a), (1, .int (nI j)), (2, .int (nI i))]) ?_ (j) (by show j ≤ j ∧ j + 1 ≤ n; omega) (hP.sub (ws' := [(a, .inr (0, [.ref ka, .int (nI n)])), (ka, .inl (G.2.1, 24, .inl (nF (tkt k j j))))]) [0, 1] rfl) (hD.sub (ws' := [(a, .inr (0, [.ref ka, .int (nI n)])), (ka, .inl (G.2.1, 24, .inl (nF (tkt k j j))))]) [0, 1] (by decide) rfl) hS (lv_sub (l' := [(0, .ref a), (1, .int (nI j)), (2, .int (nI j))]) hl [1, 2, 0] rfl)
    rintro i hinv ih H locs ls hP hD hS hl
    have hP : va_P G.1 vwCl [(a, .inr (0, [.ref ka, .int (nI n)])), (ka, .inl (G.2.1, 24, .inl (nF (tkt k j i))))] H := hP
    have hD : va_D A [(a, .inr (0, [.ref ka, .int (nI n)])), (ka, .inl (G.2.1, 24, .inl (nF (tkt k j i))))] := hD
    have hl : lv_has ls 3 [(0, .ref a), (1, .int (nI j)), (2, .int (nI i))] := hl
    have hinv : j ≤ i ∧ i + 1 ≤ n := hinv
    refine lv_iload_n hx hb dX0_takeOut_11 rfl (lv_at hl 2 rfl) ?_
    refine lv_iconst (v := nI 1) hx hb dX0_takeOut_12 (by decide +kernel) ?_
    refine lv_iadd hx hb dX0_takeOut_13 ?_
    refine cs_i (y := nI (i + 1)) (nI_add _ _) ?_
    refine lv_aload_n hx hb dX0_takeOut_14 rfl (lv_at hl 0 rfl) ?_
    refine va_get (D := G.1) (ci := 0) (v := .int (nI n)) (C := RX0) (T := TX0) (N := 2) hx hb hts hin0 hown hK hP 0 rfl rfl 1 (by decide) (hts (.fieldLink RX0 15 "FaultShrinker$Recipe" "size" "I") (List.mem_of_getElem? (i := 1) rfl)) (fun _ h9 => h9) rfl dX0_takeOut_15 ?_
    refine lv_icmp_ge (tgt := 41) hx hb dX0_takeOut_18 (by decide) (fun c_18 => ?_) (fun c_18 => ?_)
    · have c_18 := (nI_leI (by omega) (by omega)).mp c_18
      have e7 : i = n - 1 := by omega
      try rw [e7] at hP
      try rw [e7] at hD
      try rw [e7] at hl
      refine lv_aload_n hx hb dX0_takeOut_41 rfl (lv_at hl 0 rfl) ?_
      refine lv_dup hx hb dX0_takeOut_42 rfl ?_
      refine va_get (D := G.1) (ci := 0) (v := .int (nI n)) (C := RX0) (T := TX0) (N := 2) hx hb hts hin0 hown hK hP 0 rfl rfl 1 (by decide) (hts (.fieldLink RX0 15 "FaultShrinker$Recipe" "size" "I") (List.mem_of_getElem? (i := 1) rfl)) (fun _ h9 => h9) rfl dX0_takeOut_43 ?_
      refine lv_iconst (v := nI 1) hx hb dX0_takeOut_46 (by decide +kernel) ?_
      refine lv_isub hx hb dX0_takeOut_47 ?_
      refine cs_i (y := nI (n - 1)) (pk_sub (by omega)) ?_
      refine va_put (D := G.1) (ci := 0) (v := .int (nI (n - 1))) (ty := .int) (C := RX0) (T := TX0) (N := 2) hx hb hts hin0 tyX0 tyX0_ok nmX0 hown hK hP hD hS 0 rfl rfl 1 (by decide) (hts (.fieldLink RX0 15 "FaultShrinker$Recipe" "size" "I") (List.mem_of_getElem? (i := 1) rfl)) (fun _ h9 => h9) rfl (by decide +kernel) rfl rfl (Nat.le_of_ble_eq_true rfl) dX0_takeOut_48 (fun H locs hP hD hS => ?_)
      have hP : va_P G.1 vwCl [(a, .inr (0, [.ref ka, .int (nI (n - 1))])), (ka, .inl (G.2.1, 24, .inl (nF (tkt k j (n - 1)))))] H := hP
      have hD : va_D A [(a, .inr (0, [.ref ka, .int (nI (n - 1))])), (ka, .inl (G.2.1, 24, .inl (nF (tkt k j (n - 1)))))] := hD
      exact cs_vret hx hb hr hlocks hK hP hD hS () (trivial) rfl dX0_takeOut_51
    · have c_18 := mt (nI_leI (by omega) (by omega)).mpr c_18
      refine lv_aload_n hx hb dX0_takeOut_21 rfl (lv_at hl 0 rfl) ?_
      refine va_get (D := G.1) (ci := 0) (v := .ref ka) (C := RX0) (T := TX0) (N := 2) hx hb hts hin0 hown hK hP 0 rfl rfl 0 (by decide) (hts (.fieldLink RX0 9 "FaultShrinker$Recipe" "kinds" "[I") (List.mem_of_getElem? (i := 2) rfl)) (fun _ h9 => h9) rfl dX0_takeOut_22 ?_
      refine lv_iload_n hx hb dX0_takeOut_25 rfl (lv_at hl 2 rfl) ?_
      refine lv_aload_n hx hb dX0_takeOut_26 rfl (lv_at hl 0 rfl) ?_
      refine va_get (D := G.1) (ci := 0) (v := .ref ka) (C := RX0) (T := TX0) (N := 2) hx hb hts hin0 hown hK hP 0 rfl rfl 0 (by decide) (hts (.fieldLink RX0 9 "FaultShrinker$Recipe" "kinds" "[I") (List.mem_of_getElem? (i := 2) rfl)) (fun _ h9 => h9) rfl dX0_takeOut_27 ?_
      refine lv_iload_n hx hb dX0_takeOut_30 rfl (lv_at hl 2 rfl) ?_
      refine lv_iconst (v := nI 1) hx hb dX0_takeOut_31 (by decide +kernel) ?_
      refine lv_iadd hx hb dX0_takeOut_32 ?_
      refine cs_i (y := nI (i + 1)) (nI_add _ _) ?_
      refine va_iald hx hb hK hP 1 0 rfl rfl (vp_in_nI (by omega) (by omega)) dX0_takeOut_33 ?_
      refine cs_i (y := nI ((tkt k j i) (i + 1))) (nF_at _ (by omega)) ?_
      refine va_iast hx hb hK hP hD hS 1 0 rfl rfl (vp_in_nI (by omega) (by omega)) dX0_takeOut_34 (fun H locs hP hD hS => ?_)
      rw [nF_upd _ (by omega)] at hP hD
      have hP : va_P G.1 vwCl [(a, .inr (0, [.ref ka, .int (nI n)])), (ka, .inl (G.2.1, 24, .inl (nF (va_up (tkt k j i) i ((tkt k j i) (i + 1))))))] H := hP
      have hD : va_D A [(a, .inr (0, [.ref ka, .int (nI n)])), (ka, .inl (G.2.1, 24, .inl (nF (va_up (tkt k j i) i ((tkt k j i) (i + 1))))))] := hD
      have e9 : nF (va_up (tkt k j i) i ((tkt k j i) (i + 1))) = nF (tkt k j (i + 1)) := congrArg nF (tkt_s k hinv.1)
      rw [e9] at hP hD
      have hP : va_P G.1 vwCl [(a, .inr (0, [.ref ka, .int (nI n)])), (ka, .inl (G.2.1, 24, .inl (nF (tkt k j (i + 1)))))] H := hP
      have hD : va_D A [(a, .inr (0, [.ref ka, .int (nI n)])), (ka, .inl (G.2.1, 24, .inl (nF (tkt k j (i + 1)))))] := hD
      refine lv_iinc (v := nI (i + 1)) (lv' := [(2, .int (nI (i + 1))), (0, .ref a), (1, .int (nI j))]) hx hb dX0_takeOut_35 hl (k := 2) rfl ((nI_succ i).symm) (by decide) rfl (fun ls hl => ?_)
      refine lv_goto (tgt := 11) hx hb dX0_takeOut_38 (by decide) ?_
      exact ih (i + 1) (by show n - (i + 1) < n - i; omega) (by show j ≤ (i + 1) ∧ (i + 1) + 1 ≤ n; omega) _ _ _ (hP.sub (ws' := [(a, .inr (0, [.ref ka, .int (nI n)])), (ka, .inl (G.2.1, 24, .inl (nF (tkt k j (i + 1)))))]) [0, 1] rfl) (hD.sub (ws' := [(a, .inr (0, [.ref ka, .int (nI n)])), (ka, .inl (G.2.1, 24, .inl (nF (tkt k j (i + 1)))))]) [0, 1] (by decide) rfl) hS (lv_sub (l' := [(0, .ref a), (1, .int (nI j)), (2, .int (nI (i + 1)))]) hl [1, 2, 0] rfl)
  · have c_5 := bI_0 c_5
    exact absurd c_5 (by rw [hp_nI hj hn]; decide)

set_option maxRecDepth 100000 in
theorem in0_X0_kindsOf : ∀ w ∈ wsX00, w ∈ wsX0_kindsOf := by decide +kernel
set_option maxHeartbeats 4000000 in
set_option maxRecDepth 100000 in
theorem c_X0_kindsOf (l : Launch) (G : cG) (a ka n : Nat) (k : Nat → Nat) (d : Nat) (hn : n ≤ 24) (hk : ∀ j, j < n → k j < 16) (hd : d < 2 ^ 24) : cMI l G yX0_kindsOf wsX0_kindsOf ({ frames := 0, cells := 0, slots := 0, locals := 0 }) [.ref a, .int (nI d)] [(a, .inr (0, [.ref ka, .int (nI n)])), (ka, .inl (G.2.1, 24, .inl (nF k)))] (fun (r_ : Int32) (_ : Unit) => r_ = nI (kds k d n)) (fun (_ : Unit) => [(a, .inr (0, [.ref ka, .int (nI n)])), (ka, .inl (G.2.1, 24, .inl (nF k)))]) := by
  refine cs_sI (own := RX0) (cc := cX0_kindsOf) (maxL := 4) (ret := (some .int)) (by decide) rfl rfl (Nat.le_of_ble_eq_true rfl) ?_
  intro p e s m below meth c A hx hb hr hml hts hown hlocks hinit hA hK hP hD hS ls hl
  have hin0 := in0_X0_kindsOf
  have hl : lv_has ls 4 [(0, .ref a), (1, .int (nI d))] := hl
  refine lv_iconst (v := nI 0) hx hb dX0_kindsOf_0 (by decide +kernel) ?_
  refine lv_istore_n (lv' := [(2, .int (nI 0)), (0, .ref a), (1, .int (nI d))]) hx hb dX0_kindsOf_1 rfl hl (by decide) rfl (fun ls hl => ?_)
  refine lv_iconst (v := nI 0) hx hb dX0_kindsOf_2 (by decide +kernel) ?_
  refine lv_istore_n (lv' := [(3, .int (nI 0)), (2, .int (nI 0)), (0, .ref a), (1, .int (nI d))]) hx hb dX0_kindsOf_3 rfl hl (by decide) rfl (fun ls hl => ?_)
  refine cs_loop (G := G) (nL := 4) (σ := Nat) (fun (i : Nat) => n - i) (fun (i : Nat) => i ≤ n) (fun (i : Nat) => [(a, .inr (0, [.ref ka, .int (nI n)])), (ka, .inl (G.2.1, 24, .inl (nF k)))]) (fun (i : Nat) => [(0, .ref a), (1, .int (nI d)), (2, .int (nI (kds k d i))), (3, .int (nI i))]) ?_ (0) (by show 0 ≤ n; omega) (hP.sub (ws' := [(a, .inr (0, [.ref ka, .int (nI n)])), (ka, .inl (G.2.1, 24, .inl (nF k)))]) [0, 1] rfl) (hD.sub (ws' := [(a, .inr (0, [.ref ka, .int (nI n)])), (ka, .inl (G.2.1, 24, .inl (nF k)))]) [0, 1] (by decide) rfl) hS (lv_sub (l' := [(0, .ref a), (1, .int (nI d)), (2, .int (nI (kds k d 0))), (3, .int (nI 0))]) hl [2, 3, 1, 0] rfl)
  rintro i hinv ih H locs ls hP hD hS hl
  have hP : va_P G.1 vwCl [(a, .inr (0, [.ref ka, .int (nI n)])), (ka, .inl (G.2.1, 24, .inl (nF k)))] H := hP
  have hD : va_D A [(a, .inr (0, [.ref ka, .int (nI n)])), (ka, .inl (G.2.1, 24, .inl (nF k)))] := hD
  have hl : lv_has ls 4 [(0, .ref a), (1, .int (nI d)), (2, .int (nI (kds k d i))), (3, .int (nI i))] := hl
  have hinv : i ≤ n := hinv
  refine lv_iload_n hx hb dX0_kindsOf_4 rfl (lv_at hl 3 rfl) ?_
  refine lv_aload_n hx hb dX0_kindsOf_5 rfl (lv_at hl 0 rfl) ?_
  refine va_get (D := G.1) (ci := 0) (v := .int (nI n)) (C := RX0) (T := TX0) (N := 2) hx hb hts hin0 hown hK hP 0 rfl rfl 1 (by decide) (hts (.fieldLink RX0 15 "FaultShrinker$Recipe" "size" "I") (List.mem_of_getElem? (i := 1) rfl)) (fun _ h9 => h9) rfl dX0_kindsOf_6 ?_
  refine lv_icmp_ge (tgt := 37) hx hb dX0_kindsOf_9 (by decide) (fun c_9 => ?_) (fun c_9 => ?_)
  · have c_9 := (nI_leI (by omega) (by omega)).mp c_9
    have e7 : i = n := by omega
    subst e7
    refine lv_iload_n hx hb dX0_kindsOf_37 rfl (lv_at hl 2 rfl) ?_
    exact cs_iret hx hb hr hlocks hK hP hD hS (v := nI (kds k d i)) () (by first | rfl | assumption) rfl dX0_kindsOf_38
  · have c_9 := mt (nI_leI (by omega) (by omega)).mpr c_9
    refine lv_iload_n hx hb dX0_kindsOf_12 rfl (lv_at hl 1 rfl) ?_
    refine lv_iload_n hx hb dX0_kindsOf_13 rfl (lv_at hl 3 rfl) ?_
    refine lv_ishr hx hb dX0_kindsOf_14 ?_
    refine cs_i (y := nI (d >>> i)) (nI_shr (by omega) (by omega)) ?_
    refine lv_iconst (v := nI 1) hx hb dX0_kindsOf_15 (by decide +kernel) ?_
    refine lv_iand hx hb dX0_kindsOf_16 ?_
    refine cs_i (y := bI (d.testBit i)) (by rw [fa_and]; exact bitI d i) ?_
    refine lv_if_eq (tgt := 31) hx hb dX0_kindsOf_17 (by decide) (fun c_17 => ?_) (fun c_17 => ?_)
    · have c_17 := bI_0 c_17
      refine lv_iinc (v := nI (i + 1)) (lv' := [(3, .int (nI (i + 1))), (0, .ref a), (1, .int (nI d)), (2, .int (nI (kds k d i)))]) hx hb dX0_kindsOf_31 hl (k := 3) rfl ((nI_succ i).symm) (by decide) rfl (fun ls hl => ?_)
      have e8 : nI (kds k d i) = nI (kds k d (i + 1)) := by first | exact congrArg nI (kds_f c_17).symm | exact congrArg nI (kds_t c_17).symm
      rw [e8] at hl
      refine lv_goto (tgt := 4) hx hb dX0_kindsOf_34 (by decide) ?_
      exact ih (i + 1) (by show n - (i + 1) < n - i; omega) (by show (i + 1) ≤ n; omega) _ _ _ (hP.sub (ws' := [(a, .inr (0, [.ref ka, .int (nI n)])), (ka, .inl (G.2.1, 24, .inl (nF k)))]) [0, 1] rfl) (hD.sub (ws' := [(a, .inr (0, [.ref ka, .int (nI n)])), (ka, .inl (G.2.1, 24, .inl (nF k)))]) [0, 1] (by decide) rfl) hS (lv_sub (l' := [(0, .ref a), (1, .int (nI d)), (2, .int (nI (kds k d (i + 1)))), (3, .int (nI (i + 1)))]) hl [1, 2, 3, 0] rfl)
    · have c_17 := bI_n0 c_17
      have hki := hk i (by omega)
      refine lv_iload_n hx hb dX0_kindsOf_20 rfl (lv_at hl 2 rfl) ?_
      refine lv_iconst (v := nI 1) hx hb dX0_kindsOf_21 (by decide +kernel) ?_
      refine lv_aload_n hx hb dX0_kindsOf_22 rfl (lv_at hl 0 rfl) ?_
      refine va_get (D := G.1) (ci := 0) (v := .ref ka) (C := RX0) (T := TX0) (N := 2) hx hb hts hin0 hown hK hP 0 rfl rfl 0 (by decide) (hts (.fieldLink RX0 9 "FaultShrinker$Recipe" "kinds" "[I") (List.mem_of_getElem? (i := 2) rfl)) (fun _ h9 => h9) rfl dX0_kindsOf_23 ?_
      refine lv_iload_n hx hb dX0_kindsOf_26 rfl (lv_at hl 3 rfl) ?_
      refine va_iald hx hb hK hP 1 0 rfl rfl (vp_in_nI (by omega) (by omega)) dX0_kindsOf_27 ?_
      refine cs_i (y := nI (k i)) (nF_at _ (by omega)) ?_
      refine lv_ishl hx hb dX0_kindsOf_28 ?_
      refine cs_i (y := nI (2 ^ (k i))) (nI_one_shl (by omega)) ?_
      refine lv_ior hx hb dX0_kindsOf_29 ?_
      refine cs_i (y := nI ((kds k d i) ||| (2 ^ (k i)))) (fa_or _ _) ?_
      refine lv_istore_n (lv' := [(2, .int (nI ((kds k d i) ||| (2 ^ (k i))))), (0, .ref a), (1, .int (nI d)), (3, .int (nI i))]) hx hb dX0_kindsOf_30 rfl hl (by decide) rfl (fun ls hl => ?_)
      refine lv_iinc (v := nI (i + 1)) (lv' := [(3, .int (nI (i + 1))), (2, .int (nI ((kds k d i) ||| (2 ^ (k i))))), (0, .ref a), (1, .int (nI d))]) hx hb dX0_kindsOf_31 hl (k := 3) rfl ((nI_succ i).symm) (by decide) rfl (fun ls hl => ?_)
      have e8 : nI ((kds k d i) ||| (2 ^ (k i))) = nI (kds k d (i + 1)) := by first | exact congrArg nI (kds_f c_17).symm | exact congrArg nI (kds_t c_17).symm
      rw [e8] at hl
      refine lv_goto (tgt := 4) hx hb dX0_kindsOf_34 (by decide) ?_
      exact ih (i + 1) (by show n - (i + 1) < n - i; omega) (by show (i + 1) ≤ n; omega) _ _ _ (hP.sub (ws' := [(a, .inr (0, [.ref ka, .int (nI n)])), (ka, .inl (G.2.1, 24, .inl (nF k)))]) [0, 1] rfl) (hD.sub (ws' := [(a, .inr (0, [.ref ka, .int (nI n)])), (ka, .inl (G.2.1, 24, .inl (nF k)))]) [0, 1] (by decide) rfl) hS (lv_sub (l' := [(0, .ref a), (1, .int (nI d)), (2, .int (nI (kds k d (i + 1)))), (3, .int (nI (i + 1)))]) hl [2, 3, 1, 0] rfl)
