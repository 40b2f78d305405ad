set_option maxRecDepth 100000 in
theorem in1_X1_size : ∀ w ∈ wsX10, w ∈ wsX1_size := by decide +kernel
set_option maxHeartbeats 4000000 in
set_option maxRecDepth 100000 in
theorem c_X1_size (l : Launch) (G : cG) (b nb sb rc : Nat) (ne sp : Nat → Nat) (hrc : rc ≤ 6) : cMI l G yX1_size wsX1_size ({ frames := 0, cells := 0, slots := 0, locals := 0 }) [.ref b] [(b, .inr (1, [.ref nb, .ref sb, .int (nI rc)])), (nb, .inl (G.2.1, 6, .inl (nF ne))), (sb, .inl (G.2.1, 6, .inl (nF sp)))] (fun (r_ : Int32) (_ : Unit) => r_ = nI rc) (fun (_ : Unit) => [(b, .inr (1, [.ref nb, .ref sb, .int (nI rc)])), (nb, .inl (G.2.1, 6, .inl (nF ne))), (sb, .inl (G.2.1, 6, .inl (nF sp)))]) := by
  refine cs_sI (own := RX1) (cc := cX1_size) (maxL := 1) (ret := (some .int)) (by decide) rfl rfl (Nat.le_of_ble_eq_true rfl) ?_
  intro p e s m below meth c A hx hb hr hml hts hown hlocks hinit hA hK hP hD hS ls hl
  have hin1 := in1_X1_size
  have hl : lv_has ls 1 [(0, .ref b)] := hl
  refine lv_aload_n hx hb dX1_size_0 rfl (lv_at hl 0 rfl) ?_
  refine va_get (D := G.1) (ci := 1) (v := .int (nI rc)) (C := RX1) (T := TX1) (N := 3) hx hb hts hin1 hown hK hP 0 rfl rfl 2 (by decide) (hts (.fieldLink RX1 18 "FaultShrinker$RuleBook" "size" "I") (List.mem_of_getElem? (i := 1) rfl)) (fun _ h9 => h9) rfl dX1_size_1 ?_
  exact cs_iret hx hb hr hlocks hK hP hD hS (v := nI rc) () (by first | rfl | assumption) rfl dX1_size_4

set_option maxRecDepth 100000 in
theorem in1_X1_isFull : ∀ w ∈ wsX10, w ∈ wsX1_isFull := by decide +kernel
set_option maxHeartbeats 4000000 in
set_option maxRecDepth 100000 in
theorem c_X1_isFull (l : Launch) (G : cG) (b nb sb rc : Nat) (ne sp : Nat → Nat) (hrc : rc ≤ 6) : cMI l G yX1_isFull wsX1_isFull ({ frames := 0, cells := 0, slots := 0, locals := 0 }) [.ref b] [(b, .inr (1, [.ref nb, .ref sb, .int (nI rc)])), (nb, .inl (G.2.1, 6, .inl (nF ne))), (sb, .inl (G.2.1, 6, .inl (nF sp)))] (fun (r_ : Int32) (_ : Unit) => r_ = bI (decide (6 ≤ rc))) (fun (_ : Unit) => [(b, .inr (1, [.ref nb, .ref sb, .int (nI rc)])), (nb, .inl (G.2.1, 6, .inl (nF ne))), (sb, .inl (G.2.1, 6, .inl (nF sp)))]) := by
  refine cs_sI (own := RX1) (cc := cX1_isFull) (maxL := 1) (ret := (some .boolean)) (by decide) rfl rfl (Nat.le_of_ble_eq_true rfl) ?_
  intro p e s m below meth c A hx hb hr hml hts hown hlocks hinit hA hK hP hD hS ls hl
  have hin1 := in1_X1_isFull
  have hl : lv_has ls 1 [(0, .ref b)] := hl
  refine lv_aload_n hx hb dX1_isFull_0 rfl (lv_at hl 0 rfl) ?_
  refine va_get (D := G.1) (ci := 1) (v := .int (nI rc)) (C := RX1) (T := TX1) (N := 3) hx hb hts hin1 hown hK hP 0 rfl rfl 2 (by decide) (hts (.fieldLink RX1 18 "FaultShrinker$RuleBook" "size" "I") (List.mem_of_getElem? (i := 1) rfl)) (fun _ h9 => h9) rfl dX1_isFull_1 ?_
  refine lv_bipush (v := nI 6) hx hb dX1_isFull_4 (by decide +kernel) ?_
  refine lv_icmp_lt (tgt := 13) hx hb dX1_isFull_6 (by decide) (fun c_6 => ?_) (fun c_6 => ?_)
  · have c_6 := (nI_ltI (by omega) (by omega)).mp c_6
    refine lv_iconst (v := nI 0) hx hb dX1_isFull_13 (by decide +kernel) ?_
    exact cs_zret hx hb hr hlocks hK hP hD hS (v := nI 0) (rfl) () (by first | (rw [decide_eq_true (by omega)]; rfl) | (rw [decide_eq_false (by omega)]; rfl)) rfl dX1_isFull_14
  · have c_6 := mt (nI_ltI (by omega) (by omega)).mpr c_6
    refine lv_iconst (v := nI 1) hx hb dX1_isFull_9 (by decide +kernel) ?_
    refine lv_goto (tgt := 14) hx hb dX1_isFull_10 (by decide) ?_
    exact cs_zret hx hb hr hlocks hK hP hD hS (v := nI 1) (rfl) () (by first | (rw [decide_eq_true (by omega)]; rfl) | (rw [decide_eq_false (by omega)]; rfl)) rfl dX1_isFull_14

set_option maxRecDepth 100000 in
theorem in1_X1_hasRule : ∀ w ∈ wsX10, w ∈ wsX1_hasRule := by decide +kernel
set_option maxHeartbeats 4000000 in
set_option maxRecDepth 100000 in
theorem c_X1_hasRule (l : Launch) (G : cG) (b nb sb rc : Nat) (ne sp : Nat → Nat) (hrc : rc ≤ 6) (x : Int32) : cMI l G yX1_hasRule wsX1_hasRule ({ frames := 0, cells := 0, slots := 0, locals := 0 }) [.ref b, .int x] [(b, .inr (1, [.ref nb, .ref sb, .int (nI rc)])), (nb, .inl (G.2.1, 6, .inl (nF ne))), (sb, .inl (G.2.1, 6, .inl (nF sp)))] (fun (r_ : Int32) (_ : Unit) => r_ = bI (hp x rc)) (fun (_ : Unit) => [(b, .inr (1, [.ref nb, .ref sb, .int (nI rc)])), (nb, .inl (G.2.1, 6, .inl (nF ne))), (sb, .inl (G.2.1, 6, .inl (nF sp)))]) := by
  refine cs_sI (own := RX1) (cc := cX1_hasRule) (maxL := 2) (ret := (some .boolean)) (by decide) rfl rfl (Nat.le_of_ble_eq_true rfl) ?_
  intro p e s m below meth c A hx hb hr hml hts hown hlocks hinit hA hK hP hD hS ls hl
  have hin1 := in1_X1_hasRule
  have hl : lv_has ls 2 [(0, .ref b), (1, .int x)] := hl
  refine lv_iload_n hx hb dX1_hasRule_0 rfl (lv_at hl 1 rfl) ?_
  refine lv_if_lt (tgt := 16) hx hb dX1_hasRule_1 (by decide) (fun c_1 => ?_) (fun c_1 => ?_)
  · refine lv_iconst (v := nI 0) hx hb dX1_hasRule_16 (by decide +kernel) ?_
    exact cs_zret hx hb hr hlocks hK hP hD hS (v := nI 0) (rfl) () (by first | (rw [hp_t c_1 c_9]; rfl) | (rw [hp_f1 c_1]; rfl) | (rw [hp_f2 c_9]; rfl)) rfl dX1_hasRule_17
  · refine lv_iload_n hx hb dX1_hasRule_4 rfl (lv_at hl 1 rfl) ?_
    refine lv_aload_n hx hb dX1_hasRule_5 rfl (lv_at hl 0 rfl) ?_
    refine va_get (D := G.1) (ci := 1) (v := .int (nI rc)) (C := RX1) (T := TX1) (N := 3) hx hb hts hin1 hown hK hP 0 rfl rfl 2 (by decide) (hts (.fieldLink RX1 18 "FaultShrinker$RuleBook" "size" "I") (List.mem_of_getElem? (i := 1) rfl)) (fun _ h9 => h9) rfl dX1_hasRule_6 ?_
    refine lv_icmp_ge (tgt := 16) hx hb dX1_hasRule_9 (by decide) (fun c_9 => ?_) (fun c_9 => ?_)
    · refine lv_iconst (v := nI 0) hx hb dX1_hasRule_16 (by decide +kernel) ?_
      exact cs_zret hx hb hr hlocks hK hP hD hS (v := nI 0) (rfl) () (by first | (rw [hp_t c_1 c_9]; rfl) | (rw [hp_f1 c_1]; rfl) | (rw [hp_f2 c_9]; rfl)) rfl dX1_hasRule_17
    · refine lv_iconst (v := nI 1) hx hb dX1_hasRule_12 (by decide +kernel) ?_
      refine lv_goto (tgt := 17) hx hb dX1_hasRule_13 (by decide) ?_
      exact cs_zret hx hb hr hlocks hK hP hD hS (v := nI 1) (rfl) () (by first | (rw [hp_t c_1 c_9]; rfl) | (rw [hp_f1 c_1]; rfl) | (rw [hp_f2 c_9]; rfl)) rfl dX1_hasRule_17

set_option maxRecDepth 100000 in
theorem in1_X1_append : ∀ w ∈ wsX10, w ∈ wsX1_append := by decide +kernel
set_option maxHeartbeats 4000000 in
set_option maxRecDepth 100000 in
theorem c_X1_append (l : Launch) (G : cG) (b nb sb rc : Nat) (ne sp : Nat → Nat) (hrc : rc < 6) : cMV l G yX1_append wsX1_append ({ frames := 1, cells := 0, slots := 0, locals := 20 }) [.ref b] [(b, .inr (1, [.ref nb, .ref sb, .int (nI rc)])), (nb, .inl (G.2.1, 6, .inl (nF ne))), (sb, .inl (G.2.1, 6, .inl (nF sp)))] (fun (_ : Unit) => True) (fun (_ : Unit) => [(b, .inr (1, [.ref nb, .ref sb, .int (nI (rc + 1))])), (nb, .inl (G.2.1, 6, .inl (nF ne))), (sb, .inl (G.2.1, 6, .inl (nF sp)))]) := by
  refine cs_sV (own := RX1) (cc := cX1_append) (maxL := 1) (ret := none) (by decide) rfl rfl (Nat.le_of_ble_eq_true rfl) ?_
  intro p e s m below meth c A hx hb hr hml hts hown hlocks hinit hA hK hP hD hS ls hl
  have hin1 := in1_X1_append
  have hl : lv_has ls 1 [(0, .ref b)] := hl
  refine lv_aload_n hx hb dX1_append_0 rfl (lv_at hl 0 rfl) ?_
  refine cs_vi (As := []) (rest := []) (wr := []) ⟨hx, hb, hml, hown, hts⟩ hK hP hD hS hA (c_X1_isFull l G b nb sb rc ne sp (by first | assumption | omega)) (cwV 0 hts gX1_append_X1_isFull rfl rfl rfl (by decide +kernel) ⟨Nat.le_of_ble_eq_true rfl, Nat.le_of_ble_eq_true rfl⟩) [0, 1, 2] [] ⟨rfl, rfl, by decide, by decide, by decide⟩ 0 1 rfl rfl rfl hl.1 rfl (by decide) ⟨Nat.le_of_ble_eq_true rfl, Nat.le_of_ble_eq_true rfl⟩ dX1_append_1 (fun r u H locs hw hP hD hS => ?_)
  have hP : va_P G.1 vwCl [(b, .inr (1, [.ref nb, .ref sb, .int (nI rc)])), (nb, .inl (G.2.1, 6, .inl (nF ne))), (sb, .inl (G.2.1, 6, .inl (nF sp)))] H := hP.sub [0, 1, 2] rfl
  have hD : va_D A [(b, .inr (1, [.ref nb, .ref sb, .int (nI rc)])), (nb, .inl (G.2.1, 6, .inl (nF ne))), (sb, .inl (G.2.1, 6, .inl (nF sp)))] := hD.sub [0, 1, 2] (by decide) rfl
  subst hw
  refine lv_if_ne (tgt := 17) hx hb dX1_append_4 (by decide) (fun c_4 => ?_) (fun c_4 => ?_)
  · have c_4 := bI_n0 c_4
    exact absurd c_4 (by rw [decide_eq_false (by omega)]; decide)
  · have c_4 := bI_0 c_4
    refine lv_aload_n hx hb dX1_append_7 rfl (lv_at hl 0 rfl) ?_
    refine lv_dup hx hb dX1_append_8 rfl ?_
    refine va_get (D := G.1) (ci := 1) (v := .int (nI rc)) (C := RX1) (T := TX1) (N := 3) hx hb hts hin1 hown hK hP 0 rfl rfl 2 (by decide) (hts (.fieldLink RX1 18 "FaultShrinker$RuleBook" "size" "I") (List.mem_of_getElem? (i := 1) rfl)) (fun _ h9 => h9) rfl dX1_append_9 ?_
    refine lv_iconst (v := nI 1) hx hb dX1_append_12 (by decide +kernel) ?_
    refine lv_iadd hx hb dX1_append_13 ?_
    refine cs_i (y := nI (rc + 1)) (nI_add _ _) ?_
    refine va_put (D := G.1) (ci := 1) (v := .int (nI (rc + 1))) (ty := .int) (C := RX1) (T := TX1) (N := 3) hx hb hts hin1 tyX1 tyX1_ok nmX1 hown hK hP hD hS 0 rfl rfl 2 (by decide) (hts (.fieldLink RX1 18 "FaultShrinker$RuleBook" "size" "I") (List.mem_of_getElem? (i := 1) rfl)) (fun _ h9 => h9) rfl (by decide +kernel) rfl rfl (Nat.le_of_ble_eq_true rfl) dX1_append_14 (fun H locs hP hD hS => ?_)
    have hP : va_P G.1 vwCl [(b, .inr (1, [.ref nb, .ref sb, .int (nI (rc + 1))])), (nb, .inl (G.2.1, 6, .inl (nF ne))), (sb, .inl (G.2.1, 6, .inl (nF sp)))] H := hP
    have hD : va_D A [(b, .inr (1, [.ref nb, .ref sb, .int (nI (rc + 1))])), (nb, .inl (G.2.1, 6, .inl (nF ne))), (sb, .inl (G.2.1, 6, .inl (nF sp)))] := hD
    exact cs_vret hx hb hr hlocks hK hP hD hS () (trivial) rfl dX1_append_17

set_option maxRecDepth 100000 in
theorem in1_X1_neededBy : ∀ w ∈ wsX10, w ∈ wsX1_neededBy := by decide +kernel
set_option maxHeartbeats 4000000 in
set_option maxRecDepth 100000 in
theorem c_X1_neededBy (l : Launch) (G : cG) (b nb sb rc : Nat) (ne sp : Nat → Nat) (hrc : rc ≤ 6) (j : Nat) (hj : j < rc) : cMI l G yX1_neededBy wsX1_neededBy ({ frames := 1, cells := 0, slots := 0, locals := 21 }) [.ref b, .int (nI j)] [(b, .inr (1, [.ref nb, .ref sb, .int (nI rc)])), (nb, .inl (G.2.1, 6, .inl (nF ne))), (sb, .inl (G.2.1, 6, .inl (nF sp)))] (fun (r_ : Int32) (_ : Unit) => r_ = nI (ne j)) (fun (_ : Unit) => [(b, .inr (1, [.ref nb, .ref sb, .int (nI rc)])), (nb, .inl (G.2.1, 6, .inl (nF ne))), (sb, .inl (G.2.1, 6, .inl (nF sp)))]) := by
  refine cs_sI (own := RX1) (cc := cX1_neededBy) (maxL := 2) (ret := (some .int)) (by decide) rfl rfl (Nat.le_of_ble_eq_true rfl) ?_
  intro p e s m below meth c A hx hb hr hml hts hown hlocks hinit hA hK hP hD hS ls hl
  have hin1 := in1_X1_neededBy
  have hl : lv_has ls 2 [(0, .ref b), (1, .int (nI j))] := hl
  refine lv_aload_n hx hb dX1_neededBy_0 rfl (lv_at hl 0 rfl) ?_
  refine lv_iload_n hx hb dX1_neededBy_1 rfl (lv_at hl 1 rfl) ?_
  refine cs_vi (As := [.int (nI j)]) (rest := []) (wr := []) ⟨hx, hb, hml, hown, hts⟩ hK hP hD hS hA (c_X1_hasRule l G b nb sb rc ne sp (by first | assumption | omega) (nI j)) (cwV 1 hts gX1_neededBy_X1_hasRule rfl rfl rfl (by decide +kernel) ⟨Nat.le_of_ble_eq_true rfl, Nat.le_of_ble_eq_true rfl⟩) [0, 1, 2] [] ⟨rfl, rfl, by decide, by decide, by decide⟩ 0 1 rfl rfl rfl hl.1 rfl (by decide) ⟨Nat.le_of_ble_eq_true rfl, Nat.le_of_ble_eq_true rfl⟩ dX1_neededBy_2 (fun r u H locs hw hP hD hS => ?_)
  have hP : va_P G.1 vwCl [(b, .inr (1, [.ref nb, .ref sb, .int (nI rc)])), (nb, .inl (G.2.1, 6, .inl (nF ne))), (sb, .inl (G.2.1, 6, .inl (nF sp)))] H := hP.sub [0, 1, 2] rfl
  have hD : va_D A [(b, .inr (1, [.ref nb, .ref sb, .int (nI rc)])), (nb, .inl (G.2.1, 6, .inl (nF ne))), (sb, .inl (G.2.1, 6, .inl (nF sp)))] := hD.sub [0, 1, 2] (by decide) rfl
  subst hw
  refine lv_if_eq (tgt := 17) hx hb dX1_neededBy_5 (by decide) (fun c_5 => ?_) (fun c_5 => ?_)
  · have c_5 := bI_0 c_5
    exact absurd c_5 (by rw [hp_nI hj (by omega)]; decide)
  · have c_5 := bI_n0 c_5
    refine lv_aload_n hx hb dX1_neededBy_8 rfl (lv_at hl 0 rfl) ?_
    refine va_get (D := G.1) (ci := 1) (v := .ref nb) (C := RX1) (T := TX1) (N := 3) hx hb hts hin1 hown hK hP 0 rfl rfl 0 (by decide) (hts (.fieldLink RX1 9 "FaultShrinker$RuleBook" "needed" "[I") (List.mem_of_getElem? (i := 1) rfl)) (fun _ h9 => h9) rfl dX1_neededBy_9 ?_
    refine lv_iload_n hx hb dX1_neededBy_12 rfl (lv_at hl 1 rfl) ?_
    refine va_iald hx hb hK hP 1 0 rfl rfl (vp_in_nI (by omega) (by omega)) dX1_neededBy_13 ?_
    refine cs_i (y := nI (ne j)) (nF_at _ (by omega)) ?_
    refine lv_goto (tgt := 18) hx hb dX1_neededBy_14 (by decide) ?_
    exact cs_iret hx hb hr hlocks hK hP hD hS (v := nI (ne j)) () (by first | rfl | assumption) rfl dX1_neededBy_18

set_option maxRecDepth 100000 in
theorem in1_X1_sparedBy : ∀ w ∈ wsX10, w ∈ wsX1_sparedBy := by decide +kernel
set_option maxHeartbeats 4000000 in
set_option maxRecDepth 100000 in
theorem c_X1_sparedBy (l : Launch) (G : cG) (b nb sb rc : Nat) (ne sp : Nat → Nat) (hrc : rc ≤ 6) (j : Nat) (hj : j < rc) : cMI l G yX1_sparedBy wsX1_sparedBy ({ frames := 1, cells := 0, slots := 0, locals := 21 }) [.ref b, .int (nI j)] [(b, .inr (1, [.ref nb, .ref sb, .int (nI rc)])), (nb, .inl (G.2.1, 6, .inl (nF ne))), (sb, .inl (G.2.1, 6, .inl (nF sp)))] (fun (r_ : Int32) (_ : Unit) => r_ = nI (sp j)) (fun (_ : Unit) => [(b, .inr (1, [.ref nb, .ref sb, .int (nI rc)])), (nb, .inl (G.2.1, 6, .inl (nF ne))), (sb, .inl (G.2.1, 6, .inl (nF sp)))]) := by
  refine cs_sI (own := RX1) (cc := cX1_sparedBy) (maxL := 2) (ret := (some .int)) (by decide) rfl rfl (Nat.le_of_ble_eq_true rfl) ?_
  intro p e s m below meth c A hx hb hr hml hts hown hlocks hinit hA hK hP hD hS ls hl
  have hin1 := in1_X1_sparedBy
  have hl : lv_has ls 2 [(0, .ref b), (1, .int (nI j))] := hl
  refine lv_aload_n hx hb dX1_sparedBy_0 rfl (lv_at hl 0 rfl) ?_
  refine lv_iload_n hx hb dX1_sparedBy_1 rfl (lv_at hl 1 rfl) ?_
  refine cs_vi (As := [.int (nI j)]) (rest := []) (wr := []) ⟨hx, hb, hml, hown, hts⟩ hK hP hD hS hA (c_X1_hasRule l G b nb sb rc ne sp (by first | assumption | omega) (nI j)) (cwV 1 hts gX1_sparedBy_X1_hasRule rfl rfl rfl (by decide +kernel) ⟨Nat.le_of_ble_eq_true rfl, Nat.le_of_ble_eq_true rfl⟩) [0, 1, 2] [] ⟨rfl, rfl, by decide, by decide, by decide⟩ 0 1 rfl rfl rfl hl.1 rfl (by decide) ⟨Nat.le_of_ble_eq_true rfl, Nat.le_of_ble_eq_true rfl⟩ dX1_sparedBy_2 (fun r u H locs hw hP hD hS => ?_)
  have hP : va_P G.1 vwCl [(b, .inr (1, [.ref nb, .ref sb, .int (nI rc)])), (nb, .inl (G.2.1, 6, .inl (nF ne))), (sb, .inl (G.2.1, 6, .inl (nF sp)))] H := hP.sub [0, 1, 2] rfl
  have hD : va_D A [(b, .inr (1, [.ref nb, .ref sb, .int (nI rc)])), (nb, .inl (G.2.1, 6, .inl (nF ne))), (sb, .inl (G.2.1, 6, .inl (nF sp)))] := hD.sub [0, 1, 2] (by decide) rfl
  subst hw
  refine lv_if_eq (tgt := 17) hx hb dX1_sparedBy_5 (by decide) (fun c_5 => ?_) (fun c_5 => ?_)
  · have c_5 := bI_0 c_5
    exact absurd c_5 (by rw [hp_nI hj (by omega)]; decide)
  · have c_5 := bI_n0 c_5
    refine lv_aload_n hx hb dX1_sparedBy_8 rfl (lv_at hl 0 rfl) ?_
    refine va_get (D := G.1) (ci := 1) (v := .ref sb) (C := RX1) (T := TX1) (N := 3) hx hb hts hin1 hown hK hP 0 rfl rfl 1 (by decide) (hts (.fieldLink RX1 15 "FaultShrinker$RuleBook" "spared" "[I") (List.mem_of_getElem? (i := 1) rfl)) (fun _ h9 => h9) rfl dX1_sparedBy_9 ?_
    refine lv_iload_n hx hb dX1_sparedBy_12 rfl (lv_at hl 1 rfl) ?_
    refine va_iald hx hb hK hP 2 0 rfl rfl (vp_in_nI (by omega) (by omega)) dX1_sparedBy_13 ?_
    refine cs_i (y := nI (sp j)) (nF_at _ (by omega)) ?_
    refine lv_goto (tgt := 18) hx hb dX1_sparedBy_14 (by decide) ?_
    exact cs_iret hx hb hr hlocks hK hP hD hS (v := nI (sp j)) () (by first | rfl | assumption) rfl dX1_sparedBy_18

set_option maxRecDepth 100000 in
theorem in1_X1_putNeeded : ∀ w ∈ wsX10, w ∈ wsX1_putNeeded := by decide +kernel
set_option maxHeartbeats 4000000 in
set_option maxRecDepth 100000 in
theorem c_X1_putNeeded (l : Launch) (G : cG) (b nb sb rc : Nat) (ne sp : Nat → Nat) (hrc : rc ≤ 6) (j v : Nat) (hj : j < rc) : cMV l G yX1_putNeeded wsX1_putNeeded ({ frames := 1, cells := 0, slots := 0, locals := 21 }) [.ref b, .int (nI j), .int (nI v)] [(b, .inr (1, [.ref nb, .ref sb, .int (nI rc)])), (nb, .inl (G.2.1, 6, .inl (nF ne))), (sb, .inl (G.2.1, 6, .inl (nF sp)))] (fun (_ : Unit) => True) (fun (_ : Unit) => [(b, .inr (1, [.ref nb, .ref sb, .int (nI rc)])), (nb, .inl (G.2.1, 6, .inl (nF (va_up ne j v)))), (sb, .inl (G.2.1, 6, .inl (nF sp)))]) := by
  refine cs_sV (own := RX1) (cc := cX1_putNeeded) (maxL := 3) (ret := none) (by decide) rfl rfl (Nat.le_of_ble_eq_true rfl) ?_
  intro p e s m below meth c A hx hb hr hml hts hown hlocks hinit hA hK hP hD hS ls hl
  have hin1 := in1_X1_putNeeded
  have hl : lv_has ls 3 [(0, .ref b), (1, .int (nI j)), (2, .int (nI v))] := hl
  refine lv_aload_n hx hb dX1_putNeeded_0 rfl (lv_at hl 0 rfl) ?_
  refine lv_iload_n hx hb dX1_putNeeded_1 rfl (lv_at hl 1 rfl) ?_
  refine cs_vi (As := [.int (nI j)]) (rest := []) (wr := []) ⟨hx, hb, hml, hown, hts⟩ hK hP hD hS hA (c_X1_hasRule l G b nb sb rc ne sp (by first | assumption | omega) (nI j)) (cwV 1 hts gX1_putNeeded_X1_hasRule rfl rfl rfl (by decide +kernel) ⟨Nat.le_of_ble_eq_true rfl, Nat.le_of_ble_eq_true rfl⟩) [0, 1, 2] [] ⟨rfl, rfl, by decide, by decide, by decide⟩ 0 1 rfl rfl rfl hl.1 rfl (by decide) ⟨Nat.le_of_ble_eq_true rfl, Nat.le_of_ble_eq_true rfl⟩ dX1_putNeeded_2 (fun r u H locs hw hP hD hS => ?_)
  have hP : va_P G.1 vwCl [(b, .inr (1, [.ref nb, .ref sb, .int (nI rc)])), (nb, .inl (G.2.1, 6, .inl (nF ne))), (sb, .inl (G.2.1, 6, .inl (nF sp)))] H := hP.sub [0, 1, 2] rfl
  have hD : va_D A [(b, .inr (1, [.ref nb, .ref sb, .int (nI rc)])), (nb, .inl (G.2.1, 6, .inl (nF ne))), (sb, .inl (G.2.1, 6, .inl (nF sp)))] := hD.sub [0, 1, 2] (by decide) rfl
  subst hw
  refine lv_if_eq (tgt := 15) hx hb dX1_putNeeded_5 (by decide) (fun c_5 => ?_) (fun c_5 => ?_)
  · have c_5 := bI_0 c_5
    exact absurd c_5 (by rw [hp_nI hj (by omega)]; decide)
  · have c_5 := bI_n0 c_5
    refine lv_aload_n hx hb dX1_putNeeded_8 rfl (lv_at hl 0 rfl) ?_
    refine va_get (D := G.1) (ci := 1) (v := .ref nb) (C := RX1) (T := TX1) (N := 3) hx hb hts hin1 hown hK hP 0 rfl rfl 0 (by decide) (hts (.fieldLink RX1 9 "FaultShrinker$RuleBook" "needed" "[I") (List.mem_of_getElem? (i := 1) rfl)) (fun _ h9 => h9) rfl dX1_putNeeded_9 ?_
    refine lv_iload_n hx hb dX1_putNeeded_12 rfl (lv_at hl 1 rfl) ?_
    refine lv_iload_n hx hb dX1_putNeeded_13 rfl (lv_at hl 2 rfl) ?_
    refine va_iast hx hb hK hP hD hS 1 0 rfl rfl (vp_in_nI (by omega) (by omega)) dX1_putNeeded_14 (fun H locs hP hD hS => ?_)
    rw [nF_upd _ (by omega)] at hP hD
    have hP : va_P G.1 vwCl [(b, .inr (1, [.ref nb, .ref sb, .int (nI rc)])), (nb, .inl (G.2.1, 6, .inl (nF (va_up ne j v)))), (sb, .inl (G.2.1, 6, .inl (nF sp)))] H := hP
    have hD : va_D A [(b, .inr (1, [.ref nb, .ref sb, .int (nI rc)])), (nb, .inl (G.2.1, 6, .inl (nF (va_up ne j v)))), (sb, .inl (G.2.1, 6, .inl (nF sp)))] := hD
    exact cs_vret hx hb hr hlocks hK hP hD hS () (trivial) rfl dX1_putNeeded_15

set_option maxRecDepth 100000 in
theorem in1_X1_putSpared : ∀ w ∈ wsX10, w ∈ wsX1_putSpared := by decide +kernel
set_option maxHeartbeats 4000000 in
set_option maxRecDepth 100000 in
theorem c_X1_putSpared (l : Launch) (G : cG) (b nb sb rc : Nat) (ne sp : Nat → Nat) (hrc : rc ≤ 6) (j v : Nat) (hj : j < rc) : cMV l G yX1_putSpared wsX1_putSpared ({ frames := 1, cells := 0, slots := 0, locals := 21 }) [.ref b, .int (nI j), .int (nI v)] [(b, .inr (1, [.ref nb, .ref sb, .int (nI rc)])), (nb, .inl (G.2.1, 6, .inl (nF ne))), (sb, .inl (G.2.1, 6, .inl (nF sp)))] (fun (_ : Unit) => True) (fun (_ : Unit) => [(b, .inr (1, [.ref nb, .ref sb, .int (nI rc)])), (nb, .inl (G.2.1, 6, .inl (nF ne))), (sb, .inl (G.2.1, 6, .inl (nF (va_up sp j v))))]) := by
  refine cs_sV (own := RX1) (cc := cX1_putSpared) (maxL := 3) (ret := none) (by decide) rfl rfl (Nat.le_of_ble_eq_true rfl) ?_
  intro p e s m below meth c A hx hb hr hml hts hown hlocks hinit hA hK hP hD hS ls hl
  have hin1 := in1_X1_putSpared
  have hl : lv_has ls 3 [(0, .ref b), (1, .int (nI j)), (2, .int (nI v))] := hl
  refine lv_aload_n hx hb dX1_putSpared_0 rfl (lv_at hl 0 rfl) ?_
  refine lv_iload_n hx hb dX1_putSpared_1 rfl (lv_at hl 1 rfl) ?_
  refine cs_vi (As := [.int (nI j)]) (rest := []) (wr := []) ⟨hx, hb, hml, hown, hts⟩ hK hP hD hS hA (c_X1_hasRule l G b nb sb rc ne sp (by first | assumption | omega) (nI j)) (cwV 1 hts gX1_putSpared_X1_hasRule rfl rfl rfl (by decide +kernel) ⟨Nat.le_of_ble_eq_true rfl, Nat.le_of_ble_eq_true rfl⟩) [0, 1, 2] [] ⟨rfl, rfl, by decide, by decide, by decide⟩ 0 1 rfl rfl rfl hl.1 rfl (by decide) ⟨Nat.le_of_ble_eq_true rfl, Nat.le_of_ble_eq_true rfl⟩ dX1_putSpared_2 (fun r u H locs hw hP hD hS => ?_)
  have hP : va_P G.1 vwCl [(b, .inr (1, [.ref nb, .ref sb, .int (nI rc)])), (nb, .inl (G.2.1, 6, .inl (nF ne))), (sb, .inl (G.2.1, 6, .inl (nF sp)))] H := hP.sub [0, 1, 2] rfl
  have hD : va_D A [(b, .inr (1, [.ref nb, .ref sb, .int (nI rc)])), (nb, .inl (G.2.1, 6, .inl (nF ne))), (sb, .inl (G.2.1, 6, .inl (nF sp)))] := hD.sub [0, 1, 2] (by decide) rfl
  subst hw
  refine lv_if_eq (tgt := 15) hx hb dX1_putSpared_5 (by decide) (fun c_5 => ?_) (fun c_5 => ?_)
  · have c_5 := bI_0 c_5
    exact absurd c_5 (by rw [hp_nI hj (by omega)]; decide)
  · have c_5 := bI_n0 c_5
    refine lv_aload_n hx hb dX1_putSpared_8 rfl (lv_at hl 0 rfl) ?_
    refine va_get (D := G.1) (ci := 1) (v := .ref sb) (C := RX1) (T := TX1) (N := 3) hx hb hts hin1 hown hK hP 0 rfl rfl 1 (by decide) (hts (.fieldLink RX1 15 "FaultShrinker$RuleBook" "spared" "[I") (List.mem_of_getElem? (i := 1) rfl)) (fun _ h9 => h9) rfl dX1_putSpared_9 ?_
    refine lv_iload_n hx hb dX1_putSpared_12 rfl (lv_at hl 1 rfl) ?_
    refine lv_iload_n hx hb dX1_putSpared_13 rfl (lv_at hl 2 rfl) ?_
    refine va_iast hx hb hK hP hD hS 2 0 rfl rfl (vp_in_nI (by omega) (by omega)) dX1_putSpared_14 (fun H locs hP hD hS => ?_)
    rw [nF_upd _ (by omega)] at hP hD
    have hP : va_P G.1 vwCl [(b, .inr (1, [.ref nb, .ref sb, .int (nI rc)])), (nb, .inl (G.2.1, 6, .inl (nF ne))), (sb, .inl (G.2.1, 6, .inl (nF (va_up sp j v))))] H := hP
    have hD : va_D A [(b, .inr (1, [.ref nb, .ref sb, .int (nI rc)])), (nb, .inl (G.2.1, 6, .inl (nF ne))), (sb, .inl (G.2.1, 6, .inl (nF (va_up sp j v))))] := hD
    exact cs_vret hx hb hr hlocks hK hP hD hS () (trivial) rfl dX1_putSpared_15

set_option maxRecDepth 100000 in
theorem in1_X1_holds : ∀ w ∈ wsX10, w ∈ wsX1_holds := by decide +kernel
set_option maxHeartbeats 4000000 in
set_option maxRecDepth 100000 in
theorem c_X1_holds (l : Launch) (G : cG) (b nb sb rc : Nat) (ne sp : Nat → Nat) (hrc : rc ≤ 6) (hne : ∀ j, j < 6 → ne j < 65536) (hsp : ∀ j, j < 6 → sp j < 65536) (j kk : Nat) (hj : j < rc) (hkk : kk < 65536) : cMI l G yX1_holds wsX1_holds ({ frames := 0, cells := 0, slots := 0, locals := 0 }) [.ref b, .int (nI j), .int (nI kk)] [(b, .inr (1, [.ref nb, .ref sb, .int (nI rc)])), (nb, .inl (G.2.1, 6, .inl (nF ne))), (sb, .inl (G.2.1, 6, .inl (nF sp)))] (fun (r_ : Int32) (_ : Unit) => r_ = bI (hld (ne j) (sp j) kk)) (fun (_ : Unit) => [(b, .inr (1, [.ref nb, .ref sb, .int (nI rc)])), (nb, .inl (G.2.1, 6, .inl (nF ne))), (sb, .inl (G.2.1, 6, .inl (nF sp)))]) := by
  refine cs_sI (own := RX1) (cc := cX1_holds) (maxL := 3) (ret := (some .boolean)) (by decide) rfl rfl (Nat.le_of_ble_eq_true rfl) ?_
  intro p e s m below meth c A hx hb hr hml hts hown hlocks hinit hA hK hP hD hS ls hl
  have hin1 := in1_X1_holds
  have hl : lv_has ls 3 [(0, .ref b), (1, .int (nI j)), (2, .int (nI kk))] := hl
  have hnj := hne j (by omega)
  have hsj := hsp j (by omega)
  have hk1 : kk &&& ne j < 65536 := Nat.lt_of_le_of_lt Nat.and_le_right hnj
  have hk2 : kk &&& sp j < 65536 := Nat.lt_of_le_of_lt Nat.and_le_right hsj
  refine lv_iload_n hx hb dX1_holds_0 rfl (lv_at hl 1 rfl) ?_
  refine lv_if_lt (tgt := 53) hx hb dX1_holds_1 (by decide) (fun c_1 => ?_) (fun c_1 => ?_)
  · have c_1 := (nI_lt0 (by omega)).mp c_1
    exact absurd c_1 (by omega)
  · have c_1 := mt (nI_lt0 (by omega)).mpr c_1
    refine lv_iload_n hx hb dX1_holds_4 rfl (lv_at hl 1 rfl) ?_
    refine lv_aload_n hx hb dX1_holds_5 rfl (lv_at hl 0 rfl) ?_
    refine va_get (D := G.1) (ci := 1) (v := .int (nI rc)) (C := RX1) (T := TX1) (N := 3) hx hb hts hin1 hown hK hP 0 rfl rfl 2 (by decide) (hts (.fieldLink RX1 18 "FaultShrinker$RuleBook" "size" "I") (List.mem_of_getElem? (i := 1) rfl)) (fun _ h9 => h9) rfl dX1_holds_6 ?_
    refine lv_icmp_ge (tgt := 53) hx hb dX1_holds_9 (by decide) (fun c_9 => ?_) (fun c_9 => ?_)
    · have c_9 := (nI_leI (by omega) (by omega)).mp c_9
      exact absurd c_9 (by omega)
    · have c_9 := mt (nI_leI (by omega) (by omega)).mpr c_9
      refine lv_aload_n hx hb dX1_holds_12 rfl (lv_at hl 0 rfl) ?_
      refine va_get (D := G.1) (ci := 1) (v := .ref nb) (C := RX1) (T := TX1) (N := 3) hx hb hts hin1 hown hK hP 0 rfl rfl 0 (by decide) (hts (.fieldLink RX1 9 "FaultShrinker$RuleBook" "needed" "[I") (List.mem_of_getElem? (i := 2) rfl)) (fun _ h9 => h9) rfl dX1_holds_13 ?_
      refine lv_iload_n hx hb dX1_holds_16 rfl (lv_at hl 1 rfl) ?_
      refine va_iald hx hb hK hP 1 0 rfl rfl (vp_in_nI (by omega) (by omega)) dX1_holds_17 ?_
      refine cs_i (y := nI (ne j)) (nF_at _ (by omega)) ?_
      refine lv_if_eq (tgt := 53) hx hb dX1_holds_18 (by decide) (fun c_18 => ?_) (fun c_18 => ?_)
      · have c_18 := (nI_eq0 (by omega)).mp c_18
        refine lv_iconst (v := nI 0) hx hb dX1_holds_53 (by decide +kernel) ?_
        exact cs_zret hx hb hr hlocks hK hP hD hS (v := nI 0) (rfl) () (by first | (rw [hld_t c_18 c_35 c_46]; rfl) | (rw [hld_f1 c_18]; rfl) | (rw [hld_f2 c_35]; rfl) | (rw [hld_f3 c_46]; rfl)) rfl dX1_holds_54
      · have c_18 := mt (nI_eq0 (by omega)).mpr c_18
        refine lv_iload_n hx hb dX1_holds_21 rfl (lv_at hl 2 rfl) ?_
        refine lv_aload_n hx hb dX1_holds_22 rfl (lv_at hl 0 rfl) ?_
        refine va_get (D := G.1) (ci := 1) (v := .ref nb) (C := RX1) (T := TX1) (N := 3) hx hb hts hin1 hown hK hP 0 rfl rfl 0 (by decide) (hts (.fieldLink RX1 9 "FaultShrinker$RuleBook" "needed" "[I") (List.mem_of_getElem? (i := 2) rfl)) (fun _ h9 => h9) rfl dX1_holds_23 ?_
        refine lv_iload_n hx hb dX1_holds_26 rfl (lv_at hl 1 rfl) ?_
        refine va_iald hx hb hK hP 1 0 rfl rfl (vp_in_nI (by omega) (by omega)) dX1_holds_27 ?_
        refine cs_i (y := nI (ne j)) (nF_at _ (by omega)) ?_
        refine lv_iand hx hb dX1_holds_28 ?_
        refine cs_i (y := nI (kk &&& (ne j))) (fa_and _ _) ?_
        refine lv_aload_n hx hb dX1_holds_29 rfl (lv_at hl 0 rfl) ?_
        refine va_get (D := G.1) (ci := 1) (v := .ref nb) (C := RX1) (T := TX1) (N := 3) hx hb hts hin1 hown hK hP 0 rfl rfl 0 (by decide) (hts (.fieldLink RX1 9 "FaultShrinker$RuleBook" "needed" "[I") (List.mem_of_getElem? (i := 2) rfl)) (fun _ h9 => h9) rfl dX1_holds_30 ?_
        refine lv_iload_n hx hb dX1_holds_33 rfl (lv_at hl 1 rfl) ?_
        refine va_iald hx hb hK hP 1 0 rfl rfl (vp_in_nI (by omega) (by omega)) dX1_holds_34 ?_
        refine cs_i (y := nI (ne j)) (nF_at _ (by omega)) ?_
        refine lv_icmp_ne (tgt := 53) hx hb dX1_holds_35 (by decide) (fun c_35 => ?_) (fun c_35 => ?_)
        · have c_35 := (nI_neI (by omega) (by omega)).mp c_35
          refine lv_iconst (v := nI 0) hx hb dX1_holds_53 (by decide +kernel) ?_
          exact cs_zret hx hb hr hlocks hK hP hD hS (v := nI 0) (rfl) () (by first | (rw [hld_t c_18 c_35 c_46]; rfl) | (rw [hld_f1 c_18]; rfl) | (rw [hld_f2 c_35]; rfl) | (rw [hld_f3 c_46]; rfl)) rfl dX1_holds_54
        · have c_35 := (nI_eq (by omega) (by omega)).mp c_35
          refine lv_iload_n hx hb dX1_holds_38 rfl (lv_at hl 2 rfl) ?_
          refine lv_aload_n hx hb dX1_holds_39 rfl (lv_at hl 0 rfl) ?_
          refine va_get (D := G.1) (ci := 1) (v := .ref sb) (C := RX1) (T := TX1) (N := 3) hx hb hts hin1 hown hK hP 0 rfl rfl 1 (by decide) (hts (.fieldLink RX1 15 "FaultShrinker$RuleBook" "spared" "[I") (List.mem_of_getElem? (i := 3) rfl)) (fun _ h9 => h9) rfl dX1_holds_40 ?_
          refine lv_iload_n hx hb dX1_holds_43 rfl (lv_at hl 1 rfl) ?_
          refine va_iald hx hb hK hP 2 0 rfl rfl (vp_in_nI (by omega) (by omega)) dX1_holds_44 ?_
          refine cs_i (y := nI (sp j)) (nF_at _ (by omega)) ?_
          refine lv_iand hx hb dX1_holds_45 ?_
          refine cs_i (y := nI (kk &&& (sp j))) (fa_and _ _) ?_
          refine lv_if_ne (tgt := 53) hx hb dX1_holds_46 (by decide) (fun c_46 => ?_) (fun c_46 => ?_)
          · have c_46 := (nI_ne0I (by omega)).mp c_46
            refine lv_iconst (v := nI 0) hx hb dX1_holds_53 (by decide +kernel) ?_
            exact cs_zret hx hb hr hlocks hK hP hD hS (v := nI 0) (rfl) () (by first | (rw [hld_t c_18 c_35 c_46]; rfl) | (rw [hld_f1 c_18]; rfl) | (rw [hld_f2 c_35]; rfl) | (rw [hld_f3 c_46]; rfl)) rfl dX1_holds_54
          · have c_46 := (nI_eq0 (by omega)).mp c_46
            refine lv_iconst (v := nI 1) hx hb dX1_holds_49 (by decide +kernel) ?_
            refine lv_goto (tgt := 54) hx hb dX1_holds_50 (by decide) ?_
            exact cs_zret hx hb hr hlocks hK hP hD hS (v := nI 1) (rfl) () (by first | (rw [hld_t c_18 c_35 c_46]; rfl) | (rw [hld_f1 c_18]; rfl) | (rw [hld_f2 c_35]; rfl) | (rw [hld_f3 c_46]; rfl)) rfl dX1_holds_54

set_option maxRecDepth 100000 in
theorem in1_X1_holding : ∀ w ∈ wsX10, w ∈ wsX1_holding := by decide +kernel
set_option maxHeartbeats 4000000 in
set_option maxRecDepth 100000 in
theorem c_X1_holding (l : Launch) (G : cG) (b nb sb rc : Nat) (ne sp : Nat → Nat) (hrc : rc ≤ 6) (hne : ∀ j, j < 6 → ne j < 65536) (hsp : ∀ j, j < 6 → sp j < 65536) (kk : Nat) (hkk : kk < 65536) : cMI l G yX1_holding wsX1_holding ({ frames := 1, cells := 0, slots := 0, locals := 22 }) [.ref b, .int (nI kk)] [(b, .inr (1, [.ref nb, .ref sb, .int (nI rc)])), (nb, .inl (G.2.1, 6, .inl (nF ne))), (sb, .inl (G.2.1, 6, .inl (nF sp)))] (fun (r_ : Int32) (_ : Unit) => r_ = nI (hcn ne sp kk rc)) (fun (_ : Unit) => [(b, .inr (1, [.ref nb, .ref sb, .int (nI rc)])), (nb, .inl (G.2.1, 6, .inl (nF ne))), (sb, .inl (G.2.1, 6, .inl (nF sp)))]) := by
  refine cs_sI (own := RX1) (cc := cX1_holding) (maxL := 4) (ret := (some .int)) (by decide) rfl rfl (Nat.le_of_ble_eq_true rfl) ?_
  intro p e s m below meth c A hx hb hr hml hts hown hlocks hinit hA hK hP hD hS ls hl
  have hin1 := in1_X1_holding
  have hl : lv_has ls 4 [(0, .ref b), (1, .int (nI kk))] := hl
  refine lv_iconst (v := nI 0) hx hb dX1_holding_0 (by decide +kernel) ?_
  refine lv_istore_n (lv' := [(2, .int (nI 0)), (0, .ref b), (1, .int (nI kk))]) hx hb dX1_holding_1 rfl hl (by decide) rfl (fun ls hl => ?_)
  refine lv_iconst (v := nI 0) hx hb dX1_holding_2 (by decide +kernel) ?_
  refine lv_istore_n (lv' := [(3, .int (nI 0)), (2, .int (nI 0)), (0, .ref b), (1, .int (nI kk))]) hx hb dX1_holding_3 rfl hl (by decide) rfl (fun ls hl => ?_)
  refine cs_loop (G := G) (nL := 4) (σ := Nat) (fun (i : Nat) => rc - i) (fun (i : Nat) => i ≤ rc) (fun (i : Nat) => [(b, .inr (1, [.ref nb, .ref sb, .int (nI rc)])), (nb, .inl (G.2.1, 6, .inl (nF ne))), (sb, .inl (G.2.1, 6, .inl (nF sp)))]) (fun (i : Nat) => [(0, .ref b), (1, .int (nI kk)), (2, .int (nI (hcn ne sp kk i))), (3, .int (nI i))]) ?_ (0) (by show 0 ≤ rc; omega) (hP.sub (ws' := [(b, .inr (1, [.ref nb, .ref sb, .int (nI rc)])), (nb, .inl (G.2.1, 6, .inl (nF ne))), (sb, .inl (G.2.1, 6, .inl (nF sp)))]) [0, 1, 2] rfl) (hD.sub (ws' := [(b, .inr (1, [.ref nb, .ref sb, .int (nI rc)])), (nb, .inl (G.2.1, 6, .inl (nF ne))), (sb, .inl (G.2.1, 6, .inl (nF sp)))]) [0, 1, 2] (by decide) rfl) hS (lv_sub (l' := [(0, .ref b), (1, .int (nI kk)), (2, .int (nI (hcn ne sp kk 0))), (3, .int (nI 0))]) hl [2, 3, 1, 0] rfl)
  rintro i hinv ih H locs ls hP hD hS hl
  have hP : va_P G.1 vwCl [(b, .inr (1, [.ref nb, .ref sb, .int (nI rc)])), (nb, .inl (G.2.1, 6, .inl (nF ne))), (sb, .inl (G.2.1, 6, .inl (nF sp)))] H := hP
  have hD : va_D A [(b, .inr (1, [.ref nb, .ref sb, .int (nI rc)])), (nb, .inl (G.2.1, 6, .inl (nF ne))), (sb, .inl (G.2.1, 6, .inl (nF sp)))] := hD
  have hl : lv_has ls 4 [(0, .ref b), (1, .int (nI kk)), (2, .int (nI (hcn ne sp kk i))), (3, .int (nI i))] := hl
  have hinv : i ≤ rc := hinv
  refine lv_iload_n hx hb dX1_holding_4 rfl (lv_at hl 3 rfl) ?_
  refine lv_aload_n hx hb dX1_holding_5 rfl (lv_at hl 0 rfl) ?_
  refine va_get (D := G.1) (ci := 1) (v := .int (nI rc)) (C := RX1) (T := TX1) (N := 3) hx hb hts hin1 hown hK hP 0 rfl rfl 2 (by decide) (hts (.fieldLink RX1 18 "FaultShrinker$RuleBook" "size" "I") (List.mem_of_getElem? (i := 1) rfl)) (fun _ h9 => h9) rfl dX1_holding_6 ?_
  refine lv_icmp_ge (tgt := 30) hx hb dX1_holding_9 (by decide) (fun c_9 => ?_) (fun c_9 => ?_)
  · have c_9 := (nI_leI (by omega) (by omega)).mp c_9
    have e7 : i = rc := by omega
    subst e7
    refine lv_iload_n hx hb dX1_holding_30 rfl (lv_at hl 2 rfl) ?_
    exact cs_iret hx hb hr hlocks hK hP hD hS (v := nI (hcn ne sp kk i)) () (by first | rfl | assumption) rfl dX1_holding_31
  · have c_9 := mt (nI_leI (by omega) (by omega)).mpr c_9
    refine lv_aload_n hx hb dX1_holding_12 rfl (lv_at hl 0 rfl) ?_
    refine lv_iload_n hx hb dX1_holding_13 rfl (lv_at hl 3 rfl) ?_
    refine lv_iload_n hx hb dX1_holding_14 rfl (lv_at hl 1 rfl) ?_
    refine cs_vi (As := [.int (nI i), .int (nI kk)]) (rest := []) (wr := []) ⟨hx, hb, hml, hown, hts⟩ hK hP hD hS hA (c_X1_holds l G b nb sb rc ne sp (by first | assumption | omega) (by first | assumption | omega) (by first | assumption | omega) i kk (by first | assumption | omega) (by first | assumption | omega)) (cwV 2 hts gX1_holding_X1_holds rfl rfl rfl (by decide +kernel) ⟨Nat.le_of_ble_eq_true rfl, Nat.le_of_ble_eq_true rfl⟩) [0, 1, 2] [] ⟨rfl, rfl, by decide, by decide, by decide⟩ 0 1 rfl rfl rfl hl.1 rfl (by decide) ⟨Nat.le_of_ble_eq_true rfl, Nat.le_of_ble_eq_true rfl⟩ dX1_holding_15 (fun r u H locs hw hP hD hS => ?_)
    have hP : va_P G.1 vwCl [(b, .inr (1, [.ref nb, .ref sb, .int (nI rc)])), (nb, .inl (G.2.1, 6, .inl (nF ne))), (sb, .inl (G.2.1, 6, .inl (nF sp)))] H := hP.sub [0, 1, 2] rfl
    have hD : va_D A [(b, .inr (1, [.ref nb, .ref sb, .int (nI rc)])), (nb, .inl (G.2.1, 6, .inl (nF ne))), (sb, .inl (G.2.1, 6, .inl (nF sp)))] := hD.sub [0, 1, 2] (by decide) rfl
    subst hw
    refine lv_if_eq (tgt := 24) hx hb dX1_holding_18 (by decide) (fun c_18 => ?_) (fun c_18 => ?_)
    · have c_18 := bI_0 c_18
      refine lv_iinc (v := nI (i + 1)) (lv' := [(3, .int (nI (i + 1))), (0, .ref b), (1, .int (nI kk)), (2, .int (nI (hcn ne sp kk i)))]) hx hb dX1_holding_24 hl (k := 3) rfl ((nI_succ i).symm) (by decide) rfl (fun ls hl => ?_)
      have e8 : nI (hcn ne sp kk i) = nI (hcn ne sp kk (i + 1)) := by first | exact congrArg nI (hcn_f c_18).symm | exact congrArg nI (hcn_t c_18).symm
      rw [e8] at hl
      refine lv_goto (tgt := 4) hx hb dX1_holding_27 (by decide) ?_
      exact ih (i + 1) (by show rc - (i + 1) < rc - i; omega) (by show (i + 1) ≤ rc; omega) _ _ _ (hP.sub (ws' := [(b, .inr (1, [.ref nb, .ref sb, .int (nI rc)])), (nb, .inl (G.2.1, 6, .inl (nF ne))), (sb, .inl (G.2.1, 6, .inl (nF sp)))]) [0, 1, 2] rfl) (hD.sub (ws' := [(b, .inr (1, [.ref nb, .ref sb, .int (nI rc)])), (nb, .inl (G.2.1, 6, .inl (nF ne))), (sb, .inl (G.2.1, 6, .inl (nF sp)))]) [0, 1, 2] (by decide) rfl) hS (lv_sub (l' := [(0, .ref b), (1, .int (nI kk)), (2, .int (nI (hcn ne sp kk (i + 1)))), (3, .int (nI (i + 1)))]) hl [1, 2, 3, 0] rfl)
    · have c_18 := bI_n0 c_18
      refine lv_iinc (v := nI (hcn ne sp kk i + 1)) (lv' := [(2, .int (nI (hcn ne sp kk i + 1))), (0, .ref b), (1, .int (nI kk)), (3, .int (nI i))]) hx hb dX1_holding_21 hl (k := 2) rfl ((nI_succ (hcn ne sp kk i)).symm) (by decide) rfl (fun ls hl => ?_)
      refine lv_iinc (v := nI (i + 1)) (lv' := [(3, .int (nI (i + 1))), (2, .int (nI (hcn ne sp kk i + 1))), (0, .ref b), (1, .int (nI kk))]) hx hb dX1_holding_24 hl (k := 3) rfl ((nI_succ i).symm) (by decide) rfl (fun ls hl => ?_)
      have e8 : nI (hcn ne sp kk i + 1) = nI (hcn ne sp kk (i + 1)) := by first | exact congrArg nI (hcn_f c_18).symm | exact congrArg nI (hcn_t c_18).symm
      rw [e8] at hl
      refine lv_goto (tgt := 4) hx hb dX1_holding_27 (by decide) ?_
      exact ih (i + 1) (by show rc - (i + 1) < rc - i; omega) (by show (i + 1) ≤ rc; omega) _ _ _ (hP.sub (ws' := [(b, .inr (1, [.ref nb, .ref sb, .int (nI rc)])), (nb, .inl (G.2.1, 6, .inl (nF ne))), (sb, .inl (G.2.1, 6, .inl (nF sp)))]) [0, 1, 2] rfl) (hD.sub (ws' := [(b, .inr (1, [.ref nb, .ref sb, .int (nI rc)])), (nb, .inl (G.2.1, 6, .inl (nF ne))), (sb, .inl (G.2.1, 6, .inl (nF sp)))]) [0, 1, 2] (by decide) rfl) hS (lv_sub (l' := [(0, .ref b), (1, .int (nI kk)), (2, .int (nI (hcn ne sp kk (i + 1)))), (3, .int (nI (i + 1)))]) hl [2, 3, 1, 0] rfl)

set_option maxRecDepth 100000 in
theorem in1_X1_leastNeeded : ∀ w ∈ wsX10, w ∈ wsX1_leastNeeded := by decide +kernel
set_option maxHeartbeats 4000000 in
set_option maxRecDepth 100000 in
theorem c_X1_leastNeeded (l : Launch) (G : cG) (b nb sb rc : Nat) (ne sp : Nat → Nat) (hrc : rc ≤ 6) (hne : ∀ j, j < 6 → ne j < 65536) (kk : Nat) (hkk : kk < 65536) : cMI l G yX1_leastNeeded wsX1_leastNeeded ({ frames := 1, cells := 0, slots := 0, locals := 20 }) [.ref b, .int (nI kk)] [(b, .inr (1, [.ref nb, .ref sb, .int (nI rc)])), (nb, .inl (G.2.1, 6, .inl (nF ne))), (sb, .inl (G.2.1, 6, .inl (nF sp)))] (fun (r_ : Int32) (_ : Unit) => r_ = nI (lst ne kk rc)) (fun (_ : Unit) => [(b, .inr (1, [.ref nb, .ref sb, .int (nI rc)])), (nb, .inl (G.2.1, 6, .inl (nF ne))), (sb, .inl (G.2.1, 6, .inl (nF sp)))]) := by
  refine cs_sI (own := RX1) (cc := cX1_leastNeeded) (maxL := 6) (ret := (some .int)) (by decide) rfl rfl (Nat.le_of_ble_eq_true rfl) ?_
  intro p e s m below meth c A hx hb hr hml hts hown hlocks hinit hA hK hP hD hS ls hl
  have hin1 := in1_X1_leastNeeded
  have hl : lv_has ls 6 [(0, .ref b), (1, .int (nI kk))] := hl
  refine lv_iconst (v := nI 0) hx hb dX1_leastNeeded_0 (by decide +kernel) ?_
  refine lv_istore_n (lv' := [(2, .int (nI 0)), (0, .ref b), (1, .int (nI kk))]) hx hb dX1_leastNeeded_1 rfl hl (by decide) rfl (fun ls hl => ?_)
  refine lv_iconst (v := nI 0) hx hb dX1_leastNeeded_2 (by decide +kernel) ?_
  refine lv_istore_n (lv' := [(3, .int (nI 0)), (2, .int (nI 0)), (0, .ref b), (1, .int (nI kk))]) hx hb dX1_leastNeeded_3 rfl hl (by decide) rfl (fun ls hl => ?_)
  refine cs_loop (G := G) (nL := 6) (σ := Nat) (fun (i : Nat) => rc - i) (fun (i : Nat) => i ≤ rc) (fun (i : Nat) => [(b, .inr (1, [.ref nb, .ref sb, .int (nI rc)])), (nb, .inl (G.2.1, 6, .inl (nF ne))), (sb, .inl (G.2.1, 6, .inl (nF sp)))]) (fun (i : Nat) => [(0, .ref b), (1, .int (nI kk)), (2, .int (nI (lst ne kk i))), (3, .int (nI i))]) ?_ (0) (by show 0 ≤ rc; omega) (hP.sub (ws' := [(b, .inr (1, [.ref nb, .ref sb, .int (nI rc)])), (nb, .inl (G.2.1, 6, .inl (nF ne))), (sb, .inl (G.2.1, 6, .inl (nF sp)))]) [0, 1, 2] rfl) (hD.sub (ws' := [(b, .inr (1, [.ref nb, .ref sb, .int (nI rc)])), (nb, .inl (G.2.1, 6, .inl (nF ne))), (sb, .inl (G.2.1, 6, .inl (nF sp)))]) [0, 1, 2] (by decide) rfl) hS (lv_sub (l' := [(0, .ref b), (1, .int (nI kk)), (2, .int (nI (lst ne kk 0))), (3, .int (nI 0))]) hl [2, 3, 1, 0] rfl)
  rintro i hinv ih H locs ls hP hD hS hl
  have hP : va_P G.1 vwCl [(b, .inr (1, [.ref nb, .ref sb, .int (nI rc)])), (nb, .inl (G.2.1, 6, .inl (nF ne))), (sb, .inl (G.2.1, 6, .inl (nF sp)))] H := hP
  have hD : va_D A [(b, .inr (1, [.ref nb, .ref sb, .int (nI rc)])), (nb, .inl (G.2.1, 6, .inl (nF ne))), (sb, .inl (G.2.1, 6, .inl (nF sp)))] := hD
  have hl : lv_has ls 6 [(0, .ref b), (1, .int (nI kk)), (2, .int (nI (lst ne kk i))), (3, .int (nI i))] := hl
  have hinv : i ≤ rc := hinv
  refine lv_iload_n hx hb dX1_leastNeeded_4 rfl (lv_at hl 3 rfl) ?_
  refine lv_aload_n hx hb dX1_leastNeeded_5 rfl (lv_at hl 0 rfl) ?_
  refine va_get (D := G.1) (ci := 1) (v := .int (nI rc)) (C := RX1) (T := TX1) (N := 3) hx hb hts hin1 hown hK hP 0 rfl rfl 2 (by decide) (hts (.fieldLink RX1 18 "FaultShrinker$RuleBook" "size" "I") (List.mem_of_getElem? (i := 1) rfl)) (fun _ h9 => h9) rfl dX1_leastNeeded_6 ?_
  refine lv_icmp_ge (tgt := 76) hx hb dX1_leastNeeded_9 (by decide) (fun c_9 => ?_) (fun c_9 => ?_)
  · have c_9 := (nI_leI (by omega) (by omega)).mp c_9
    have e7 : i = rc := by omega
    subst e7
    refine lv_iload_n hx hb dX1_leastNeeded_76 rfl (lv_at hl 2 rfl) ?_
    exact cs_iret hx hb hr hlocks hK hP hD hS (v := nI (lst ne kk i)) () (by first | rfl | assumption) rfl dX1_leastNeeded_77
  · have c_9 := mt (nI_leI (by omega) (by omega)).mpr c_9
    have hni := hne i (by omega)
    have hc4 := cnt_le (ne i) 24
    have hls := lst_le ne kk i
    have hk1 : kk &&& ne i < 65536 := Nat.lt_of_le_of_lt Nat.and_le_right hni
    refine lv_aload_n hx hb dX1_leastNeeded_12 rfl (lv_at hl 0 rfl) ?_
    refine va_get (D := G.1) (ci := 1) (v := .ref nb) (C := RX1) (T := TX1) (N := 3) hx hb hts hin1 hown hK hP 0 rfl rfl 0 (by decide) (hts (.fieldLink RX1 9 "FaultShrinker$RuleBook" "needed" "[I") (List.mem_of_getElem? (i := 2) rfl)) (fun _ h9 => h9) rfl dX1_leastNeeded_13 ?_
    refine lv_iload_n hx hb dX1_leastNeeded_16 rfl (lv_at hl 3 rfl) ?_
    refine va_iald hx hb hK hP 1 0 rfl rfl (vp_in_nI (by omega) (by omega)) dX1_leastNeeded_17 ?_
    refine cs_i (y := nI (ne i)) (nF_at _ (by omega)) ?_
    refine cs_si (As := [.int (nI (ne i))]) (rest := []) (wr := [(b, .inr (1, [.ref nb, .ref sb, .int (nI rc)])), (nb, .inl (G.2.1, 6, .inl (nF ne))), (sb, .inl (G.2.1, 6, .inl (nF sp)))]) ⟨hx, hb, hml, hown, hts⟩ hK hP hD hS hA (c_J6_bitCount_0f7a4 l G (ne i) (by first | assumption | omega)) (va_cwS 1 hts gX1_leastNeeded_J6_bitCount_0f7a4 rfl rfl rfl (by decide +kernel) ⟨Nat.le_of_ble_eq_true rfl, Nat.le_of_ble_eq_true rfl⟩) [] [0, 1, 2] ⟨rfl, rfl, by decide, by decide, by decide⟩ rfl hl.1 rfl (by decide) ⟨Nat.le_of_ble_eq_true rfl, Nat.le_of_ble_eq_true rfl⟩ dX1_leastNeeded_18 (fun r u H locs hw hP hD hS => ?_)
    have hP : va_P G.1 vwCl [(b, .inr (1, [.ref nb, .ref sb, .int (nI rc)])), (nb, .inl (G.2.1, 6, .inl (nF ne))), (sb, .inl (G.2.1, 6, .inl (nF sp)))] H := hP.sub [0, 1, 2] rfl
    have hD : va_D A [(b, .inr (1, [.ref nb, .ref sb, .int (nI rc)])), (nb, .inl (G.2.1, 6, .inl (nF ne))), (sb, .inl (G.2.1, 6, .inl (nF sp)))] := hD.sub [0, 1, 2] (by decide) rfl
    subst hw
    refine lv_istore (lv' := [(4, .int (nI (cnt (ne i) 24))), (0, .ref b), (1, .int (nI kk)), (2, .int (nI (lst ne kk i))), (3, .int (nI i))]) hx hb dX1_leastNeeded_21 hl (by decide) rfl (fun ls hl => ?_)
    refine lv_iload hx hb dX1_leastNeeded_23 (lv_at hl 0 rfl) ?_
    refine lv_if_le (tgt := 49) hx hb dX1_leastNeeded_25 (by decide) (fun c_25 => ?_) (fun c_25 => ?_)
    · have c_25 := (nI_le0 (by omega)).mp c_25
      refine lv_iconst (v := nI 0) hx hb dX1_leastNeeded_49 (by decide +kernel) ?_
      refine lv_istore (lv' := [(5, .int (nI 0)), (4, .int (nI (cnt (ne i) 24))), (0, .ref b), (1, .int (nI kk)), (2, .int (nI (lst ne kk i))), (3, .int (nI i))]) hx hb dX1_leastNeeded_50 hl (by decide) rfl (fun ls hl => ?_)
      refine lv_iload hx hb dX1_leastNeeded_52 (lv_at hl 0 rfl) ?_
      refine lv_if_eq (tgt := 70) hx hb dX1_leastNeeded_54 (by decide) (fun c_54 => ?_) (fun c_54 => ?_)
      · refine lv_iinc (v := nI (i + 1)) (lv' := [(3, .int (nI (i + 1))), (5, .int (nI 0)), (4, .int (nI (cnt (ne i) 24))), (0, .ref b), (1, .int (nI kk)), (2, .int (nI (lst ne kk i)))]) hx hb dX1_leastNeeded_70 hl (k := 5) rfl ((nI_succ i).symm) (by decide) rfl (fun ls hl => ?_)
        have e8 : nI (lst ne kk i) = nI (lst ne kk (i + 1)) := by first | exact congrArg nI (lst_t (by omega) (by omega) (by omega)).symm | exact congrArg nI (lst_f (by omega)).symm
        rw [e8] at hl
        refine lv_goto (tgt := 4) hx hb dX1_leastNeeded_73 (by decide) ?_
        exact ih (i + 1) (by show rc - (i + 1) < rc - i; omega) (by show (i + 1) ≤ rc; omega) _ _ _ (hP.sub (ws' := [(b, .inr (1, [.ref nb, .ref sb, .int (nI rc)])), (nb, .inl (G.2.1, 6, .inl (nF ne))), (sb, .inl (G.2.1, 6, .inl (nF sp)))]) [0, 1, 2] rfl) (hD.sub (ws' := [(b, .inr (1, [.ref nb, .ref sb, .int (nI rc)])), (nb, .inl (G.2.1, 6, .inl (nF ne))), (sb, .inl (G.2.1, 6, .inl (nF sp)))]) [0, 1, 2] (by decide) rfl) hS (lv_sub (l' := [(0, .ref b), (1, .int (nI kk)), (2, .int (nI (lst ne kk (i + 1)))), (3, .int (nI (i + 1)))]) hl [3, 4, 5, 0] rfl)
      · exact absurd (by decide +kernel) c_54
    · have c_25 := mt (nI_le0 (by omega)).mpr c_25
      refine lv_iload_n hx hb dX1_leastNeeded_28 rfl (lv_at hl 2 rfl) ?_
      refine lv_aload_n hx hb dX1_leastNeeded_29 rfl (lv_at hl 1 rfl) ?_
      refine va_get (D := G.1) (ci := 1) (v := .ref nb) (C := RX1) (T := TX1) (N := 3) hx hb hts hin1 hown hK hP 0 rfl rfl 0 (by decide) (hts (.fieldLink RX1 9 "FaultShrinker$RuleBook" "needed" "[I") (List.mem_of_getElem? (i := 2) rfl)) (fun _ h9 => h9) rfl dX1_leastNeeded_30 ?_
      refine lv_iload_n hx hb dX1_leastNeeded_33 rfl (lv_at hl 4 rfl) ?_
      refine va_iald hx hb hK hP 1 0 rfl rfl (vp_in_nI (by omega) (by omega)) dX1_leastNeeded_34 ?_
      refine cs_i (y := nI (ne i)) (nF_at _ (by omega)) ?_
      refine lv_iand hx hb dX1_leastNeeded_35 ?_
      refine cs_i (y := nI (kk &&& (ne i))) (fa_and _ _) ?_
      refine lv_aload_n hx hb dX1_leastNeeded_36 rfl (lv_at hl 1 rfl) ?_
      refine va_get (D := G.1) (ci := 1) (v := .ref nb) (C := RX1) (T := TX1) (N := 3) hx hb hts hin1 hown hK hP 0 rfl rfl 0 (by decide) (hts (.fieldLink RX1 9 "FaultShrinker$RuleBook" "needed" "[I") (List.mem_of_getElem? (i := 2) rfl)) (fun _ h9 => h9) rfl dX1_leastNeeded_37 ?_
      refine lv_iload_n hx hb dX1_leastNeeded_40 rfl (lv_at hl 4 rfl) ?_
      refine va_iald hx hb hK hP 1 0 rfl rfl (vp_in_nI (by omega) (by omega)) dX1_leastNeeded_41 ?_
      refine cs_i (y := nI (ne i)) (nF_at _ (by omega)) ?_
      refine lv_icmp_ne (tgt := 49) hx hb dX1_leastNeeded_42 (by decide) (fun c_42 => ?_) (fun c_42 => ?_)
      · have c_42 := (nI_neI (by omega) (by omega)).mp c_42
        refine lv_iconst (v := nI 0) hx hb dX1_leastNeeded_49 (by decide +kernel) ?_
        refine lv_istore (lv' := [(5, .int (nI 0)), (4, .int (nI (cnt (ne i) 24))), (0, .ref b), (1, .int (nI kk)), (2, .int (nI (lst ne kk i))), (3, .int (nI i))]) hx hb dX1_leastNeeded_50 hl (by decide) rfl (fun ls hl => ?_)
        refine lv_iload hx hb dX1_leastNeeded_52 (lv_at hl 0 rfl) ?_
        refine lv_if_eq (tgt := 70) hx hb dX1_leastNeeded_54 (by decide) (fun c_54 => ?_) (fun c_54 => ?_)
        · refine lv_iinc (v := nI (i + 1)) (lv' := [(3, .int (nI (i + 1))), (5, .int (nI 0)), (4, .int (nI (cnt (ne i) 24))), (0, .ref b), (1, .int (nI kk)), (2, .int (nI (lst ne kk i)))]) hx hb dX1_leastNeeded_70 hl (k := 5) rfl ((nI_succ i).symm) (by decide) rfl (fun ls hl => ?_)
          have e8 : nI (lst ne kk i) = nI (lst ne kk (i + 1)) := by first | exact congrArg nI (lst_t (by omega) (by omega) (by omega)).symm | exact congrArg nI (lst_f (by omega)).symm
          rw [e8] at hl
          refine lv_goto (tgt := 4) hx hb dX1_leastNeeded_73 (by decide) ?_
          exact ih (i + 1) (by show rc - (i + 1) < rc - i; omega) (by show (i + 1) ≤ rc; omega) _ _ _ (hP.sub (ws' := [(b, .inr (1, [.ref nb, .ref sb, .int (nI rc)])), (nb, .inl (G.2.1, 6, .inl (nF ne))), (sb, .inl (G.2.1, 6, .inl (nF sp)))]) [0, 1, 2] rfl) (hD.sub (ws' := [(b, .inr (1, [.ref nb, .ref sb, .int (nI rc)])), (nb, .inl (G.2.1, 6, .inl (nF ne))), (sb, .inl (G.2.1, 6, .inl (nF sp)))]) [0, 1, 2] (by decide) rfl) hS (lv_sub (l' := [(0, .ref b), (1, .int (nI kk)), (2, .int (nI (lst ne kk (i + 1)))), (3, .int (nI (i + 1)))]) hl [3, 4, 5, 0] rfl)
        · exact absurd (by decide +kernel) c_54
      · have c_42 := (nI_eq (by omega) (by omega)).mp c_42
        refine lv_iconst (v := nI 1) hx hb dX1_leastNeeded_45 (by decide +kernel) ?_
        refine lv_goto (tgt := 50) hx hb dX1_leastNeeded_46 (by decide) ?_
        refine lv_istore (lv' := [(5, .int (nI 1)), (4, .int (nI (cnt (ne i) 24))), (0, .ref b), (1, .int (nI kk)), (2, .int (nI (lst ne kk i))), (3, .int (nI i))]) hx hb dX1_leastNeeded_50 hl (by decide) rfl (fun ls hl => ?_)
        refine lv_iload hx hb dX1_leastNeeded_52 (lv_at hl 0 rfl) ?_
        refine lv_if_eq (tgt := 70) hx hb dX1_leastNeeded_54 (by decide) (fun c_54 => ?_) (fun c_54 => ?_)
        · exact absurd c_54 (by decide +kernel)
        · refine lv_iload_n hx hb dX1_leastNeeded_57 rfl (lv_at hl 4 rfl) ?_
          refine lv_if_eq (tgt := 67) hx hb dX1_leastNeeded_58 (by decide) (fun c_58 => ?_) (fun c_58 => ?_)
          · have c_58 := (nI_eq0 (by omega)).mp c_58
            refine lv_iload hx hb dX1_leastNeeded_67 (lv_at hl 1 rfl) ?_
            refine lv_istore_n (lv' := [(2, .int (nI (cnt (ne i) 24))), (5, .int (nI 1)), (4, .int (nI (cnt (ne i) 24))), (0, .ref b), (1, .int (nI kk)), (3, .int (nI i))]) hx hb dX1_leastNeeded_69 rfl hl (by decide) rfl (fun ls hl => ?_)
            refine lv_iinc (v := nI (i + 1)) (lv' := [(3, .int (nI (i + 1))), (2, .int (nI (cnt (ne i) 24))), (5, .int (nI 1)), (4, .int (nI (cnt (ne i) 24))), (0, .ref b), (1, .int (nI kk))]) hx hb dX1_leastNeeded_70 hl (k := 5) rfl ((nI_succ i).symm) (by decide) rfl (fun ls hl => ?_)
            have e8 : nI (cnt (ne i) 24) = nI (lst ne kk (i + 1)) := by first | exact congrArg nI (lst_t (by omega) (by omega) (by omega)).symm | exact congrArg nI (lst_f (by omega)).symm
            rw [e8] at hl
            refine lv_goto (tgt := 4) hx hb dX1_leastNeeded_73 (by decide) ?_
            exact ih (i + 1) (by show rc - (i + 1) < rc - i; omega) (by show (i + 1) ≤ rc; omega) _ _ _ (hP.sub (ws' := [(b, .inr (1, [.ref nb, .ref sb, .int (nI rc)])), (nb, .inl (G.2.1, 6, .inl (nF ne))), (sb, .inl (G.2.1, 6, .inl (nF sp)))]) [0, 1, 2] rfl) (hD.sub (ws' := [(b, .inr (1, [.ref nb, .ref sb, .int (nI rc)])), (nb, .inl (G.2.1, 6, .inl (nF ne))), (sb, .inl (G.2.1, 6, .inl (nF sp)))]) [0, 1, 2] (by decide) rfl) hS (lv_sub (l' := [(0, .ref b), (1, .int (nI kk)), (2, .int (nI (lst ne kk (i + 1)))), (3, .int (nI (i + 1)))]) hl [4, 5, 1, 0] rfl)
          · have c_58 := mt (nI_eq0 (by omega)).mpr c_58
            refine lv_iload hx hb dX1_leastNeeded_61 (lv_at hl 1 rfl) ?_
            refine lv_iload_n hx hb dX1_leastNeeded_63 rfl (lv_at hl 4 rfl) ?_
            refine lv_icmp_ge (tgt := 70) hx hb dX1_leastNeeded_64 (by decide) (fun c_64 => ?_) (fun c_64 => ?_)
            · have c_64 := (nI_leI (by omega) (by omega)).mp c_64
              refine lv_iinc (v := nI (i + 1)) (lv' := [(3, .int (nI (i + 1))), (5, .int (nI 1)), (4, .int (nI (cnt (ne i) 24))), (0, .ref b), (1, .int (nI kk)), (2, .int (nI (lst ne kk i)))]) hx hb dX1_leastNeeded_70 hl (k := 5) rfl ((nI_succ i).symm) (by decide) rfl (fun ls hl => ?_)
              have e8 : nI (lst ne kk i) = nI (lst ne kk (i + 1)) := by first | exact congrArg nI (lst_t (by omega) (by omega) (by omega)).symm | exact congrArg nI (lst_f (by omega)).symm
              rw [e8] at hl
              refine lv_goto (tgt := 4) hx hb dX1_leastNeeded_73 (by decide) ?_
              exact ih (i + 1) (by show rc - (i + 1) < rc - i; omega) (by show (i + 1) ≤ rc; omega) _ _ _ (hP.sub (ws' := [(b, .inr (1, [.ref nb, .ref sb, .int (nI rc)])), (nb, .inl (G.2.1, 6, .inl (nF ne))), (sb, .inl (G.2.1, 6, .inl (nF sp)))]) [0, 1, 2] rfl) (hD.sub (ws' := [(b, .inr (1, [.ref nb, .ref sb, .int (nI rc)])), (nb, .inl (G.2.1, 6, .inl (nF ne))), (sb, .inl (G.2.1, 6, .inl (nF sp)))]) [0, 1, 2] (by decide) rfl) hS (lv_sub (l' := [(0, .ref b), (1, .int (nI kk)), (2, .int (nI (lst ne kk (i + 1)))), (3, .int (nI (i + 1)))]) hl [3, 4, 5, 0] rfl)
            · have c_64 := mt (nI_leI (by omega) (by omega)).mpr c_64
              refine lv_iload hx hb dX1_leastNeeded_67 (lv_at hl 1 rfl) ?_
              refine lv_istore_n (lv' := [(2, .int (nI (cnt (ne i) 24))), (5, .int (nI 1)), (4, .int (nI (cnt (ne i) 24))), (0, .ref b), (1, .int (nI kk)), (3, .int (nI i))]) hx hb dX1_leastNeeded_69 rfl hl (by decide) rfl (fun ls hl => ?_)
              refine lv_iinc (v := nI (i + 1)) (lv' := [(3, .int (nI (i + 1))), (2, .int (nI (cnt (ne i) 24))), (5, .int (nI 1)), (4, .int (nI (cnt (ne i) 24))), (0, .ref b), (1, .int (nI kk))]) hx hb dX1_leastNeeded_70 hl (k := 5) rfl ((nI_succ i).symm) (by decide) rfl (fun ls hl => ?_)
              have e8 : nI (cnt (ne i) 24) = nI (lst ne kk (i + 1)) := by first | exact congrArg nI (lst_t (by omega) (by omega) (by omega)).symm | exact congrArg nI (lst_f (by omega)).symm
              rw [e8] at hl
              refine lv_goto (tgt := 4) hx hb dX1_leastNeeded_73 (by decide) ?_
              exact ih (i + 1) (by show rc - (i + 1) < rc - i; omega) (by show (i + 1) ≤ rc; omega) _ _ _ (hP.sub (ws' := [(b, .inr (1, [.ref nb, .ref sb, .int (nI rc)])), (nb, .inl (G.2.1, 6, .inl (nF ne))), (sb, .inl (G.2.1, 6, .inl (nF sp)))]) [0, 1, 2] rfl) (hD.sub (ws' := [(b, .inr (1, [.ref nb, .ref sb, .int (nI rc)])), (nb, .inl (G.2.1, 6, .inl (nF ne))), (sb, .inl (G.2.1, 6, .inl (nF sp)))]) [0, 1, 2] (by decide) rfl) hS (lv_sub (l' := [(0, .ref b), (1, .int (nI kk)), (2, .int (nI (lst ne kk (i + 1)))), (3, .int (nI (i + 1)))]) hl [4, 5, 1, 0] rfl)
