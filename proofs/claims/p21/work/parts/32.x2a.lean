set_option maxRecDepth 100000 in
theorem in2_X2_list : ∀ w ∈ wsX20, w ∈ wsX2_list := by decide +kernel
set_option maxHeartbeats 4000000 in
set_option maxRecDepth 100000 in
theorem c_X2_list (l : Launch) (G : cG) (q fa fp dd pp st ts : Nat) (fx : Nat → Int32) (g : Nat → Nat) : cMI l G yX2_list wsX2_list ({ frames := 0, cells := 0, slots := 0, locals := 0 }) [.ref q] [(q, .inr (2, [.ref fa, .ref fp, .int (nI dd), .int (nI pp), .int (nI st), .int (nI ts)])), (fa, .inl (G.2.1, 640, .inl fx)), (fp, .inl (G.2.1, 25, .inl (nF g)))] (fun (r_ : Int32) (_ : Unit) => r_ = nI dd) (fun (_ : Unit) => [(q, .inr (2, [.ref fa, .ref fp, .int (nI dd), .int (nI pp), .int (nI st), .int (nI ts)])), (fa, .inl (G.2.1, 640, .inl fx)), (fp, .inl (G.2.1, 25, .inl (nF g)))]) := by
  refine cs_sI (own := RX2) (cc := cX2_list) (maxL := 1) (ret := (some .int)) (by decide) rfl rfl (Nat.le_of_ble_eq_true rfl) ?_
  intro p e s m below meth c A hx hb hr hml hts hown hlocks hinit hA hK hP hD hS ls hl
  have hin2 := in2_X2_list
  have hl : lv_has ls 1 [(0, .ref q)] := hl
  refine lv_aload_n hx hb dX2_list_0 rfl (lv_at hl 0 rfl) ?_
  refine va_get (D := G.1) (ci := 2) (v := .int (nI dd)) (C := RX2) (T := TX2) (N := 6) hx hb hts hin2 hown hK hP 0 rfl rfl 2 (by decide) (hts (.fieldLink RX2 18 "FaultShrinker$Search" "dish" "I") (List.mem_of_getElem? (i := 1) rfl)) (fun _ h9 => h9) rfl dX2_list_1 ?_
  exact cs_iret hx hb hr hlocks hK hP hD hS (v := nI dd) () (by first | rfl | assumption) rfl dX2_list_4

set_option maxRecDepth 100000 in
theorem in2_X2_steps : ∀ w ∈ wsX20, w ∈ wsX2_steps := by decide +kernel
set_option maxHeartbeats 4000000 in
set_option maxRecDepth 100000 in
theorem c_X2_steps (l : Launch) (G : cG) (q fa fp dd pp st ts : Nat) (fx : Nat → Int32) (g : Nat → Nat) : cMI l G yX2_steps wsX2_steps ({ frames := 0, cells := 0, slots := 0, locals := 0 }) [.ref q] [(q, .inr (2, [.ref fa, .ref fp, .int (nI dd), .int (nI pp), .int (nI st), .int (nI ts)])), (fa, .inl (G.2.1, 640, .inl fx)), (fp, .inl (G.2.1, 25, .inl (nF g)))] (fun (r_ : Int32) (_ : Unit) => r_ = nI st) (fun (_ : Unit) => [(q, .inr (2, [.ref fa, .ref fp, .int (nI dd), .int (nI pp), .int (nI st), .int (nI ts)])), (fa, .inl (G.2.1, 640, .inl fx)), (fp, .inl (G.2.1, 25, .inl (nF g)))]) := by
  refine cs_sI (own := RX2) (cc := cX2_steps) (maxL := 1) (ret := (some .int)) (by decide) rfl rfl (Nat.le_of_ble_eq_true rfl) ?_
  intro p e s m below meth c A hx hb hr hml hts hown hlocks hinit hA hK hP hD hS ls hl
  have hin2 := in2_X2_steps
  have hl : lv_has ls 1 [(0, .ref q)] := hl
  refine lv_aload_n hx hb dX2_steps_0 rfl (lv_at hl 0 rfl) ?_
  refine va_get (D := G.1) (ci := 2) (v := .int (nI st)) (C := RX2) (T := TX2) (N := 6) hx hb hts hin2 hown hK hP 0 rfl rfl 4 (by decide) (hts (.fieldLink RX2 28 "FaultShrinker$Search" "steps" "I") (List.mem_of_getElem? (i := 1) rfl)) (fun _ h9 => h9) rfl dX2_steps_1 ?_
  exact cs_iret hx hb hr hlocks hK hP hD hS (v := nI st) () (by first | rfl | assumption) rfl dX2_steps_4

set_option maxRecDepth 100000 in
theorem in2_X2_tastings : ∀ w ∈ wsX20, w ∈ wsX2_tastings := by decide +kernel
set_option maxHeartbeats 4000000 in
set_option maxRecDepth 100000 in
theorem c_X2_tastings (l : Launch) (G : cG) (q fa fp dd pp st ts : Nat) (fx : Nat → Int32) (g : Nat → Nat) : cMI l G yX2_tastings wsX2_tastings ({ frames := 0, cells := 0, slots := 0, locals := 0 }) [.ref q] [(q, .inr (2, [.ref fa, .ref fp, .int (nI dd), .int (nI pp), .int (nI st), .int (nI ts)])), (fa, .inl (G.2.1, 640, .inl fx)), (fp, .inl (G.2.1, 25, .inl (nF g)))] (fun (r_ : Int32) (_ : Unit) => r_ = nI ts) (fun (_ : Unit) => [(q, .inr (2, [.ref fa, .ref fp, .int (nI dd), .int (nI pp), .int (nI st), .int (nI ts)])), (fa, .inl (G.2.1, 640, .inl fx)), (fp, .inl (G.2.1, 25, .inl (nF g)))]) := by
  refine cs_sI (own := RX2) (cc := cX2_tastings) (maxL := 1) (ret := (some .int)) (by decide) rfl rfl (Nat.le_of_ble_eq_true rfl) ?_
  intro p e s m below meth c A hx hb hr hml hts hown hlocks hinit hA hK hP hD hS ls hl
  have hin2 := in2_X2_tastings
  have hl : lv_has ls 1 [(0, .ref q)] := hl
  refine lv_aload_n hx hb dX2_tastings_0 rfl (lv_at hl 0 rfl) ?_
  refine va_get (D := G.1) (ci := 2) (v := .int (nI ts)) (C := RX2) (T := TX2) (N := 6) hx hb hts hin2 hown hK hP 0 rfl rfl 5 (by decide) (hts (.fieldLink RX2 31 "FaultShrinker$Search" "tastings" "I") (List.mem_of_getElem? (i := 1) rfl)) (fun _ h9 => h9) rfl dX2_tastings_1 ?_
  exact cs_iret hx hb hr hlocks hK hP hD hS (v := nI ts) () (by first | rfl | assumption) rfl dX2_tastings_4

set_option maxRecDepth 100000 in
theorem in2_X2_listSize : ∀ w ∈ wsX20, w ∈ wsX2_listSize := by decide +kernel
set_option maxHeartbeats 4000000 in
set_option maxRecDepth 100000 in
theorem c_X2_listSize (l : Launch) (G : cG) (q fa fp dd pp st ts : Nat) (fx : Nat → Int32) (g : Nat → Nat) (hd : dd < 2 ^ 24) : cMI l G yX2_listSize wsX2_listSize ({ frames := 1, cells := 0, slots := 0, locals := 20 }) [.ref q] [(q, .inr (2, [.ref fa, .ref fp, .int (nI dd), .int (nI pp), .int (nI st), .int (nI ts)])), (fa, .inl (G.2.1, 640, .inl fx)), (fp, .inl (G.2.1, 25, .inl (nF g)))] (fun (r_ : Int32) (_ : Unit) => r_ = nI (cnt dd 24)) (fun (_ : Unit) => [(q, .inr (2, [.ref fa, .ref fp, .int (nI dd), .int (nI pp), .int (nI st), .int (nI ts)])), (fa, .inl (G.2.1, 640, .inl fx)), (fp, .inl (G.2.1, 25, .inl (nF g)))]) := by
  refine cs_sI (own := RX2) (cc := cX2_listSize) (maxL := 1) (ret := (some .int)) (by decide) rfl rfl (Nat.le_of_ble_eq_true rfl) ?_
  intro p e s m below meth c A hx hb hr hml hts hown hlocks hinit hA hK hP hD hS ls hl
  have hin2 := in2_X2_listSize
  have hl : lv_has ls 1 [(0, .ref q)] := hl
  refine lv_aload_n hx hb dX2_listSize_0 rfl (lv_at hl 0 rfl) ?_
  refine va_get (D := G.1) (ci := 2) (v := .int (nI dd)) (C := RX2) (T := TX2) (N := 6) hx hb hts hin2 hown hK hP 0 rfl rfl 2 (by decide) (hts (.fieldLink RX2 18 "FaultShrinker$Search" "dish" "I") (List.mem_of_getElem? (i := 1) rfl)) (fun _ h9 => h9) rfl dX2_listSize_1 ?_
  refine cs_si (As := [.int (nI dd)]) (rest := []) (wr := [(q, .inr (2, [.ref fa, .ref fp, .int (nI dd), .int (nI pp), .int (nI st), .int (nI ts)])), (fa, .inl (G.2.1, 640, .inl fx)), (fp, .inl (G.2.1, 25, .inl (nF g)))]) ⟨hx, hb, hml, hown, hts⟩ hK hP hD hS hA (c_J6_bitCount_0f7a4 l G dd (by first | assumption | omega)) (va_cwS 1 hts gX2_listSize_J6_bitCount_0f7a4 rfl rfl rfl (by decide +kernel) ⟨Nat.le_of_ble_eq_true rfl, Nat.le_of_ble_eq_true rfl⟩) [] [0, 1, 2] ⟨rfl, rfl, by decide, by decide, by decide⟩ rfl hl.1 rfl (Nat.le_of_ble_eq_true rfl) ⟨Nat.le_of_ble_eq_true rfl, Nat.le_of_ble_eq_true rfl⟩ dX2_listSize_4 (fun r u H locs hw hP hD hS => ?_)
  have hP : va_P G.1 vwCl [(q, .inr (2, [.ref fa, .ref fp, .int (nI dd), .int (nI pp), .int (nI st), .int (nI ts)])), (fa, .inl (G.2.1, 640, .inl fx)), (fp, .inl (G.2.1, 25, .inl (nF g)))] H := hP.sub [0, 1, 2] rfl
  have hD : va_D A [(q, .inr (2, [.ref fa, .ref fp, .int (nI dd), .int (nI pp), .int (nI st), .int (nI ts)])), (fa, .inl (G.2.1, 640, .inl fx)), (fp, .inl (G.2.1, 25, .inl (nF g)))] := hD.sub [0, 1, 2] (by decide) rfl
  subst hw
  exact cs_iret hx hb hr hlocks hK hP hD hS (v := nI (cnt dd 24)) () (by first | rfl | assumption) rfl dX2_listSize_7

set_option maxRecDepth 100000 in
theorem in2_X2_listPlace : ∀ w ∈ wsX20, w ∈ wsX2_listPlace := by decide +kernel
set_option maxHeartbeats 4000000 in
set_option maxRecDepth 100000 in
theorem c_X2_listPlace (l : Launch) (G : cG) (q fa fp dd pp st ts : Nat) (fx : Nat → Int32) (g : Nat → Nat) (j pl : Nat) (hpl : pl < 24) (hbt : dd.testBit pl = true) (hcj : cnt dd pl = j) (hd : dd < 2 ^ 24) : cMI l G yX2_listPlace wsX2_listPlace ({ frames := 0, cells := 0, slots := 0, locals := 0 }) [.ref q, .int (nI j)] [(q, .inr (2, [.ref fa, .ref fp, .int (nI dd), .int (nI pp), .int (nI st), .int (nI ts)])), (fa, .inl (G.2.1, 640, .inl fx)), (fp, .inl (G.2.1, 25, .inl (nF g)))] (fun (r_ : Int32) (_ : Unit) => r_ = nI pl) (fun (_ : Unit) => [(q, .inr (2, [.ref fa, .ref fp, .int (nI dd), .int (nI pp), .int (nI st), .int (nI ts)])), (fa, .inl (G.2.1, 640, .inl fx)), (fp, .inl (G.2.1, 25, .inl (nF g)))]) := by
  refine cs_sI (own := RX2) (cc := cX2_listPlace) (maxL := 5) (ret := (some .int)) (by decide) rfl rfl (Nat.le_of_ble_eq_true rfl) ?_
  intro p e s m below meth c A hx hb hr hml hts hown hlocks hinit hA hK hP hD hS ls hl
  have hin2 := in2_X2_listPlace
  have hl : lv_has ls 5 [(0, .ref q), (1, .int (nI j))] := hl
  refine lv_iconst (v := nI 0) hx hb dX2_listPlace_0 (by decide +kernel) ?_
  refine lv_istore_n (lv' := [(2, .int (nI 0)), (0, .ref q), (1, .int (nI j))]) hx hb dX2_listPlace_1 rfl hl (by decide) rfl (fun ls hl => ?_)
  refine lv_iconst (v := nI 0) hx hb dX2_listPlace_2 (by decide +kernel) ?_
  refine lv_istore_n (lv' := [(3, .int (nI 0)), (2, .int (nI 0)), (0, .ref q), (1, .int (nI j))]) hx hb dX2_listPlace_3 rfl hl (by decide) rfl (fun ls hl => ?_)
  refine cs_loop (G := G) (nL := 5) (σ := Nat) (fun (i : Nat) => 24 - i) (fun (i : Nat) => i ≤ pl) (fun (i : Nat) => [(q, .inr (2, [.ref fa, .ref fp, .int (nI dd), .int (nI pp), .int (nI st), .int (nI ts)])), (fa, .inl (G.2.1, 640, .inl fx)), (fp, .inl (G.2.1, 25, .inl (nF g)))]) (fun (i : Nat) => [(0, .ref q), (1, .int (nI j)), (2, .int (nI (cnt dd i))), (3, .int (nI i))]) ?_ (0) (by show 0 ≤ pl; omega) (hP.sub (ws' := [(q, .inr (2, [.ref fa, .ref fp, .int (nI dd), .int (nI pp), .int (nI st), .int (nI ts)])), (fa, .inl (G.2.1, 640, .inl fx)), (fp, .inl (G.2.1, 25, .inl (nF g)))]) [0, 1, 2] rfl) (hD.sub (ws' := [(q, .inr (2, [.ref fa, .ref fp, .int (nI dd), .int (nI pp), .int (nI st), .int (nI ts)])), (fa, .inl (G.2.1, 640, .inl fx)), (fp, .inl (G.2.1, 25, .inl (nF g)))]) [0, 1, 2] (by decide) rfl) hS (lv_sub (l' := [(0, .ref q), (1, .int (nI j)), (2, .int (nI (cnt dd 0))), (3, .int (nI 0))]) hl [2, 3, 1, 0] rfl)
  rintro i hinv ih H locs ls hP hD hS hl
  have hP : va_P G.1 vwCl [(q, .inr (2, [.ref fa, .ref fp, .int (nI dd), .int (nI pp), .int (nI st), .int (nI ts)])), (fa, .inl (G.2.1, 640, .inl fx)), (fp, .inl (G.2.1, 25, .inl (nF g)))] H := hP
  have hD : va_D A [(q, .inr (2, [.ref fa, .ref fp, .int (nI dd), .int (nI pp), .int (nI st), .int (nI ts)])), (fa, .inl (G.2.1, 640, .inl fx)), (fp, .inl (G.2.1, 25, .inl (nF g)))] := hD
  have hl : lv_has ls 5 [(0, .ref q), (1, .int (nI j)), (2, .int (nI (cnt dd i))), (3, .int (nI i))] := hl
  have hinv : i ≤ pl := hinv
  have hci := cnt_le dd i
  have hcp := cnt_le dd pl
  refine lv_iload_n hx hb dX2_listPlace_4 rfl (lv_at hl 3 rfl) ?_
  refine lv_bipush (v := nI 24) hx hb dX2_listPlace_5 (by decide +kernel) ?_
  refine lv_icmp_ge (tgt := 59) hx hb dX2_listPlace_7 (by decide) (fun c_7 => ?_) (fun c_7 => ?_)
  · have c_7 := (nI_leI (by omega) (by omega)).mp c_7
    exact absurd c_7 (by omega)
  · have c_7 := mt (nI_leI (by omega) (by omega)).mpr c_7
    refine lv_aload_n hx hb dX2_listPlace_10 rfl (lv_at hl 0 rfl) ?_
    refine va_get (D := G.1) (ci := 2) (v := .int (nI dd)) (C := RX2) (T := TX2) (N := 6) hx hb hts hin2 hown hK hP 0 rfl rfl 2 (by decide) (hts (.fieldLink RX2 18 "FaultShrinker$Search" "dish" "I") (List.mem_of_getElem? (i := 1) rfl)) (fun _ h9 => h9) rfl dX2_listPlace_11 ?_
    refine lv_iload_n hx hb dX2_listPlace_14 rfl (lv_at hl 3 rfl) ?_
    refine lv_ishr hx hb dX2_listPlace_15 ?_
    refine cs_i (y := nI (dd >>> i)) (nI_shr (by omega) (by omega)) ?_
    refine lv_iconst (v := nI 1) hx hb dX2_listPlace_16 (by decide +kernel) ?_
    refine lv_iand hx hb dX2_listPlace_17 ?_
    refine cs_i (y := bI (dd.testBit i)) (by rw [fa_and]; exact bitI dd i) ?_
    refine lv_if_eq (tgt := 25) hx hb dX2_listPlace_18 (by decide) (fun c_18 => ?_) (fun c_18 => ?_)
    · have c_18 := bI_0 c_18
      refine lv_iconst (v := nI 0) hx hb dX2_listPlace_25 (by decide +kernel) ?_
      refine lv_istore (lv' := [(4, .int (nI 0)), (0, .ref q), (1, .int (nI j)), (2, .int (nI (cnt dd i))), (3, .int (nI i))]) hx hb dX2_listPlace_26 hl (by decide) rfl (fun ls hl => ?_)
      refine lv_iload hx hb dX2_listPlace_28 (lv_at hl 0 rfl) ?_
      refine lv_if_eq (tgt := 40) hx hb dX2_listPlace_30 (by decide) (fun c_30 => ?_) (fun c_30 => ?_)
      · refine lv_iload_n hx hb dX2_listPlace_40 rfl (lv_at hl 3 rfl) ?_
        refine lv_iload hx hb dX2_listPlace_41 (lv_at hl 0 rfl) ?_
        refine lv_if_eq (tgt := 50) hx hb dX2_listPlace_43 (by decide) (fun c_43 => ?_) (fun c_43 => ?_)
        · refine lv_iconst (v := nI 0) hx hb dX2_listPlace_50 (by decide +kernel) ?_
          refine lv_iadd hx hb dX2_listPlace_51 ?_
          refine cs_i (y := nI ((cnt dd i) + 0)) (nI_add _ _) ?_
          refine lv_istore_n (lv' := [(2, .int (nI ((cnt dd i) + 0))), (4, .int (nI 0)), (0, .ref q), (1, .int (nI j)), (3, .int (nI i))]) hx hb dX2_listPlace_52 rfl hl (by decide) rfl (fun ls hl => ?_)
          refine lv_iinc (v := nI (i + 1)) (lv' := [(3, .int (nI (i + 1))), (2, .int (nI ((cnt dd i) + 0))), (4, .int (nI 0)), (0, .ref q), (1, .int (nI j))]) hx hb dX2_listPlace_53 hl (k := 4) rfl ((nI_succ i).symm) (by decide) rfl (fun ls hl => ?_)
          have e8 : nI ((cnt dd i) + 0) = nI (cnt dd (i + 1)) := by first | rw [cnt_t c_18] | rw [cnt_f c_18]; rfl
          rw [e8] at hl
          refine lv_goto (tgt := 4) hx hb dX2_listPlace_56 (by decide) ?_
          exact ih (i + 1) (by show 24 - (i + 1) < 24 - i; omega) (by first | (have h9 : i ≠ pl := (fun z => c_35 (by rw [z, hcj])); show i + 1 ≤ pl; omega) | (have h9 : i ≠ pl := (fun z => by rw [z, hbt] at c_18; exact absurd c_18 (by decide)); show i + 1 ≤ pl; omega)) _ _ _ (hP.sub (ws' := [(q, .inr (2, [.ref fa, .ref fp, .int (nI dd), .int (nI pp), .int (nI st), .int (nI ts)])), (fa, .inl (G.2.1, 640, .inl fx)), (fp, .inl (G.2.1, 25, .inl (nF g)))]) [0, 1, 2] rfl) (hD.sub (ws' := [(q, .inr (2, [.ref fa, .ref fp, .int (nI dd), .int (nI pp), .int (nI st), .int (nI ts)])), (fa, .inl (G.2.1, 640, .inl fx)), (fp, .inl (G.2.1, 25, .inl (nF g)))]) [0, 1, 2] (by decide) rfl) hS (lv_sub (l' := [(0, .ref q), (1, .int (nI j)), (2, .int (nI (cnt dd (i + 1)))), (3, .int (nI (i + 1)))]) hl [3, 4, 1, 0] rfl)
        · exact absurd (by decide +kernel) c_43
      · exact absurd (by decide +kernel) c_30
    · have c_18 := bI_n0 c_18
      refine lv_iconst (v := nI 1) hx hb dX2_listPlace_21 (by decide +kernel) ?_
      refine lv_goto (tgt := 26) hx hb dX2_listPlace_22 (by decide) ?_
      refine lv_istore (lv' := [(4, .int (nI 1)), (0, .ref q), (1, .int (nI j)), (2, .int (nI (cnt dd i))), (3, .int (nI i))]) hx hb dX2_listPlace_26 hl (by decide) rfl (fun ls hl => ?_)
      refine lv_iload hx hb dX2_listPlace_28 (lv_at hl 0 rfl) ?_
      refine lv_if_eq (tgt := 40) hx hb dX2_listPlace_30 (by decide) (fun c_30 => ?_) (fun c_30 => ?_)
      · exact absurd c_30 (by decide +kernel)
      · refine lv_iload_n hx hb dX2_listPlace_33 rfl (lv_at hl 3 rfl) ?_
        refine lv_iload_n hx hb dX2_listPlace_34 rfl (lv_at hl 2 rfl) ?_
        refine lv_icmp_ne (tgt := 40) hx hb dX2_listPlace_35 (by decide) (fun c_35 => ?_) (fun c_35 => ?_)
        · have c_35 := (nI_neI (by omega) (by omega)).mp c_35
          refine lv_iload_n hx hb dX2_listPlace_40 rfl (lv_at hl 3 rfl) ?_
          refine lv_iload hx hb dX2_listPlace_41 (lv_at hl 0 rfl) ?_
          refine lv_if_eq (tgt := 50) hx hb dX2_listPlace_43 (by decide) (fun c_43 => ?_) (fun c_43 => ?_)
          · exact absurd c_43 (by decide +kernel)
          · refine lv_iconst (v := nI 1) hx hb dX2_listPlace_46 (by decide +kernel) ?_
            refine lv_goto (tgt := 51) hx hb dX2_listPlace_47 (by decide) ?_
            refine lv_iadd hx hb dX2_listPlace_51 ?_
            refine cs_i (y := nI ((cnt dd i) + 1)) (nI_add _ _) ?_
            refine lv_istore_n (lv' := [(2, .int (nI ((cnt dd i) + 1))), (4, .int (nI 1)), (0, .ref q), (1, .int (nI j)), (3, .int (nI i))]) hx hb dX2_listPlace_52 rfl hl (by decide) rfl (fun ls hl => ?_)
            refine lv_iinc (v := nI (i + 1)) (lv' := [(3, .int (nI (i + 1))), (2, .int (nI ((cnt dd i) + 1))), (4, .int (nI 1)), (0, .ref q), (1, .int (nI j))]) hx hb dX2_listPlace_53 hl (k := 4) rfl ((nI_succ i).symm) (by decide) rfl (fun ls hl => ?_)
            have e8 : nI ((cnt dd i) + 1) = nI (cnt dd (i + 1)) := by first | rw [cnt_t c_18] | rw [cnt_f c_18]; rfl
            rw [e8] at hl
            refine lv_goto (tgt := 4) hx hb dX2_listPlace_56 (by decide) ?_
            exact ih (i + 1) (by show 24 - (i + 1) < 24 - i; omega) (by first | (have h9 : i ≠ pl := (fun z => c_35 (by rw [z, hcj])); show i + 1 ≤ pl; omega) | (have h9 : i ≠ pl := (fun z => by rw [z, hbt] at c_18; exact absurd c_18 (by decide)); show i + 1 ≤ pl; omega)) _ _ _ (hP.sub (ws' := [(q, .inr (2, [.ref fa, .ref fp, .int (nI dd), .int (nI pp), .int (nI st), .int (nI ts)])), (fa, .inl (G.2.1, 640, .inl fx)), (fp, .inl (G.2.1, 25, .inl (nF g)))]) [0, 1, 2] rfl) (hD.sub (ws' := [(q, .inr (2, [.ref fa, .ref fp, .int (nI dd), .int (nI pp), .int (nI st), .int (nI ts)])), (fa, .inl (G.2.1, 640, .inl fx)), (fp, .inl (G.2.1, 25, .inl (nF g)))]) [0, 1, 2] (by decide) rfl) hS (lv_sub (l' := [(0, .ref q), (1, .int (nI j)), (2, .int (nI (cnt dd (i + 1)))), (3, .int (nI (i + 1)))]) hl [3, 4, 1, 0] rfl)
        · have c_35 := (nI_eq (by omega) (by omega)).mp c_35
          refine lv_iload_n hx hb dX2_listPlace_38 rfl (lv_at hl 4 rfl) ?_
          exact cs_iret hx hb hr hlocks hK hP hD hS (v := nI i) () (by rcases Nat.lt_or_ge i pl with z | z <;> first | (have z2 := cnt_kth c_18 z; omega) | (have z3 : i = pl := (by omega); rw [z3])) rfl dX2_listPlace_39

set_option maxRecDepth 100000 in
theorem in2_X2_stepFact : ∀ w ∈ wsX20, w ∈ wsX2_stepFact := by decide +kernel
set_option maxHeartbeats 4000000 in
set_option maxRecDepth 100000 in
theorem c_X2_stepFact (l : Launch) (G : cG) (q fa fp dd pp st ts : Nat) (fx : Nat → Int32) (g : Nat → Nat) (j w : Nat) (hj : j < st) (hw9 : w < 5) (hst : st ≤ 128) : cMI l G yX2_stepFact wsX2_stepFact ({ frames := 0, cells := 0, slots := 0, locals := 0 }) [.ref q, .int (nI j), .int (nI w)] [(q, .inr (2, [.ref fa, .ref fp, .int (nI dd), .int (nI pp), .int (nI st), .int (nI ts)])), (fa, .inl (G.2.1, 640, .inl fx)), (fp, .inl (G.2.1, 25, .inl (nF g)))] (fun (r_ : Int32) (_ : Unit) => r_ = fx (j * 5 + w)) (fun (_ : Unit) => [(q, .inr (2, [.ref fa, .ref fp, .int (nI dd), .int (nI pp), .int (nI st), .int (nI ts)])), (fa, .inl (G.2.1, 640, .inl fx)), (fp, .inl (G.2.1, 25, .inl (nF g)))]) := by
  refine cs_sI (own := RX2) (cc := cX2_stepFact) (maxL := 4) (ret := (some .int)) (by decide) rfl rfl (Nat.le_of_ble_eq_true rfl) ?_
  intro p e s m below meth c A hx hb hr hml hts hown hlocks hinit hA hK hP hD hS ls hl
  have hin2 := in2_X2_stepFact
  have hl : lv_has ls 4 [(0, .ref q), (1, .int (nI j)), (2, .int (nI w))] := hl
  refine lv_iload_n hx hb dX2_stepFact_0 rfl (lv_at hl 1 rfl) ?_
  refine lv_if_lt (tgt := 25) hx hb dX2_stepFact_1 (by decide) (fun c_1 => ?_) (fun c_1 => ?_)
  · have c_1 := (nI_lt0 (by omega)).mp c_1
    exact absurd c_1 (by omega)
  · have c_1 := mt (nI_lt0 (by omega)).mpr c_1
    refine lv_iload_n hx hb dX2_stepFact_4 rfl (lv_at hl 1 rfl) ?_
    refine lv_aload_n hx hb dX2_stepFact_5 rfl (lv_at hl 0 rfl) ?_
    refine va_get (D := G.1) (ci := 2) (v := .int (nI st)) (C := RX2) (T := TX2) (N := 6) hx hb hts hin2 hown hK hP 0 rfl rfl 4 (by decide) (hts (.fieldLink RX2 28 "FaultShrinker$Search" "steps" "I") (List.mem_of_getElem? (i := 1) rfl)) (fun _ h9 => h9) rfl dX2_stepFact_6 ?_
    refine lv_icmp_ge (tgt := 25) hx hb dX2_stepFact_9 (by decide) (fun c_9 => ?_) (fun c_9 => ?_)
    · have c_9 := (nI_leI (by omega) (by omega)).mp c_9
      exact absurd c_9 (by omega)
    · have c_9 := mt (nI_leI (by omega) (by omega)).mpr c_9
      refine lv_iload_n hx hb dX2_stepFact_12 rfl (lv_at hl 2 rfl) ?_
      refine lv_if_lt (tgt := 25) hx hb dX2_stepFact_13 (by decide) (fun c_13 => ?_) (fun c_13 => ?_)
      · have c_13 := (nI_lt0 (by omega)).mp c_13
        exact absurd c_13 (by omega)
      · have c_13 := mt (nI_lt0 (by omega)).mpr c_13
        refine lv_iload_n hx hb dX2_stepFact_16 rfl (lv_at hl 2 rfl) ?_
        refine lv_iconst (v := nI 5) hx hb dX2_stepFact_17 (by decide +kernel) ?_
        refine lv_icmp_ge (tgt := 25) hx hb dX2_stepFact_18 (by decide) (fun c_18 => ?_) (fun c_18 => ?_)
        · have c_18 := (nI_leI (by omega) (by omega)).mp c_18
          exact absurd c_18 (by omega)
        · have c_18 := mt (nI_leI (by omega) (by omega)).mpr c_18
          refine lv_iconst (v := nI 1) hx hb dX2_stepFact_21 (by decide +kernel) ?_
          refine lv_goto (tgt := 26) hx hb dX2_stepFact_22 (by decide) ?_
          refine lv_istore_n (lv' := [(3, .int (nI 1)), (0, .ref q), (1, .int (nI j)), (2, .int (nI w))]) hx hb dX2_stepFact_26 rfl hl (by decide) rfl (fun ls hl => ?_)
          refine lv_iload_n hx hb dX2_stepFact_27 rfl (lv_at hl 0 rfl) ?_
          refine lv_if_eq (tgt := 44) hx hb dX2_stepFact_28 (by decide) (fun c_28 => ?_) (fun c_28 => ?_)
          · exact absurd c_28 (by decide +kernel)
          · refine lv_aload_n hx hb dX2_stepFact_31 rfl (lv_at hl 1 rfl) ?_
            refine va_get (D := G.1) (ci := 2) (v := .ref fa) (C := RX2) (T := TX2) (N := 6) hx hb hts hin2 hown hK hP 0 rfl rfl 0 (by decide) (hts (.fieldLink RX2 11 "FaultShrinker$Search" "facts" "[I") (List.mem_of_getElem? (i := 2) rfl)) (fun _ h9 => h9) rfl dX2_stepFact_32 ?_
            refine lv_iload_n hx hb dX2_stepFact_35 rfl (lv_at hl 2 rfl) ?_
            refine lv_iconst (v := nI 5) hx hb dX2_stepFact_36 (by decide +kernel) ?_
            refine lv_imul hx hb dX2_stepFact_37 ?_
            refine cs_i (y := nI (j * 5)) (pk_mul _ _) ?_
            refine lv_iload_n hx hb dX2_stepFact_38 rfl (lv_at hl 3 rfl) ?_
            refine lv_iadd hx hb dX2_stepFact_39 ?_
            refine cs_i (y := nI ((j * 5) + w)) (nI_add _ _) ?_
            refine va_iald hx hb hK hP 1 0 rfl rfl (vp_in_nI (by omega) (by omega)) dX2_stepFact_40 ?_
            refine cs_i (y := fx ((j * 5) + w)) (aF_at _ (by omega)) ?_
            refine lv_goto (tgt := 45) hx hb dX2_stepFact_41 (by decide) ?_
            exact cs_iret hx hb hr hlocks hK hP hD hS (v := fx ((j * 5) + w)) () (by first | rfl | assumption) rfl dX2_stepFact_45

set_option maxRecDepth 100000 in
theorem in2_X2_note : ∀ w ∈ wsX20, w ∈ wsX2_note := by decide +kernel
set_option maxHeartbeats 4000000 in
set_option maxRecDepth 100000 in
theorem c_X2_note (l : Launch) (G : cG) (q fa fp dd pp st ts : Nat) (fx : Nat → Int32) (g : Nat → Nat) (sz wy : Nat) (xp : Int32) (be : Nat) (F : List Int32) (hst : st < 128) (hF : F.length = 5 * st) (hfx : FR fx F) : cMV l G yX2_note wsX2_note ({ frames := 0, cells := 0, slots := 0, locals := 0 }) [.ref q, .int (nI sz), .int (nI wy), .int xp, .int (nI be)] [(q, .inr (2, [.ref fa, .ref fp, .int (nI dd), .int (nI pp), .int (nI st), .int (nI ts)])), (fa, .inl (G.2.1, 640, .inl fx)), (fp, .inl (G.2.1, 25, .inl (nF g)))] (fun (fx9 : Nat → Int32) => FR fx9 (F ++ [nI sz, nI pp, nI wy, xp, nI be])) (fun (fx9 : Nat → Int32) => [(q, .inr (2, [.ref fa, .ref fp, .int (nI be), .int (nI pp), .int (nI (st + 1)), .int (nI ts)])), (fa, .inl (G.2.1, 640, .inl fx9)), (fp, .inl (G.2.1, 25, .inl (nF g)))]) := by
  refine cs_sV (own := RX2) (cc := cX2_note) (maxL := 6) (ret := none) (by decide) rfl rfl (Nat.le_of_ble_eq_true rfl) ?_
  intro p e s m below meth c A hx hb hr hml hts hown hlocks hinit hA hK hP hD hS ls hl
  have hin2 := in2_X2_note
  have hl : lv_has ls 6 [(0, .ref q), (1, .int (nI sz)), (2, .int (nI wy)), (3, .int xp), (4, .int (nI be))] := hl
  refine lv_aload_n hx hb dX2_note_0 rfl (lv_at hl 0 rfl) ?_
  refine va_get (D := G.1) (ci := 2) (v := .int (nI st)) (C := RX2) (T := TX2) (N := 6) hx hb hts hin2 hown hK hP 0 rfl rfl 4 (by decide) (hts (.fieldLink RX2 28 "FaultShrinker$Search" "steps" "I") (List.mem_of_getElem? (i := 1) rfl)) (fun _ h9 => h9) rfl dX2_note_1 ?_
  refine lv_sipush (v := nI 128) hx hb dX2_note_4 (by decide +kernel) ?_
  refine lv_icmp_ge (tgt := 80) hx hb dX2_note_7 (by decide) (fun c_7 => ?_) (fun c_7 => ?_)
  · have c_7 := (nI_leI (by omega) (by omega)).mp c_7
    exact absurd c_7 (by omega)
  · have c_7 := mt (nI_leI (by omega) (by omega)).mpr c_7
    refine lv_aload_n hx hb dX2_note_10 rfl (lv_at hl 0 rfl) ?_
    refine va_get (D := G.1) (ci := 2) (v := .int (nI st)) (C := RX2) (T := TX2) (N := 6) hx hb hts hin2 hown hK hP 0 rfl rfl 4 (by decide) (hts (.fieldLink RX2 28 "FaultShrinker$Search" "steps" "I") (List.mem_of_getElem? (i := 1) rfl)) (fun _ h9 => h9) rfl dX2_note_11 ?_
    refine lv_iconst (v := nI 5) hx hb dX2_note_14 (by decide +kernel) ?_
    refine lv_imul hx hb dX2_note_15 ?_
    refine cs_i (y := nI (st * 5)) (pk_mul _ _) ?_
    refine lv_istore (lv' := [(5, .int (nI (st * 5))), (0, .ref q), (1, .int (nI sz)), (2, .int (nI wy)), (3, .int xp), (4, .int (nI be))]) hx hb dX2_note_16 hl (by decide) rfl (fun ls hl => ?_)
    refine lv_aload_n hx hb dX2_note_18 rfl (lv_at hl 1 rfl) ?_
    refine va_get (D := G.1) (ci := 2) (v := .ref fa) (C := RX2) (T := TX2) (N := 6) hx hb hts hin2 hown hK hP 0 rfl rfl 0 (by decide) (hts (.fieldLink RX2 11 "FaultShrinker$Search" "facts" "[I") (List.mem_of_getElem? (i := 2) rfl)) (fun _ h9 => h9) rfl dX2_note_19 ?_
    refine lv_iload hx hb dX2_note_22 (lv_at hl 0 rfl) ?_
    refine lv_iload_n hx hb dX2_note_24 rfl (lv_at hl 2 rfl) ?_
    refine va_iast hx hb hK hP hD hS 1 0 rfl rfl (vp_in_nI (by omega) (by omega)) dX2_note_25 (fun H locs hP hD hS => ?_)
    rw [aF_upd _ (by omega)] at hP hD
    have hP : va_P G.1 vwCl [(q, .inr (2, [.ref fa, .ref fp, .int (nI dd), .int (nI pp), .int (nI st), .int (nI ts)])), (fa, .inl (G.2.1, 640, .inl (va_up fx (st * 5) (nI sz)))), (fp, .inl (G.2.1, 25, .inl (nF g)))] H := hP
    have hD : va_D A [(q, .inr (2, [.ref fa, .ref fp, .int (nI dd), .int (nI pp), .int (nI st), .int (nI ts)])), (fa, .inl (G.2.1, 640, .inl (va_up fx (st * 5) (nI sz)))), (fp, .inl (G.2.1, 25, .inl (nF g)))] := hD
    refine lv_aload_n hx hb dX2_note_26 rfl (lv_at hl 1 rfl) ?_
    refine va_get (D := G.1) (ci := 2) (v := .ref fa) (C := RX2) (T := TX2) (N := 6) hx hb hts hin2 hown hK hP 0 rfl rfl 0 (by decide) (hts (.fieldLink RX2 11 "FaultShrinker$Search" "facts" "[I") (List.mem_of_getElem? (i := 2) rfl)) (fun _ h9 => h9) rfl dX2_note_27 ?_
    refine lv_iload hx hb dX2_note_30 (lv_at hl 0 rfl) ?_
    refine lv_iconst (v := nI 1) hx hb dX2_note_32 (by decide +kernel) ?_
    refine lv_iadd hx hb dX2_note_33 ?_
    refine cs_i (y := nI ((st * 5) + 1)) (nI_add _ _) ?_
    refine lv_aload_n hx hb dX2_note_34 rfl (lv_at hl 1 rfl) ?_
    refine va_get (D := G.1) (ci := 2) (v := .int (nI pp)) (C := RX2) (T := TX2) (N := 6) hx hb hts hin2 hown hK hP 0 rfl rfl 3 (by decide) (hts (.fieldLink RX2 53 "FaultShrinker$Search" "parts" "I") (List.mem_of_getElem? (i := 3) rfl)) (fun _ h9 => h9) rfl dX2_note_35 ?_
    refine va_iast hx hb hK hP hD hS 1 0 rfl rfl (vp_in_nI (by omega) (by omega)) dX2_note_38 (fun H locs hP hD hS => ?_)
    rw [aF_upd _ (by omega)] at hP hD
    have hP : va_P G.1 vwCl [(q, .inr (2, [.ref fa, .ref fp, .int (nI dd), .int (nI pp), .int (nI st), .int (nI ts)])), (fa, .inl (G.2.1, 640, .inl (va_up (va_up fx (st * 5) (nI sz)) ((st * 5) + 1) (nI pp)))), (fp, .inl (G.2.1, 25, .inl (nF g)))] H := hP
    have hD : va_D A [(q, .inr (2, [.ref fa, .ref fp, .int (nI dd), .int (nI pp), .int (nI st), .int (nI ts)])), (fa, .inl (G.2.1, 640, .inl (va_up (va_up fx (st * 5) (nI sz)) ((st * 5) + 1) (nI pp)))), (fp, .inl (G.2.1, 25, .inl (nF g)))] := hD
    refine lv_aload_n hx hb dX2_note_39 rfl (lv_at hl 1 rfl) ?_
    refine va_get (D := G.1) (ci := 2) (v := .ref fa) (C := RX2) (T := TX2) (N := 6) hx hb hts hin2 hown hK hP 0 rfl rfl 0 (by decide) (hts (.fieldLink RX2 11 "FaultShrinker$Search" "facts" "[I") (List.mem_of_getElem? (i := 2) rfl)) (fun _ h9 => h9) rfl dX2_note_40 ?_
    refine lv_iload hx hb dX2_note_43 (lv_at hl 0 rfl) ?_
    refine lv_iconst (v := nI 2) hx hb dX2_note_45 (by decide +kernel) ?_
    refine lv_iadd hx hb dX2_note_46 ?_
    refine cs_i (y := nI ((st * 5) + 2)) (nI_add _ _) ?_
    refine lv_iload_n hx hb dX2_note_47 rfl (lv_at hl 3 rfl) ?_
    refine va_iast hx hb hK hP hD hS 1 0 rfl rfl (vp_in_nI (by omega) (by omega)) dX2_note_48 (fun H locs hP hD hS => ?_)
    rw [aF_upd _ (by omega)] at hP hD
    have hP : va_P G.1 vwCl [(q, .inr (2, [.ref fa, .ref fp, .int (nI dd), .int (nI pp), .int (nI st), .int (nI ts)])), (fa, .inl (G.2.1, 640, .inl (va_up (va_up (va_up fx (st * 5) (nI sz)) ((st * 5) + 1) (nI pp)) ((st * 5) + 2) (nI wy)))), (fp, .inl (G.2.1, 25, .inl (nF g)))] H := hP
    have hD : va_D A [(q, .inr (2, [.ref fa, .ref fp, .int (nI dd), .int (nI pp), .int (nI st), .int (nI ts)])), (fa, .inl (G.2.1, 640, .inl (va_up (va_up (va_up fx (st * 5) (nI sz)) ((st * 5) + 1) (nI pp)) ((st * 5) + 2) (nI wy)))), (fp, .inl (G.2.1, 25, .inl (nF g)))] := hD
    refine lv_aload_n hx hb dX2_note_49 rfl (lv_at hl 1 rfl) ?_
    refine va_get (D := G.1) (ci := 2) (v := .ref fa) (C := RX2) (T := TX2) (N := 6) hx hb hts hin2 hown hK hP 0 rfl rfl 0 (by decide) (hts (.fieldLink RX2 11 "FaultShrinker$Search" "facts" "[I") (List.mem_of_getElem? (i := 2) rfl)) (fun _ h9 => h9) rfl dX2_note_50 ?_
    refine lv_iload hx hb dX2_note_53 (lv_at hl 0 rfl) ?_
    refine lv_iconst (v := nI 3) hx hb dX2_note_55 (by decide +kernel) ?_
    refine lv_iadd hx hb dX2_note_56 ?_
    refine cs_i (y := nI ((st * 5) + 3)) (nI_add _ _) ?_
    refine lv_iload_n hx hb dX2_note_57 rfl (lv_at hl 4 rfl) ?_
    refine va_iast hx hb hK hP hD hS 1 0 rfl rfl (vp_in_nI (by omega) (by omega)) dX2_note_58 (fun H locs hP hD hS => ?_)
    rw [aF_upd _ (by omega)] at hP hD
    have hP : va_P G.1 vwCl [(q, .inr (2, [.ref fa, .ref fp, .int (nI dd), .int (nI pp), .int (nI st), .int (nI ts)])), (fa, .inl (G.2.1, 640, .inl (va_up (va_up (va_up (va_up fx (st * 5) (nI sz)) ((st * 5) + 1) (nI pp)) ((st * 5) + 2) (nI wy)) ((st * 5) + 3) xp))), (fp, .inl (G.2.1, 25, .inl (nF g)))] H := hP
    have hD : va_D A [(q, .inr (2, [.ref fa, .ref fp, .int (nI dd), .int (nI pp), .int (nI st), .int (nI ts)])), (fa, .inl (G.2.1, 640, .inl (va_up (va_up (va_up (va_up fx (st * 5) (nI sz)) ((st * 5) + 1) (nI pp)) ((st * 5) + 2) (nI wy)) ((st * 5) + 3) xp))), (fp, .inl (G.2.1, 25, .inl (nF g)))] := hD
    refine lv_aload_n hx hb dX2_note_59 rfl (lv_at hl 1 rfl) ?_
    refine va_get (D := G.1) (ci := 2) (v := .ref fa) (C := RX2) (T := TX2) (N := 6) hx hb hts hin2 hown hK hP 0 rfl rfl 0 (by decide) (hts (.fieldLink RX2 11 "FaultShrinker$Search" "facts" "[I") (List.mem_of_getElem? (i := 2) rfl)) (fun _ h9 => h9) rfl dX2_note_60 ?_
    refine lv_iload hx hb dX2_note_63 (lv_at hl 0 rfl) ?_
    refine lv_iconst (v := nI 4) hx hb dX2_note_65 (by decide +kernel) ?_
    refine lv_iadd hx hb dX2_note_66 ?_
    refine cs_i (y := nI ((st * 5) + 4)) (nI_add _ _) ?_
    refine lv_iload hx hb dX2_note_67 (lv_at hl 5 rfl) ?_
    refine va_iast hx hb hK hP hD hS 1 0 rfl rfl (vp_in_nI (by omega) (by omega)) dX2_note_69 (fun H locs hP hD hS => ?_)
    rw [aF_upd _ (by omega)] at hP hD
    have hP : va_P G.1 vwCl [(q, .inr (2, [.ref fa, .ref fp, .int (nI dd), .int (nI pp), .int (nI st), .int (nI ts)])), (fa, .inl (G.2.1, 640, .inl (va_up (va_up (va_up (va_up (va_up fx (st * 5) (nI sz)) ((st * 5) + 1) (nI pp)) ((st * 5) + 2) (nI wy)) ((st * 5) + 3) xp) ((st * 5) + 4) (nI be)))), (fp, .inl (G.2.1, 25, .inl (nF g)))] H := hP
    have hD : va_D A [(q, .inr (2, [.ref fa, .ref fp, .int (nI dd), .int (nI pp), .int (nI st), .int (nI ts)])), (fa, .inl (G.2.1, 640, .inl (va_up (va_up (va_up (va_up (va_up fx (st * 5) (nI sz)) ((st * 5) + 1) (nI pp)) ((st * 5) + 2) (nI wy)) ((st * 5) + 3) xp) ((st * 5) + 4) (nI be)))), (fp, .inl (G.2.1, 25, .inl (nF g)))] := hD
    refine lv_aload_n hx hb dX2_note_70 rfl (lv_at hl 1 rfl) ?_
    refine lv_dup hx hb dX2_note_71 rfl ?_
    refine va_get (D := G.1) (ci := 2) (v := .int (nI st)) (C := RX2) (T := TX2) (N := 6) hx hb hts hin2 hown hK hP 0 rfl rfl 4 (by decide) (hts (.fieldLink RX2 28 "FaultShrinker$Search" "steps" "I") (List.mem_of_getElem? (i := 1) rfl)) (fun _ h9 => h9) rfl dX2_note_72 ?_
    refine lv_iconst (v := nI 1) hx hb dX2_note_75 (by decide +kernel) ?_
    refine lv_iadd hx hb dX2_note_76 ?_
    refine cs_i (y := nI (st + 1)) (nI_add _ _) ?_
    refine va_put (D := G.1) (ci := 2) (v := .int (nI (st + 1))) (ty := .int) (C := RX2) (T := TX2) (N := 6) hx hb hts hin2 tyX2 tyX2_ok nmX2 hown hK hP hD hS 0 rfl rfl 4 (by decide) (hts (.fieldLink RX2 28 "FaultShrinker$Search" "steps" "I") (List.mem_of_getElem? (i := 1) rfl)) (fun _ h9 => h9) rfl (by decide +kernel) rfl rfl (Nat.le_of_ble_eq_true rfl) dX2_note_77 (fun H locs hP hD hS => ?_)
    have hP : va_P G.1 vwCl [(q, .inr (2, [.ref fa, .ref fp, .int (nI dd), .int (nI pp), .int (nI (st + 1)), .int (nI ts)])), (fa, .inl (G.2.1, 640, .inl (va_up (va_up (va_up (va_up (va_up fx (st * 5) (nI sz)) ((st * 5) + 1) (nI pp)) ((st * 5) + 2) (nI wy)) ((st * 5) + 3) xp) ((st * 5) + 4) (nI be)))), (fp, .inl (G.2.1, 25, .inl (nF g)))] H := hP
    have hD : va_D A [(q, .inr (2, [.ref fa, .ref fp, .int (nI dd), .int (nI pp), .int (nI (st + 1)), .int (nI ts)])), (fa, .inl (G.2.1, 640, .inl (va_up (va_up (va_up (va_up (va_up fx (st * 5) (nI sz)) ((st * 5) + 1) (nI pp)) ((st * 5) + 2) (nI wy)) ((st * 5) + 3) xp) ((st * 5) + 4) (nI be)))), (fp, .inl (G.2.1, 25, .inl (nF g)))] := hD
    refine lv_aload_n hx hb dX2_note_80 rfl (lv_at hl 1 rfl) ?_
    refine lv_iload hx hb dX2_note_81 (lv_at hl 5 rfl) ?_
    refine va_put (D := G.1) (ci := 2) (v := .int (nI be)) (ty := .int) (C := RX2) (T := TX2) (N := 6) hx hb hts hin2 tyX2 tyX2_ok nmX2 hown hK hP hD hS 0 rfl rfl 2 (by decide) (hts (.fieldLink RX2 18 "FaultShrinker$Search" "dish" "I") (List.mem_of_getElem? (i := 4) rfl)) (fun _ h9 => h9) rfl (by decide +kernel) rfl rfl (Nat.le_of_ble_eq_true rfl) dX2_note_83 (fun H locs hP hD hS => ?_)
    have hP : va_P G.1 vwCl [(q, .inr (2, [.ref fa, .ref fp, .int (nI be), .int (nI pp), .int (nI (st + 1)), .int (nI ts)])), (fa, .inl (G.2.1, 640, .inl (va_up (va_up (va_up (va_up (va_up fx (st * 5) (nI sz)) ((st * 5) + 1) (nI pp)) ((st * 5) + 2) (nI wy)) ((st * 5) + 3) xp) ((st * 5) + 4) (nI be)))), (fp, .inl (G.2.1, 25, .inl (nF g)))] H := hP
    have hD : va_D A [(q, .inr (2, [.ref fa, .ref fp, .int (nI be), .int (nI pp), .int (nI (st + 1)), .int (nI ts)])), (fa, .inl (G.2.1, 640, .inl (va_up (va_up (va_up (va_up (va_up fx (st * 5) (nI sz)) ((st * 5) + 1) (nI pp)) ((st * 5) + 2) (nI wy)) ((st * 5) + 3) xp) ((st * 5) + 4) (nI be)))), (fp, .inl (G.2.1, 25, .inl (nF g)))] := hD
    exact cs_vret hx hb hr hlocks hK hP hD hS (va_up (va_up (va_up (va_up (va_up fx (st * 5) (nI sz)) ((st * 5) + 1) (nI pp)) ((st * 5) + 2) (nI wy)) ((st * 5) + 3) xp) ((st * 5) + 4) (nI be)) (FR_5 hfx hF _ _ _ _ _) rfl dX2_note_86

set_option maxRecDepth 100000 in
theorem in2_X2_countPlaces : ∀ w ∈ wsX20, w ∈ wsX2_countPlaces := by decide +kernel
set_option maxHeartbeats 4000000 in
set_option maxRecDepth 100000 in
theorem c_X2_countPlaces (l : Launch) (G : cG) (q fa fp dd pp st ts : Nat) (fx : Nat → Int32) (g : Nat → Nat) (hd : dd < 2 ^ 24) (hg0 : g 0 = 0) : cMV l G yX2_countPlaces wsX2_countPlaces ({ frames := 0, cells := 0, slots := 0, locals := 0 }) [.ref q] [(q, .inr (2, [.ref fa, .ref fp, .int (nI dd), .int (nI pp), .int (nI st), .int (nI ts)])), (fa, .inl (G.2.1, 640, .inl fx)), (fp, .inl (G.2.1, 25, .inl (nF g)))] (fun (g9 : Nat → Nat) => g9 0 = 0 ∧ ∀ j, j ≤ cnt dd 24 → g9 j = prt dd 0 j 24) (fun (g9 : Nat → Nat) => [(q, .inr (2, [.ref fa, .ref fp, .int (nI dd), .int (nI pp), .int (nI st), .int (nI ts)])), (fa, .inl (G.2.1, 640, .inl fx)), (fp, .inl (G.2.1, 25, .inl (nF g9)))]) := by
  refine cs_sV (own := RX2) (cc := cX2_countPlaces) (maxL := 4) (ret := none) (by decide) rfl rfl (Nat.le_of_ble_eq_true rfl) ?_
  intro p e s m below meth c A hx hb hr hml hts hown hlocks hinit hA hK hP hD hS ls hl
  have hin2 := in2_X2_countPlaces
  have hl : lv_has ls 4 [(0, .ref q)] := hl
  refine lv_iconst (v := nI 0) hx hb dX2_countPlaces_0 (by decide +kernel) ?_
  refine lv_istore_n (lv' := [(1, .int (nI 0)), (0, .ref q)]) hx hb dX2_countPlaces_1 rfl hl (by decide) rfl (fun ls hl => ?_)
  refine lv_iconst (v := nI 0) hx hb dX2_countPlaces_2 (by decide +kernel) ?_
  refine lv_istore_n (lv' := [(2, .int (nI 0)), (1, .int (nI 0)), (0, .ref q)]) hx hb dX2_countPlaces_3 rfl hl (by decide) rfl (fun ls hl => ?_)
  refine lv_iconst (v := nI 0) hx hb dX2_countPlaces_4 (by decide +kernel) ?_
  refine lv_istore_n (lv' := [(3, .int (nI 0)), (2, .int (nI 0)), (1, .int (nI 0)), (0, .ref q)]) hx hb dX2_countPlaces_5 rfl hl (by decide) rfl (fun ls hl => ?_)
  refine cs_loop (G := G) (nL := 4) (σ := Nat × (Nat → Nat)) (fun x : Nat × (Nat → Nat) => match x with | (i, gi) => 24 - i) (fun x : Nat × (Nat → Nat) => match x with | (i, gi) => i ≤ 24 ∧ gi 0 = 0 ∧ ∀ j, j ≤ cnt dd i → gi j = prt dd 0 j i) (fun x : Nat × (Nat → Nat) => match x with | (i, gi) => [(q, .inr (2, [.ref fa, .ref fp, .int (nI dd), .int (nI pp), .int (nI st), .int (nI ts)])), (fa, .inl (G.2.1, 640, .inl fx)), (fp, .inl (G.2.1, 25, .inl (nF gi)))]) (fun x : Nat × (Nat → Nat) => match x with | (i, gi) => [(0, .ref q), (1, .int (nI (cnt dd i))), (2, .int (nI (alw dd i))), (3, .int (nI i))]) ?_ ((0, g)) (⟨Nat.zero_le _, hg0, fun j hj => by have e9 : j = 0 := Nat.le_zero.mp hj; subst e9; rw [hg0]; rfl⟩) (hP.sub (ws' := [(q, .inr (2, [.ref fa, .ref fp, .int (nI dd), .int (nI pp), .int (nI st), .int (nI ts)])), (fa, .inl (G.2.1, 640, .inl fx)), (fp, .inl (G.2.1, 25, .inl (nF g)))]) [0, 1, 2] rfl) (hD.sub (ws' := [(q, .inr (2, [.ref fa, .ref fp, .int (nI dd), .int (nI pp), .int (nI st), .int (nI ts)])), (fa, .inl (G.2.1, 640, .inl fx)), (fp, .inl (G.2.1, 25, .inl (nF g)))]) [0, 1, 2] (by decide) rfl) hS (lv_sub (l' := [(0, .ref q), (1, .int (nI (cnt dd 0))), (2, .int (nI (alw dd 0))), (3, .int (nI 0))]) hl [3, 2, 1, 0] rfl)
  rintro ⟨i, gi⟩ hinv ih H locs ls hP hD hS hl
  have hP : va_P G.1 vwCl [(q, .inr (2, [.ref fa, .ref fp, .int (nI dd), .int (nI pp), .int (nI st), .int (nI ts)])), (fa, .inl (G.2.1, 640, .inl fx)), (fp, .inl (G.2.1, 25, .inl (nF gi)))] H := hP
  have hD : va_D A [(q, .inr (2, [.ref fa, .ref fp, .int (nI dd), .int (nI pp), .int (nI st), .int (nI ts)])), (fa, .inl (G.2.1, 640, .inl fx)), (fp, .inl (G.2.1, 25, .inl (nF gi)))] := hD
  have hl : lv_has ls 4 [(0, .ref q), (1, .int (nI (cnt dd i))), (2, .int (nI (alw dd i))), (3, .int (nI i))] := hl
  have hinv : i ≤ 24 ∧ gi 0 = 0 ∧ ∀ j, j ≤ cnt dd i → gi j = prt dd 0 j i := hinv
  obtain ⟨hi, hgi0, hgi⟩ := hinv
  have hci := cnt_le dd i
  refine lv_iload_n hx hb dX2_countPlaces_6 rfl (lv_at hl 3 rfl) ?_
  refine lv_bipush (v := nI 24) hx hb dX2_countPlaces_7 (by decide +kernel) ?_
  refine lv_icmp_ge (tgt := 45) hx hb dX2_countPlaces_9 (by decide) (fun c_9 => ?_) (fun c_9 => ?_)
  · have c_9 := (nI_leI (by omega) (by omega)).mp c_9
    have e7 : i = 24 := by omega
    exact cs_vret hx hb hr hlocks hK hP hD hS gi (⟨hgi0, by rw [e7] at hgi; exact hgi⟩) rfl dX2_countPlaces_45
  · have c_9 := mt (nI_leI (by omega) (by omega)).mpr c_9
    refine lv_aload_n hx hb dX2_countPlaces_12 rfl (lv_at hl 0 rfl) ?_
    refine va_get (D := G.1) (ci := 2) (v := .int (nI dd)) (C := RX2) (T := TX2) (N := 6) hx hb hts hin2 hown hK hP 0 rfl rfl 2 (by decide) (hts (.fieldLink RX2 18 "FaultShrinker$Search" "dish" "I") (List.mem_of_getElem? (i := 1) rfl)) (fun _ h9 => h9) rfl dX2_countPlaces_13 ?_
    refine lv_iload_n hx hb dX2_countPlaces_16 rfl (lv_at hl 3 rfl) ?_
    refine lv_ishr hx hb dX2_countPlaces_17 ?_
    refine cs_i (y := nI (dd >>> i)) (nI_shr (by omega) (by omega)) ?_
    refine lv_iconst (v := nI 1) hx hb dX2_countPlaces_18 (by decide +kernel) ?_
    refine lv_iand hx hb dX2_countPlaces_19 ?_
    refine cs_i (y := bI (dd.testBit i)) (by rw [fa_and]; exact bitI dd i) ?_
    refine lv_if_eq (tgt := 39) hx hb dX2_countPlaces_20 (by decide) (fun c_20 => ?_) (fun c_20 => ?_)
    · have c_20 := bI_0 c_20
      refine lv_iinc (v := nI (i + 1)) (lv' := [(3, .int (nI (i + 1))), (0, .ref q), (1, .int (nI (cnt dd i))), (2, .int (nI (alw dd i)))]) hx hb dX2_countPlaces_39 hl (k := 3) rfl ((nI_succ i).symm) (by decide) rfl (fun ls hl => ?_)
      have e8 : nI (cnt dd i) = nI (cnt dd (i + 1)) := by first | rw [cnt_t c_20] | rw [cnt_f c_20]
      rw [e8] at hl
      have e8 : nI (alw dd i) = nI (alw dd (i + 1)) := by first | rw [alw_t c_20] | rw [alw_f c_20]
      rw [e8] at hl
      refine lv_goto (tgt := 6) hx hb dX2_countPlaces_42 (by decide) ?_
      exact ih ((i + 1, gi)) (by show 24 - (i + 1) < 24 - i; omega) (⟨by show i + 1 ≤ 24; omega, by first | exact hgi0 | (show va_up gi (cnt dd i + 1) (alw dd i ||| 2 ^ i) 0 = 0; unfold va_up; rw [if_neg (by omega)]; exact hgi0), by first | exact fp_f c_20 hgi | exact fp_t c_20 hgi⟩) _ _ _ (hP.sub (ws' := [(q, .inr (2, [.ref fa, .ref fp, .int (nI dd), .int (nI pp), .int (nI st), .int (nI ts)])), (fa, .inl (G.2.1, 640, .inl fx)), (fp, .inl (G.2.1, 25, .inl (nF gi)))]) [0, 1, 2] rfl) (hD.sub (ws' := [(q, .inr (2, [.ref fa, .ref fp, .int (nI dd), .int (nI pp), .int (nI st), .int (nI ts)])), (fa, .inl (G.2.1, 640, .inl fx)), (fp, .inl (G.2.1, 25, .inl (nF gi)))]) [0, 1, 2] (by decide) rfl) hS (lv_sub (l' := [(0, .ref q), (1, .int (nI (cnt dd (i + 1)))), (2, .int (nI (alw dd (i + 1)))), (3, .int (nI (i + 1)))]) hl [1, 2, 3, 0] rfl)
    · have c_20 := bI_n0 c_20
      refine lv_iload_n hx hb dX2_countPlaces_23 rfl (lv_at hl 2 rfl) ?_
      refine lv_iconst (v := nI 1) hx hb dX2_countPlaces_24 (by decide +kernel) ?_
      refine lv_iload_n hx hb dX2_countPlaces_25 rfl (lv_at hl 3 rfl) ?_
      refine lv_ishl hx hb dX2_countPlaces_26 ?_
      refine cs_i (y := nI (2 ^ i)) (nI_one_shl (by omega)) ?_
      refine lv_ior hx hb dX2_countPlaces_27 ?_
      refine cs_i (y := nI ((alw dd i) ||| (2 ^ i))) (fa_or _ _) ?_
      refine lv_istore_n (lv' := [(2, .int (nI ((alw dd i) ||| (2 ^ i)))), (0, .ref q), (1, .int (nI (cnt dd i))), (3, .int (nI i))]) hx hb dX2_countPlaces_28 rfl hl (by decide) rfl (fun ls hl => ?_)
      refine lv_iinc (v := nI (cnt dd i + 1)) (lv' := [(1, .int (nI (cnt dd i + 1))), (2, .int (nI ((alw dd i) ||| (2 ^ i)))), (0, .ref q), (3, .int (nI i))]) hx hb dX2_countPlaces_29 hl (k := 2) rfl ((nI_succ (cnt dd i)).symm) (by decide) rfl (fun ls hl => ?_)
      refine lv_aload_n hx hb dX2_countPlaces_32 rfl (lv_at hl 2 rfl) ?_
      refine va_get (D := G.1) (ci := 2) (v := .ref fp) (C := RX2) (T := TX2) (N := 6) hx hb hts hin2 hown hK hP 0 rfl rfl 1 (by decide) (hts (.fieldLink RX2 15 "FaultShrinker$Search" "firstPlaces" "[I") (List.mem_of_getElem? (i := 2) rfl)) (fun _ h9 => h9) rfl dX2_countPlaces_33 ?_
      refine lv_iload_n hx hb dX2_countPlaces_36 rfl (lv_at hl 0 rfl) ?_
      refine lv_iload_n hx hb dX2_countPlaces_37 rfl (lv_at hl 1 rfl) ?_
      refine va_iast hx hb hK hP hD hS 2 0 rfl rfl (vp_in_nI (by omega) (by omega)) dX2_countPlaces_38 (fun H locs hP hD hS => ?_)
      rw [nF_upd _ (by omega)] at hP hD
      have hP : va_P G.1 vwCl [(q, .inr (2, [.ref fa, .ref fp, .int (nI dd), .int (nI pp), .int (nI st), .int (nI ts)])), (fa, .inl (G.2.1, 640, .inl fx)), (fp, .inl (G.2.1, 25, .inl (nF (va_up gi (cnt dd i + 1) ((alw dd i) ||| (2 ^ i))))))] H := hP
      have hD : va_D A [(q, .inr (2, [.ref fa, .ref fp, .int (nI dd), .int (nI pp), .int (nI st), .int (nI ts)])), (fa, .inl (G.2.1, 640, .inl fx)), (fp, .inl (G.2.1, 25, .inl (nF (va_up gi (cnt dd i + 1) ((alw dd i) ||| (2 ^ i))))))] := hD
      refine lv_iinc (v := nI (i + 1)) (lv' := [(3, .int (nI (i + 1))), (1, .int (nI (cnt dd i + 1))), (2, .int (nI ((alw dd i) ||| (2 ^ i)))), (0, .ref q)]) hx hb dX2_countPlaces_39 hl (k := 3) rfl ((nI_succ i).symm) (by decide) rfl (fun ls hl => ?_)
      have e8 : nI (cnt dd i + 1) = nI (cnt dd (i + 1)) := by first | rw [cnt_t c_20] | rw [cnt_f c_20]
      rw [e8] at hl
      have e8 : nI ((alw dd i) ||| (2 ^ i)) = nI (alw dd (i + 1)) := by first | rw [alw_t c_20] | rw [alw_f c_20]
      rw [e8] at hl
      refine lv_goto (tgt := 6) hx hb dX2_countPlaces_42 (by decide) ?_
      exact ih ((i + 1, va_up gi (cnt dd i + 1) ((alw dd i) ||| (2 ^ i)))) (by show 24 - (i + 1) < 24 - i; omega) (⟨by show i + 1 ≤ 24; omega, by first | exact hgi0 | (show va_up gi (cnt dd i + 1) (alw dd i ||| 2 ^ i) 0 = 0; unfold va_up; rw [if_neg (by omega)]; exact hgi0), by first | exact fp_f c_20 hgi | exact fp_t c_20 hgi⟩) _ _ _ (hP.sub (ws' := [(q, .inr (2, [.ref fa, .ref fp, .int (nI dd), .int (nI pp), .int (nI st), .int (nI ts)])), (fa, .inl (G.2.1, 640, .inl fx)), (fp, .inl (G.2.1, 25, .inl (nF (va_up gi (cnt dd i + 1) ((alw dd i) ||| (2 ^ i))))))]) [0, 1, 2] rfl) (hD.sub (ws' := [(q, .inr (2, [.ref fa, .ref fp, .int (nI dd), .int (nI pp), .int (nI st), .int (nI ts)])), (fa, .inl (G.2.1, 640, .inl fx)), (fp, .inl (G.2.1, 25, .inl (nF (va_up gi (cnt dd i + 1) ((alw dd i) ||| (2 ^ i))))))]) [0, 1, 2] (by decide) rfl) hS (lv_sub (l' := [(0, .ref q), (1, .int (nI (cnt dd (i + 1)))), (2, .int (nI (alw dd (i + 1)))), (3, .int (nI (i + 1)))]) hl [3, 1, 2, 0] rfl)

set_option maxRecDepth 100000 in
theorem in2_X2_partAt : ∀ w ∈ wsX20, w ∈ wsX2_partAt := by decide +kernel
set_option maxHeartbeats 4000000 in
set_option maxRecDepth 100000 in
theorem c_X2_partAt (l : Launch) (G : cG) (q fa fp dd pp st ts : Nat) (fx : Nat → Int32) (g : Nat → Nat) (kp : Nat) (hg : ∀ j, j ≤ cnt dd 24 → g j = prt dd 0 j 24) (hpp : 2 ≤ pp) (hpm : pp ≤ cnt dd 24) (hkp : kp < pp) : cMI l G yX2_partAt wsX2_partAt ({ frames := 0, cells := 0, slots := 0, locals := 0 }) [.ref q, .int (nI kp), .int (nI (cnt dd 24))] [(q, .inr (2, [.ref fa, .ref fp, .int (nI dd), .int (nI pp), .int (nI st), .int (nI ts)])), (fa, .inl (G.2.1, 640, .inl fx)), (fp, .inl (G.2.1, 25, .inl (nF g)))] (fun (r_ : Int32) (_ : Unit) => r_ = nI (pto dd pp kp)) (fun (_ : Unit) => [(q, .inr (2, [.ref fa, .ref fp, .int (nI dd), .int (nI pp), .int (nI st), .int (nI ts)])), (fa, .inl (G.2.1, 640, .inl fx)), (fp, .inl (G.2.1, 25, .inl (nF g)))]) := by
  refine cs_sI (own := RX2) (cc := cX2_partAt) (maxL := 5) (ret := (some .int)) (by decide) rfl rfl (Nat.le_of_ble_eq_true rfl) ?_
  intro p e s m below meth c A hx hb hr hml hts hown hlocks hinit hA hK hP hD hS ls hl
  have hin2 := in2_X2_partAt
  have hl : lv_has ls 5 [(0, .ref q), (1, .int (nI kp)), (2, .int (nI (cnt dd 24)))] := hl
  have hc24 := cnt_le dd 24
  have hq := pto_num (m := cnt dd 24) (n := pp) (k := kp) (by omega) hkp hpp hpm
  have hm1 : kp * cnt dd 24 ≤ 24 * 24 := Nat.mul_le_mul (by omega) (by omega)
  have hm2 : (kp + 1) * cnt dd 24 ≤ 24 * 24 := Nat.mul_le_mul (by omega) (by omega)
  refine lv_iload_n hx hb dX2_partAt_0 rfl (lv_at hl 1 rfl) ?_
  refine lv_if_lt (tgt := 22) hx hb dX2_partAt_1 (by decide) (fun c_1 => ?_) (fun c_1 => ?_)
  · have c_1 := (nI_lt0 (by omega)).mp c_1
    exact absurd c_1 (by omega)
  · have c_1 := mt (nI_lt0 (by omega)).mpr c_1
    refine lv_iload_n hx hb dX2_partAt_4 rfl (lv_at hl 1 rfl) ?_
    refine lv_aload_n hx hb dX2_partAt_5 rfl (lv_at hl 0 rfl) ?_
    refine va_get (D := G.1) (ci := 2) (v := .int (nI pp)) (C := RX2) (T := TX2) (N := 6) hx hb hts hin2 hown hK hP 0 rfl rfl 3 (by decide) (hts (.fieldLink RX2 53 "FaultShrinker$Search" "parts" "I") (List.mem_of_getElem? (i := 1) rfl)) (fun _ h9 => h9) rfl dX2_partAt_6 ?_
    refine lv_icmp_ge (tgt := 22) hx hb dX2_partAt_9 (by decide) (fun c_9 => ?_) (fun c_9 => ?_)
    · have c_9 := (nI_leI (by omega) (by omega)).mp c_9
      exact absurd c_9 (by omega)
    · have c_9 := mt (nI_leI (by omega) (by omega)).mpr c_9
      refine lv_iload_n hx hb dX2_partAt_12 rfl (lv_at hl 2 rfl) ?_
      refine lv_if_lt (tgt := 22) hx hb dX2_partAt_13 (by decide) (fun c_13 => ?_) (fun c_13 => ?_)
      · have c_13 := (nI_lt0 (by omega)).mp c_13
        exact absurd c_13 (by omega)
      · have c_13 := mt (nI_lt0 (by omega)).mpr c_13
        refine lv_iload_n hx hb dX2_partAt_16 rfl (lv_at hl 2 rfl) ?_
        refine lv_bipush (v := nI 24) hx hb dX2_partAt_17 (by decide +kernel) ?_
        refine lv_icmp_le (tgt := 24) hx hb dX2_partAt_19 (by decide) (fun c_19 => ?_) (fun c_19 => ?_)
        · have c_19 := (nI_leI (by omega) (by omega)).mp c_19
          refine lv_iload_n hx hb dX2_partAt_24 rfl (lv_at hl 1 rfl) ?_
          refine lv_iload_n hx hb dX2_partAt_25 rfl (lv_at hl 2 rfl) ?_
          refine lv_imul hx hb dX2_partAt_26 ?_
          refine cs_i (y := nI (kp * (cnt dd 24))) (pk_mul _ _) ?_
          refine lv_aload_n hx hb dX2_partAt_27 rfl (lv_at hl 0 rfl) ?_
          refine va_get (D := G.1) (ci := 2) (v := .int (nI pp)) (C := RX2) (T := TX2) (N := 6) hx hb hts hin2 hown hK hP 0 rfl rfl 3 (by decide) (hts (.fieldLink RX2 53 "FaultShrinker$Search" "parts" "I") (List.mem_of_getElem? (i := 1) rfl)) (fun _ h9 => h9) rfl dX2_partAt_28 ?_
          refine lv_idiv hx hb dX2_partAt_31 (nI_ne0 (by omega) (by omega)) ?_
          refine cs_i (y := nI ((kp * (cnt dd 24)) / pp)) (pk_div (by omega) (by omega) (by omega)) ?_
          refine lv_istore_n (lv' := [(3, .int (nI ((kp * (cnt dd 24)) / pp))), (0, .ref q), (1, .int (nI kp)), (2, .int (nI (cnt dd 24)))]) hx hb dX2_partAt_32 rfl hl (by decide) rfl (fun ls hl => ?_)
          refine lv_iload_n hx hb dX2_partAt_33 rfl (lv_at hl 2 rfl) ?_
          refine lv_iconst (v := nI 1) hx hb dX2_partAt_34 (by decide +kernel) ?_
          refine lv_iadd hx hb dX2_partAt_35 ?_
          refine cs_i (y := nI (kp + 1)) (nI_add _ _) ?_
          refine lv_iload_n hx hb dX2_partAt_36 rfl (lv_at hl 3 rfl) ?_
          refine lv_imul hx hb dX2_partAt_37 ?_
          refine cs_i (y := nI ((kp + 1) * (cnt dd 24))) (pk_mul _ _) ?_
          refine lv_aload_n hx hb dX2_partAt_38 rfl (lv_at hl 1 rfl) ?_
          refine va_get (D := G.1) (ci := 2) (v := .int (nI pp)) (C := RX2) (T := TX2) (N := 6) hx hb hts hin2 hown hK hP 0 rfl rfl 3 (by decide) (hts (.fieldLink RX2 53 "FaultShrinker$Search" "parts" "I") (List.mem_of_getElem? (i := 1) rfl)) (fun _ h9 => h9) rfl dX2_partAt_39 ?_
          refine lv_idiv hx hb dX2_partAt_42 (nI_ne0 (by omega) (by omega)) ?_
          refine cs_i (y := nI (((kp + 1) * (cnt dd 24)) / pp)) (pk_div (by omega) (by omega) (by omega)) ?_
          refine lv_istore (lv' := [(4, .int (nI (((kp + 1) * (cnt dd 24)) / pp))), (3, .int (nI ((kp * (cnt dd 24)) / pp))), (0, .ref q), (1, .int (nI kp)), (2, .int (nI (cnt dd 24)))]) hx hb dX2_partAt_43 hl (by decide) rfl (fun ls hl => ?_)
          refine lv_aload_n hx hb dX2_partAt_45 rfl (lv_at hl 2 rfl) ?_
          refine va_get (D := G.1) (ci := 2) (v := .ref fp) (C := RX2) (T := TX2) (N := 6) hx hb hts hin2 hown hK hP 0 rfl rfl 1 (by decide) (hts (.fieldLink RX2 15 "FaultShrinker$Search" "firstPlaces" "[I") (List.mem_of_getElem? (i := 2) rfl)) (fun _ h9 => h9) rfl dX2_partAt_46 ?_
          refine lv_iload hx hb dX2_partAt_49 (lv_at hl 0 rfl) ?_
          refine va_iald hx hb hK hP 2 0 rfl rfl (vp_in_nI (by omega) (by omega)) dX2_partAt_51 ?_
          refine cs_i (y := nI (g (((kp + 1) * (cnt dd 24)) / pp))) (nF_at _ (by omega)) ?_
          refine lv_aload_n hx hb dX2_partAt_52 rfl (lv_at hl 2 rfl) ?_
          refine va_get (D := G.1) (ci := 2) (v := .ref fp) (C := RX2) (T := TX2) (N := 6) hx hb hts hin2 hown hK hP 0 rfl rfl 1 (by decide) (hts (.fieldLink RX2 15 "FaultShrinker$Search" "firstPlaces" "[I") (List.mem_of_getElem? (i := 2) rfl)) (fun _ h9 => h9) rfl dX2_partAt_53 ?_
          refine lv_iload_n hx hb dX2_partAt_56 rfl (lv_at hl 1 rfl) ?_
          refine va_iald hx hb hK hP 2 0 rfl rfl (vp_in_nI (by omega) (by omega)) dX2_partAt_57 ?_
          refine cs_i (y := nI (g ((kp * (cnt dd 24)) / pp))) (nF_at _ (by omega)) ?_
          refine lv_iconst (v := (-1)) hx hb dX2_partAt_58 (by decide +kernel) ?_
          refine lv_ixor hx hb dX2_partAt_59 ?_
          refine lv_iand hx hb dX2_partAt_60 ?_
          refine cs_i (y := nI (pto dd pp kp)) (by rw [nI_nd, hg _ (by omega), hg _ (by omega), prt_nd dd (by omega)]; rfl) ?_
          exact cs_iret hx hb hr hlocks hK hP hD hS (v := nI (pto dd pp kp)) () (by first | rfl | assumption) rfl dX2_partAt_61
        · have c_19 := mt (nI_leI (by omega) (by omega)).mpr c_19
          exact absurd c_19 (by omega)

set_option maxRecDepth 100000 in
theorem in2_X2_firstSpoiledPart : ∀ w ∈ wsX20, w ∈ wsX2_firstSpoiledPart := by decide +kernel
set_option maxHeartbeats 4000000 in
set_option maxRecDepth 100000 in
theorem c_X2_firstSpoiledPart (l : Launch) (G : cG) (q fa fp dd pp st ts : Nat) (fx : Nat → Int32) (g : Nat → Nat) (t kn sn : Nat) (T : Nat → Int64) (K : List Nat) (a ka n : Nat) (k : Nat → Nat) (b nb sb rc : Nat) (ne sp : Nat → Nat) (hn : n ≤ 24) (hk : ∀ j, j < n → k j < 16) (hrc : rc ≤ 6) (hne : ∀ j, j < 6 → ne j < 65536) (hsp : ∀ j, j < 6 → sp j < 65536) (hsn : sn < 2 ^ 36) (o : Option Nat) (K1 : List Nat) (hd : dd < 2 ^ 24) (hg : ∀ j, j ≤ cnt dd 24 → g j = prt dd 0 j 24) (hpp : 2 ≤ pp) (hpm : pp ≤ cnt dd 24) (hT : TI T sn K) (hKl : K.length + pp < 3900) (he : fst1 (spl k ne sp n rc) (pto dd pp) pp 0 K = (o, K1)) : cMI l G yX2_firstSpoiledPart wsX2_firstSpoiledPart ({ frames := 3, cells := 0, slots := 0, locals := 66 }) [.ref q, .ref t, .int (nI (cnt dd 24))] [(q, .inr (2, [.ref fa, .ref fp, .int (nI dd), .int (nI pp), .int (nI st), .int (nI ts)])), (fa, .inl (G.2.1, 640, .inl fx)), (fp, .inl (G.2.1, 25, .inl (nF g))), (t, .inr (3, [.ref a, .ref b, .ref kn, .long (lN sn), .int (nI K.length)])), (kn, .inl (G.2.2, 4096, .inr (.inl T))), (a, .inr (0, [.ref ka, .int (nI n)])), (ka, .inl (G.2.1, 24, .inl (nF k))), (b, .inr (1, [.ref nb, .ref sb, .int (nI rc)])), (nb, .inl (G.2.1, 6, .inl (nF ne))), (sb, .inl (G.2.1, 6, .inl (nF sp)))] (fun (r_ : Int32) (T9 : Nat → Int64) => r_ = oI o ∧ TI T9 sn K1) (fun (T9 : Nat → Int64) => [(q, .inr (2, [.ref fa, .ref fp, .int (nI dd), .int (nI pp), .int (nI st), .int (nI ts)])), (fa, .inl (G.2.1, 640, .inl fx)), (fp, .inl (G.2.1, 25, .inl (nF g))), (t, .inr (3, [.ref a, .ref b, .ref kn, .long (lN sn), .int (nI K1.length)])), (kn, .inl (G.2.2, 4096, .inr (.inl T9))), (a, .inr (0, [.ref ka, .int (nI n)])), (ka, .inl (G.2.1, 24, .inl (nF k))), (b, .inr (1, [.ref nb, .ref sb, .int (nI rc)])), (nb, .inl (G.2.1, 6, .inl (nF ne))), (sb, .inl (G.2.1, 6, .inl (nF sp)))]) := by
  refine cs_sI (own := RX2) (cc := cX2_firstSpoiledPart) (maxL := 4) (ret := (some .int)) (by decide) rfl rfl (Nat.le_of_ble_eq_true rfl) ?_
  intro p e s m below meth c A hx hb hr hml hts hown hlocks hinit hA hK hP hD hS ls hl
  have hin2 := in2_X2_firstSpoiledPart
  have hl : lv_has ls 4 [(0, .ref q), (1, .ref t), (2, .int (nI (cnt dd 24)))] := hl
  have hc24 := cnt_le dd 24
  refine lv_iconst (v := nI 0) hx hb dX2_firstSpoiledPart_0 (by decide +kernel) ?_
  refine lv_istore_n (lv' := [(3, .int (nI 0)), (0, .ref q), (1, .ref t), (2, .int (nI (cnt dd 24)))]) hx hb dX2_firstSpoiledPart_1 rfl hl (by decide) rfl (fun ls hl => ?_)
  refine cs_loop (G := G) (nL := 4) (σ := Nat × List Nat × (Nat → Int64)) (fun x : Nat × List Nat × (Nat → Int64) => match x with | (i, Ki, Ti) => pp - i) (fun x : Nat × List Nat × (Nat → Int64) => match x with | (i, Ki, Ti) => i ≤ pp ∧ Ki.length ≤ K.length + i ∧ TI Ti sn Ki ∧ fst1 (spl k ne sp n rc) (pto dd pp) (pp - i) i Ki = (o, K1)) (fun x : Nat × List Nat × (Nat → Int64) => match x with | (i, Ki, Ti) => [(q, .inr (2, [.ref fa, .ref fp, .int (nI dd), .int (nI pp), .int (nI st), .int (nI ts)])), (fa, .inl (G.2.1, 640, .inl fx)), (fp, .inl (G.2.1, 25, .inl (nF g))), (t, .inr (3, [.ref a, .ref b, .ref kn, .long (lN sn), .int (nI Ki.length)])), (kn, .inl (G.2.2, 4096, .inr (.inl Ti))), (a, .inr (0, [.ref ka, .int (nI n)])), (ka, .inl (G.2.1, 24, .inl (nF k))), (b, .inr (1, [.ref nb, .ref sb, .int (nI rc)])), (nb, .inl (G.2.1, 6, .inl (nF ne))), (sb, .inl (G.2.1, 6, .inl (nF sp)))]) (fun x : Nat × List Nat × (Nat → Int64) => match x with | (i, Ki, Ti) => [(0, .ref q), (1, .ref t), (2, .int (nI (cnt dd 24))), (3, .int (nI i))]) ?_ ((0, K, T)) (⟨Nat.zero_le _, Nat.le_refl _, hT, he⟩) (hP.sub (ws' := [(q, .inr (2, [.ref fa, .ref fp, .int (nI dd), .int (nI pp), .int (nI st), .int (nI ts)])), (fa, .inl (G.2.1, 640, .inl fx)), (fp, .inl (G.2.1, 25, .inl (nF g))), (t, .inr (3, [.ref a, .ref b, .ref kn, .long (lN sn), .int (nI K.length)])), (kn, .inl (G.2.2, 4096, .inr (.inl T))), (a, .inr (0, [.ref ka, .int (nI n)])), (ka, .inl (G.2.1, 24, .inl (nF k))), (b, .inr (1, [.ref nb, .ref sb, .int (nI rc)])), (nb, .inl (G.2.1, 6, .inl (nF ne))), (sb, .inl (G.2.1, 6, .inl (nF sp)))]) [0, 1, 2, 3, 4, 5, 6, 7, 8, 9] rfl) (hD.sub (ws' := [(q, .inr (2, [.ref fa, .ref fp, .int (nI dd), .int (nI pp), .int (nI st), .int (nI ts)])), (fa, .inl (G.2.1, 640, .inl fx)), (fp, .inl (G.2.1, 25, .inl (nF g))), (t, .inr (3, [.ref a, .ref b, .ref kn, .long (lN sn), .int (nI K.length)])), (kn, .inl (G.2.2, 4096, .inr (.inl T))), (a, .inr (0, [.ref ka, .int (nI n)])), (ka, .inl (G.2.1, 24, .inl (nF k))), (b, .inr (1, [.ref nb, .ref sb, .int (nI rc)])), (nb, .inl (G.2.1, 6, .inl (nF ne))), (sb, .inl (G.2.1, 6, .inl (nF sp)))]) [0, 1, 2, 3, 4, 5, 6, 7, 8, 9] (by decide) rfl) hS (lv_sub (l' := [(0, .ref q), (1, .ref t), (2, .int (nI (cnt dd 24))), (3, .int (nI 0))]) hl [1, 2, 3, 0] rfl)
  rintro ⟨i, Ki, Ti⟩ hinv ih H locs ls hP hD hS hl
  have hP : va_P G.1 vwCl [(q, .inr (2, [.ref fa, .ref fp, .int (nI dd), .int (nI pp), .int (nI st), .int (nI ts)])), (fa, .inl (G.2.1, 640, .inl fx)), (fp, .inl (G.2.1, 25, .inl (nF g))), (t, .inr (3, [.ref a, .ref b, .ref kn, .long (lN sn), .int (nI Ki.length)])), (kn, .inl (G.2.2, 4096, .inr (.inl Ti))), (a, .inr (0, [.ref ka, .int (nI n)])), (ka, .inl (G.2.1, 24, .inl (nF k))), (b, .inr (1, [.ref nb, .ref sb, .int (nI rc)])), (nb, .inl (G.2.1, 6, .inl (nF ne))), (sb, .inl (G.2.1, 6, .inl (nF sp)))] H := hP
  have hD : va_D A [(q, .inr (2, [.ref fa, .ref fp, .int (nI dd), .int (nI pp), .int (nI st), .int (nI ts)])), (fa, .inl (G.2.1, 640, .inl fx)), (fp, .inl (G.2.1, 25, .inl (nF g))), (t, .inr (3, [.ref a, .ref b, .ref kn, .long (lN sn), .int (nI Ki.length)])), (kn, .inl (G.2.2, 4096, .inr (.inl Ti))), (a, .inr (0, [.ref ka, .int (nI n)])), (ka, .inl (G.2.1, 24, .inl (nF k))), (b, .inr (1, [.ref nb, .ref sb, .int (nI rc)])), (nb, .inl (G.2.1, 6, .inl (nF ne))), (sb, .inl (G.2.1, 6, .inl (nF sp)))] := hD
  have hl : lv_has ls 4 [(0, .ref q), (1, .ref t), (2, .int (nI (cnt dd 24))), (3, .int (nI i))] := hl
  have hinv : i ≤ pp ∧ Ki.length ≤ K.length + i ∧ TI Ti sn Ki ∧ fst1 (spl k ne sp n rc) (pto dd pp) (pp - i) i Ki = (o, K1) := hinv
  obtain ⟨hi, hKi, hTi, hfi⟩ := hinv
  clear hT he
  refine lv_iload_n hx hb dX2_firstSpoiledPart_2 rfl (lv_at hl 3 rfl) ?_
  refine lv_aload_n hx hb dX2_firstSpoiledPart_3 rfl (lv_at hl 0 rfl) ?_
  refine va_get (D := G.1) (ci := 2) (v := .int (nI pp)) (C := RX2) (T := TX2) (N := 6) hx hb hts hin2 hown hK hP 0 rfl rfl 3 (by decide) (hts (.fieldLink RX2 53 "FaultShrinker$Search" "parts" "I") (List.mem_of_getElem? (i := 1) rfl)) (fun _ h9 => h9) rfl dX2_firstSpoiledPart_4 ?_
  refine lv_icmp_ge (tgt := 31) hx hb dX2_firstSpoiledPart_7 (by decide) (fun c_7 => ?_) (fun c_7 => ?_)
  · have c_7 := (nI_leI (by omega) (by omega)).mp c_7
    have e7 : i = pp := by omega
    have e5 : ((none : Option Nat), Ki) = (o, K1) := by rw [← hfi, show pp - i = 0 by omega]; rfl
    cases e5
    refine lv_iconst (v := (-1)) hx hb dX2_firstSpoiledPart_31 (by decide +kernel) ?_
    exact cs_iret hx hb hr hlocks hK hP hD hS (v := (-1)) Ti (⟨rfl, hTi⟩) rfl dX2_firstSpoiledPart_32
  · have c_7 := mt (nI_leI (by omega) (by omega)).mpr c_7
    refine lv_aload_n hx hb dX2_firstSpoiledPart_10 rfl (lv_at hl 1 rfl) ?_
    refine lv_aload_n hx hb dX2_firstSpoiledPart_11 rfl (lv_at hl 0 rfl) ?_
    refine lv_iload_n hx hb dX2_firstSpoiledPart_12 rfl (lv_at hl 3 rfl) ?_
    refine lv_iload_n hx hb dX2_firstSpoiledPart_13 rfl (lv_at hl 2 rfl) ?_
    refine cs_vi (As := [.int (nI i), .int (nI (cnt dd 24))]) (rest := [.ref t]) (wr := [(t, .inr (3, [.ref a, .ref b, .ref kn, .long (lN sn), .int (nI Ki.length)])), (kn, .inl (G.2.2, 4096, .inr (.inl Ti))), (a, .inr (0, [.ref ka, .int (nI n)])), (ka, .inl (G.2.1, 24, .inl (nF k))), (b, .inr (1, [.ref nb, .ref sb, .int (nI rc)])), (nb, .inl (G.2.1, 6, .inl (nF ne))), (sb, .inl (G.2.1, 6, .inl (nF sp)))]) ⟨hx, hb, hml, hown, hts⟩ hK hP hD hS hA (c_X2_partAt l G q fa fp dd pp st ts fx g i (by first | assumption | omega) (by first | assumption | omega) (by first | assumption | omega) (by first | assumption | omega)) (cwV 2 hts gX2_firstSpoiledPart_X2_partAt rfl rfl rfl (by decide +kernel) ⟨Nat.le_of_ble_eq_true rfl, Nat.le_of_ble_eq_true rfl⟩) [0, 1, 2] [3, 4, 5, 6, 7, 8, 9] ⟨rfl, rfl, by decide, by decide, by decide⟩ 0 2 rfl rfl rfl hl.1 rfl (Nat.le_of_ble_eq_true rfl) ⟨Nat.le_of_ble_eq_true rfl, Nat.le_of_ble_eq_true rfl⟩ dX2_firstSpoiledPart_14 (fun r u H locs hw hP hD hS => ?_)
    have hP : va_P G.1 vwCl [(q, .inr (2, [.ref fa, .ref fp, .int (nI dd), .int (nI pp), .int (nI st), .int (nI ts)])), (fa, .inl (G.2.1, 640, .inl fx)), (fp, .inl (G.2.1, 25, .inl (nF g))), (t, .inr (3, [.ref a, .ref b, .ref kn, .long (lN sn), .int (nI Ki.length)])), (kn, .inl (G.2.2, 4096, .inr (.inl Ti))), (a, .inr (0, [.ref ka, .int (nI n)])), (ka, .inl (G.2.1, 24, .inl (nF k))), (b, .inr (1, [.ref nb, .ref sb, .int (nI rc)])), (nb, .inl (G.2.1, 6, .inl (nF ne))), (sb, .inl (G.2.1, 6, .inl (nF sp)))] H := hP.sub [7, 8, 9, 0, 1, 2, 3, 4, 5, 6] rfl
    have hD : va_D A [(q, .inr (2, [.ref fa, .ref fp, .int (nI dd), .int (nI pp), .int (nI st), .int (nI ts)])), (fa, .inl (G.2.1, 640, .inl fx)), (fp, .inl (G.2.1, 25, .inl (nF g))), (t, .inr (3, [.ref a, .ref b, .ref kn, .long (lN sn), .int (nI Ki.length)])), (kn, .inl (G.2.2, 4096, .inr (.inl Ti))), (a, .inr (0, [.ref ka, .int (nI n)])), (ka, .inl (G.2.1, 24, .inl (nF k))), (b, .inr (1, [.ref nb, .ref sb, .int (nI rc)])), (nb, .inl (G.2.1, 6, .inl (nF ne))), (sb, .inl (G.2.1, 6, .inl (nF sp)))] := hD.sub [7, 8, 9, 0, 1, 2, 3, 4, 5, 6] (by decide) rfl
    subst hw
    have hd9 : pto dd pp i < 2 ^ 24 := pto_lt dd pp i
    refine cs_vi (As := [.int (nI (pto dd pp i))]) (rest := []) (wr := [(q, .inr (2, [.ref fa, .ref fp, .int (nI dd), .int (nI pp), .int (nI st), .int (nI ts)])), (fa, .inl (G.2.1, 640, .inl fx)), (fp, .inl (G.2.1, 25, .inl (nF g)))]) ⟨hx, hb, hml, hown, hts⟩ hK hP hD hS hA (c_X3_looksSpoiled l G t kn sn Ti Ki (pto dd pp i) a ka n k b nb sb rc ne sp (by first | assumption | omega) (by first | assumption | omega) (by first | assumption | omega) (by first | assumption | omega) (by first | assumption | omega) (by first | assumption | omega) (by first | assumption | omega) (by first | assumption | omega) (by first | assumption | omega)) (cwV 1 hts gX2_firstSpoiledPart_X3_looksSpoiled rfl rfl rfl (by decide +kernel) ⟨Nat.le_of_ble_eq_true rfl, Nat.le_of_ble_eq_true rfl⟩) [3, 4, 5, 6, 7, 8, 9] [0, 1, 2] ⟨rfl, rfl, by decide, by decide, by decide⟩ 3 3 rfl rfl rfl hl.1 rfl (Nat.le_of_ble_eq_true rfl) ⟨Nat.le_of_ble_eq_true rfl, Nat.le_of_ble_eq_true rfl⟩ dX2_firstSpoiledPart_17 (fun r u_1 H locs hw hP hD hS => ?_)
    obtain ⟨rfl, hT⟩ := hw
    have hP : va_P G.1 vwCl [(q, .inr (2, [.ref fa, .ref fp, .int (nI dd), .int (nI pp), .int (nI st), .int (nI ts)])), (fa, .inl (G.2.1, 640, .inl fx)), (fp, .inl (G.2.1, 25, .inl (nF g))), (t, .inr (3, [.ref a, .ref b, .ref kn, .long (lN sn), .int (nI ((lk Ki (pto dd pp i)).length))])), (kn, .inl (G.2.2, 4096, .inr (.inl u_1))), (a, .inr (0, [.ref ka, .int (nI n)])), (ka, .inl (G.2.1, 24, .inl (nF k))), (b, .inr (1, [.ref nb, .ref sb, .int (nI rc)])), (nb, .inl (G.2.1, 6, .inl (nF ne))), (sb, .inl (G.2.1, 6, .inl (nF sp)))] H := hP.sub [0, 1, 2, 3, 4, 5, 6, 7, 8, 9] rfl
    have hD : va_D A [(q, .inr (2, [.ref fa, .ref fp, .int (nI dd), .int (nI pp), .int (nI st), .int (nI ts)])), (fa, .inl (G.2.1, 640, .inl fx)), (fp, .inl (G.2.1, 25, .inl (nF g))), (t, .inr (3, [.ref a, .ref b, .ref kn, .long (lN sn), .int (nI ((lk Ki (pto dd pp i)).length))])), (kn, .inl (G.2.2, 4096, .inr (.inl u_1))), (a, .inr (0, [.ref ka, .int (nI n)])), (ka, .inl (G.2.1, 24, .inl (nF k))), (b, .inr (1, [.ref nb, .ref sb, .int (nI rc)])), (nb, .inl (G.2.1, 6, .inl (nF ne))), (sb, .inl (G.2.1, 6, .inl (nF sp)))] := hD.sub [0, 1, 2, 3, 4, 5, 6, 7, 8, 9] (by decide) rfl
    refine lv_if_eq (tgt := 25) hx hb dX2_firstSpoiledPart_20 (by decide) (fun c_20 => ?_) (fun c_20 => ?_)
    · have c_20 := bI_0 c_20
      refine lv_iinc (v := nI (i + 1)) (lv' := [(3, .int (nI (i + 1))), (0, .ref q), (1, .ref t), (2, .int (nI (cnt dd 24)))]) hx hb dX2_firstSpoiledPart_25 hl (k := 3) rfl ((nI_succ i).symm) (by decide) rfl (fun ls hl => ?_)
      refine lv_goto (tgt := 2) hx hb dX2_firstSpoiledPart_28 (by decide) ?_
      exact ih ((i + 1, lk Ki (pto dd pp i), u_1)) (by show pp - (i + 1) < pp - i; omega) (⟨by show i + 1 ≤ pp; omega, by have z := lk_le Ki (pto dd pp i); show (lk Ki (pto dd pp i)).length ≤ K.length + (i + 1); omega, hT, by rw [← hfi, show pp - i = (pp - (i + 1)) + 1 by omega]; exact (fst1_f (mk := pto dd pp) c_20).symm⟩) _ _ _ (hP.sub (ws' := [(q, .inr (2, [.ref fa, .ref fp, .int (nI dd), .int (nI pp), .int (nI st), .int (nI ts)])), (fa, .inl (G.2.1, 640, .inl fx)), (fp, .inl (G.2.1, 25, .inl (nF g))), (t, .inr (3, [.ref a, .ref b, .ref kn, .long (lN sn), .int (nI ((lk Ki (pto dd pp i)).length))])), (kn, .inl (G.2.2, 4096, .inr (.inl u_1))), (a, .inr (0, [.ref ka, .int (nI n)])), (ka, .inl (G.2.1, 24, .inl (nF k))), (b, .inr (1, [.ref nb, .ref sb, .int (nI rc)])), (nb, .inl (G.2.1, 6, .inl (nF ne))), (sb, .inl (G.2.1, 6, .inl (nF sp)))]) [0, 1, 2, 3, 4, 5, 6, 7, 8, 9] rfl) (hD.sub (ws' := [(q, .inr (2, [.ref fa, .ref fp, .int (nI dd), .int (nI pp), .int (nI st), .int (nI ts)])), (fa, .inl (G.2.1, 640, .inl fx)), (fp, .inl (G.2.1, 25, .inl (nF g))), (t, .inr (3, [.ref a, .ref b, .ref kn, .long (lN sn), .int (nI ((lk Ki (pto dd pp i)).length))])), (kn, .inl (G.2.2, 4096, .inr (.inl u_1))), (a, .inr (0, [.ref ka, .int (nI n)])), (ka, .inl (G.2.1, 24, .inl (nF k))), (b, .inr (1, [.ref nb, .ref sb, .int (nI rc)])), (nb, .inl (G.2.1, 6, .inl (nF ne))), (sb, .inl (G.2.1, 6, .inl (nF sp)))]) [0, 1, 2, 3, 4, 5, 6, 7, 8, 9] (by decide) rfl) hS (lv_sub (l' := [(0, .ref q), (1, .ref t), (2, .int (nI (cnt dd 24))), (3, .int (nI (i + 1)))]) hl [1, 2, 3, 0] rfl)
    · have c_20 := bI_n0 c_20
      have e5 : (some i, lk Ki (pto dd pp i)) = (o, K1) := by rw [← hfi, show pp - i = (pp - (i + 1)) + 1 by omega]; exact (fst1_t (mk := pto dd pp) c_20).symm
      cases e5
      refine lv_iload_n hx hb dX2_firstSpoiledPart_23 rfl (lv_at hl 3 rfl) ?_
      exact cs_iret hx hb hr hlocks hK hP hD hS (v := nI i) u_1 (⟨rfl, hT⟩) rfl dX2_firstSpoiledPart_24

set_option maxRecDepth 100000 in
theorem in2_X2_firstSparedPart : ∀ w ∈ wsX20, w ∈ wsX2_firstSparedPart := by decide +kernel
set_option maxHeartbeats 4000000 in
set_option maxRecDepth 100000 in
theorem c_X2_firstSparedPart (l : Launch) (G : cG) (q fa fp dd pp st ts : Nat) (fx : Nat → Int32) (g : Nat → Nat) (t kn sn : Nat) (T : Nat → Int64) (K : List Nat) (a ka n : Nat) (k : Nat → Nat) (b nb sb rc : Nat) (ne sp : Nat → Nat) (hn : n ≤ 24) (hk : ∀ j, j < n → k j < 16) (hrc : rc ≤ 6) (hne : ∀ j, j < 6 → ne j < 65536) (hsp : ∀ j, j < 6 → sp j < 65536) (hsn : sn < 2 ^ 36) (o : Option Nat) (K1 : List Nat) (hd : dd < 2 ^ 24) (hg : ∀ j, j ≤ cnt dd 24 → g j = prt dd 0 j 24) (hpp : 2 ≤ pp) (hpm : pp ≤ cnt dd 24) (hT : TI T sn K) (hKl : K.length + pp < 3900) (he : fst1 (spl k ne sp n rc) (fun k9 => nd dd (pto dd pp k9)) pp 0 K = (o, K1)) : cMI l G yX2_firstSparedPart wsX2_firstSparedPart ({ frames := 3, cells := 0, slots := 0, locals := 66 }) [.ref q, .ref t, .int (nI (cnt dd 24))] [(q, .inr (2, [.ref fa, .ref fp, .int (nI dd), .int (nI pp), .int (nI st), .int (nI ts)])), (fa, .inl (G.2.1, 640, .inl fx)), (fp, .inl (G.2.1, 25, .inl (nF g))), (t, .inr (3, [.ref a, .ref b, .ref kn, .long (lN sn), .int (nI K.length)])), (kn, .inl (G.2.2, 4096, .inr (.inl T))), (a, .inr (0, [.ref ka, .int (nI n)])), (ka, .inl (G.2.1, 24, .inl (nF k))), (b, .inr (1, [.ref nb, .ref sb, .int (nI rc)])), (nb, .inl (G.2.1, 6, .inl (nF ne))), (sb, .inl (G.2.1, 6, .inl (nF sp)))] (fun (r_ : Int32) (T9 : Nat → Int64) => r_ = oI o ∧ TI T9 sn K1) (fun (T9 : Nat → Int64) => [(q, .inr (2, [.ref fa, .ref fp, .int (nI dd), .int (nI pp), .int (nI st), .int (nI ts)])), (fa, .inl (G.2.1, 640, .inl fx)), (fp, .inl (G.2.1, 25, .inl (nF g))), (t, .inr (3, [.ref a, .ref b, .ref kn, .long (lN sn), .int (nI K1.length)])), (kn, .inl (G.2.2, 4096, .inr (.inl T9))), (a, .inr (0, [.ref ka, .int (nI n)])), (ka, .inl (G.2.1, 24, .inl (nF k))), (b, .inr (1, [.ref nb, .ref sb, .int (nI rc)])), (nb, .inl (G.2.1, 6, .inl (nF ne))), (sb, .inl (G.2.1, 6, .inl (nF sp)))]) := by
  refine cs_sI (own := RX2) (cc := cX2_firstSparedPart) (maxL := 4) (ret := (some .int)) (by decide) rfl rfl (Nat.le_of_ble_eq_true rfl) ?_
  intro p e s m below meth c A hx hb hr hml hts hown hlocks hinit hA hK hP hD hS ls hl
  have hin2 := in2_X2_firstSparedPart
  have hl : lv_has ls 4 [(0, .ref q), (1, .ref t), (2, .int (nI (cnt dd 24)))] := hl
  have hc24 := cnt_le dd 24
  refine lv_iconst (v := nI 0) hx hb dX2_firstSparedPart_0 (by decide +kernel) ?_
  refine lv_istore_n (lv' := [(3, .int (nI 0)), (0, .ref q), (1, .ref t), (2, .int (nI (cnt dd 24)))]) hx hb dX2_firstSparedPart_1 rfl hl (by decide) rfl (fun ls hl => ?_)
  refine cs_loop (G := G) (nL := 4) (σ := Nat × List Nat × (Nat → Int64)) (fun x : Nat × List Nat × (Nat → Int64) => match x with | (i, Ki, Ti) => pp - i) (fun x : Nat × List Nat × (Nat → Int64) => match x with | (i, Ki, Ti) => i ≤ pp ∧ Ki.length ≤ K.length + i ∧ TI Ti sn Ki ∧ fst1 (spl k ne sp n rc) (fun k9 => nd dd (pto dd pp k9)) (pp - i) i Ki = (o, K1)) (fun x : Nat × List Nat × (Nat → Int64) => match x with | (i, Ki, Ti) => [(q, .inr (2, [.ref fa, .ref fp, .int (nI dd), .int (nI pp), .int (nI st), .int (nI ts)])), (fa, .inl (G.2.1, 640, .inl fx)), (fp, .inl (G.2.1, 25, .inl (nF g))), (t, .inr (3, [.ref a, .ref b, .ref kn, .long (lN sn), .int (nI Ki.length)])), (kn, .inl (G.2.2, 4096, .inr (.inl Ti))), (a, .inr (0, [.ref ka, .int (nI n)])), (ka, .inl (G.2.1, 24, .inl (nF k))), (b, .inr (1, [.ref nb, .ref sb, .int (nI rc)])), (nb, .inl (G.2.1, 6, .inl (nF ne))), (sb, .inl (G.2.1, 6, .inl (nF sp)))]) (fun x : Nat × List Nat × (Nat → Int64) => match x with | (i, Ki, Ti) => [(0, .ref q), (1, .ref t), (2, .int (nI (cnt dd 24))), (3, .int (nI i))]) ?_ ((0, K, T)) (⟨Nat.zero_le _, Nat.le_refl _, hT, he⟩) (hP.sub (ws' := [(q, .inr (2, [.ref fa, .ref fp, .int (nI dd), .int (nI pp), .int (nI st), .int (nI ts)])), (fa, .inl (G.2.1, 640, .inl fx)), (fp, .inl (G.2.1, 25, .inl (nF g))), (t, .inr (3, [.ref a, .ref b, .ref kn, .long (lN sn), .int (nI K.length)])), (kn, .inl (G.2.2, 4096, .inr (.inl T))), (a, .inr (0, [.ref ka, .int (nI n)])), (ka, .inl (G.2.1, 24, .inl (nF k))), (b, .inr (1, [.ref nb, .ref sb, .int (nI rc)])), (nb, .inl (G.2.1, 6, .inl (nF ne))), (sb, .inl (G.2.1, 6, .inl (nF sp)))]) [0, 1, 2, 3, 4, 5, 6, 7, 8, 9] rfl) (hD.sub (ws' := [(q, .inr (2, [.ref fa, .ref fp, .int (nI dd), .int (nI pp), .int (nI st), .int (nI ts)])), (fa, .inl (G.2.1, 640, .inl fx)), (fp, .inl (G.2.1, 25, .inl (nF g))), (t, .inr (3, [.ref a, .ref b, .ref kn, .long (lN sn), .int (nI K.length)])), (kn, .inl (G.2.2, 4096, .inr (.inl T))), (a, .inr (0, [.ref ka, .int (nI n)])), (ka, .inl (G.2.1, 24, .inl (nF k))), (b, .inr (1, [.ref nb, .ref sb, .int (nI rc)])), (nb, .inl (G.2.1, 6, .inl (nF ne))), (sb, .inl (G.2.1, 6, .inl (nF sp)))]) [0, 1, 2, 3, 4, 5, 6, 7, 8, 9] (by decide) rfl) hS (lv_sub (l' := [(0, .ref q), (1, .ref t), (2, .int (nI (cnt dd 24))), (3, .int (nI 0))]) hl [1, 2, 3, 0] rfl)
  rintro ⟨i, Ki, Ti⟩ hinv ih H locs ls hP hD hS hl
  have hP : va_P G.1 vwCl [(q, .inr (2, [.ref fa, .ref fp, .int (nI dd), .int (nI pp), .int (nI st), .int (nI ts)])), (fa, .inl (G.2.1, 640, .inl fx)), (fp, .inl (G.2.1, 25, .inl (nF g))), (t, .inr (3, [.ref a, .ref b, .ref kn, .long (lN sn), .int (nI Ki.length)])), (kn, .inl (G.2.2, 4096, .inr (.inl Ti))), (a, .inr (0, [.ref ka, .int (nI n)])), (ka, .inl (G.2.1, 24, .inl (nF k))), (b, .inr (1, [.ref nb, .ref sb, .int (nI rc)])), (nb, .inl (G.2.1, 6, .inl (nF ne))), (sb, .inl (G.2.1, 6, .inl (nF sp)))] H := hP
  have hD : va_D A [(q, .inr (2, [.ref fa, .ref fp, .int (nI dd), .int (nI pp), .int (nI st), .int (nI ts)])), (fa, .inl (G.2.1, 640, .inl fx)), (fp, .inl (G.2.1, 25, .inl (nF g))), (t, .inr (3, [.ref a, .ref b, .ref kn, .long (lN sn), .int (nI Ki.length)])), (kn, .inl (G.2.2, 4096, .inr (.inl Ti))), (a, .inr (0, [.ref ka, .int (nI n)])), (ka, .inl (G.2.1, 24, .inl (nF k))), (b, .inr (1, [.ref nb, .ref sb, .int (nI rc)])), (nb, .inl (G.2.1, 6, .inl (nF ne))), (sb, .inl (G.2.1, 6, .inl (nF sp)))] := hD
  have hl : lv_has ls 4 [(0, .ref q), (1, .ref t), (2, .int (nI (cnt dd 24))), (3, .int (nI i))] := hl
  have hinv : i ≤ pp ∧ Ki.length ≤ K.length + i ∧ TI Ti sn Ki ∧ fst1 (spl k ne sp n rc) (fun k9 => nd dd (pto dd pp k9)) (pp - i) i Ki = (o, K1) := hinv
  obtain ⟨hi, hKi, hTi, hfi⟩ := hinv
  clear hT he
  refine lv_iload_n hx hb dX2_firstSparedPart_2 rfl (lv_at hl 3 rfl) ?_
  refine lv_aload_n hx hb dX2_firstSparedPart_3 rfl (lv_at hl 0 rfl) ?_
  refine va_get (D := G.1) (ci := 2) (v := .int (nI pp)) (C := RX2) (T := TX2) (N := 6) hx hb hts hin2 hown hK hP 0 rfl rfl 3 (by decide) (hts (.fieldLink RX2 53 "FaultShrinker$Search" "parts" "I") (List.mem_of_getElem? (i := 1) rfl)) (fun _ h9 => h9) rfl dX2_firstSparedPart_4 ?_
  refine lv_icmp_ge (tgt := 38) hx hb dX2_firstSparedPart_7 (by decide) (fun c_7 => ?_) (fun c_7 => ?_)
  · have c_7 := (nI_leI (by omega) (by omega)).mp c_7
    have e7 : i = pp := by omega
    have e5 : ((none : Option Nat), Ki) = (o, K1) := by rw [← hfi, show pp - i = 0 by omega]; rfl
    cases e5
    refine lv_iconst (v := (-1)) hx hb dX2_firstSparedPart_38 (by decide +kernel) ?_
    exact cs_iret hx hb hr hlocks hK hP hD hS (v := (-1)) Ti (⟨rfl, hTi⟩) rfl dX2_firstSparedPart_39
  · have c_7 := mt (nI_leI (by omega) (by omega)).mpr c_7
    refine lv_aload_n hx hb dX2_firstSparedPart_10 rfl (lv_at hl 1 rfl) ?_
    refine lv_aload_n hx hb dX2_firstSparedPart_11 rfl (lv_at hl 0 rfl) ?_
    refine va_get (D := G.1) (ci := 2) (v := .int (nI dd)) (C := RX2) (T := TX2) (N := 6) hx hb hts hin2 hown hK hP 0 rfl rfl 2 (by decide) (hts (.fieldLink RX2 18 "FaultShrinker$Search" "dish" "I") (List.mem_of_getElem? (i := 2) rfl)) (fun _ h9 => h9) rfl dX2_firstSparedPart_12 ?_
    refine lv_aload_n hx hb dX2_firstSparedPart_15 rfl (lv_at hl 0 rfl) ?_
    refine lv_iload_n hx hb dX2_firstSparedPart_16 rfl (lv_at hl 3 rfl) ?_
    refine lv_iload_n hx hb dX2_firstSparedPart_17 rfl (lv_at hl 2 rfl) ?_
    refine cs_vi (As := [.int (nI i), .int (nI (cnt dd 24))]) (rest := [.int (nI dd), .ref t]) (wr := [(t, .inr (3, [.ref a, .ref b, .ref kn, .long (lN sn), .int (nI Ki.length)])), (kn, .inl (G.2.2, 4096, .inr (.inl Ti))), (a, .inr (0, [.ref ka, .int (nI n)])), (ka, .inl (G.2.1, 24, .inl (nF k))), (b, .inr (1, [.ref nb, .ref sb, .int (nI rc)])), (nb, .inl (G.2.1, 6, .inl (nF ne))), (sb, .inl (G.2.1, 6, .inl (nF sp)))]) ⟨hx, hb, hml, hown, hts⟩ hK hP hD hS hA (c_X2_partAt l G q fa fp dd pp st ts fx g i (by first | assumption | omega) (by first | assumption | omega) (by first | assumption | omega) (by first | assumption | omega)) (cwV 2 hts gX2_firstSparedPart_X2_partAt rfl rfl rfl (by decide +kernel) ⟨Nat.le_of_ble_eq_true rfl, Nat.le_of_ble_eq_true rfl⟩) [0, 1, 2] [3, 4, 5, 6, 7, 8, 9] ⟨rfl, rfl, by decide, by decide, by decide⟩ 0 2 rfl rfl rfl hl.1 rfl (Nat.le_of_ble_eq_true rfl) ⟨Nat.le_of_ble_eq_true rfl, Nat.le_of_ble_eq_true rfl⟩ dX2_firstSparedPart_18 (fun r u H locs hw hP hD hS => ?_)
    have hP : va_P G.1 vwCl [(q, .inr (2, [.ref fa, .ref fp, .int (nI dd), .int (nI pp), .int (nI st), .int (nI ts)])), (fa, .inl (G.2.1, 640, .inl fx)), (fp, .inl (G.2.1, 25, .inl (nF g))), (t, .inr (3, [.ref a, .ref b, .ref kn, .long (lN sn), .int (nI Ki.length)])), (kn, .inl (G.2.2, 4096, .inr (.inl Ti))), (a, .inr (0, [.ref ka, .int (nI n)])), (ka, .inl (G.2.1, 24, .inl (nF k))), (b, .inr (1, [.ref nb, .ref sb, .int (nI rc)])), (nb, .inl (G.2.1, 6, .inl (nF ne))), (sb, .inl (G.2.1, 6, .inl (nF sp)))] H := hP.sub [7, 8, 9, 0, 1, 2, 3, 4, 5, 6] rfl
    have hD : va_D A [(q, .inr (2, [.ref fa, .ref fp, .int (nI dd), .int (nI pp), .int (nI st), .int (nI ts)])), (fa, .inl (G.2.1, 640, .inl fx)), (fp, .inl (G.2.1, 25, .inl (nF g))), (t, .inr (3, [.ref a, .ref b, .ref kn, .long (lN sn), .int (nI Ki.length)])), (kn, .inl (G.2.2, 4096, .inr (.inl Ti))), (a, .inr (0, [.ref ka, .int (nI n)])), (ka, .inl (G.2.1, 24, .inl (nF k))), (b, .inr (1, [.ref nb, .ref sb, .int (nI rc)])), (nb, .inl (G.2.1, 6, .inl (nF ne))), (sb, .inl (G.2.1, 6, .inl (nF sp)))] := hD.sub [7, 8, 9, 0, 1, 2, 3, 4, 5, 6] (by decide) rfl
    subst hw
    refine lv_iconst (v := (-1)) hx hb dX2_firstSparedPart_21 (by decide +kernel) ?_
    refine lv_ixor hx hb dX2_firstSparedPart_22 ?_
    refine lv_iand hx hb dX2_firstSparedPart_23 ?_
    refine cs_i (y := nI (nd dd (pto dd pp i))) (nI_nd _ _) ?_
    have hd9 : nd dd (pto dd pp i) < 2 ^ 24 := nd_lt hd
    refine cs_vi (As := [.int (nI (nd dd (pto dd pp i)))]) (rest := []) (wr := [(q, .inr (2, [.ref fa, .ref fp, .int (nI dd), .int (nI pp), .int (nI st), .int (nI ts)])), (fa, .inl (G.2.1, 640, .inl fx)), (fp, .inl (G.2.1, 25, .inl (nF g)))]) ⟨hx, hb, hml, hown, hts⟩ hK hP hD hS hA (c_X3_looksSpoiled l G t kn sn Ti Ki (nd dd (pto dd pp i)) a ka n k b nb sb rc ne sp (by first | assumption | omega) (by first | assumption | omega) (by first | assumption | omega) (by first | assumption | omega) (by first | assumption | omega) (by first | assumption | omega) (by first | assumption | omega) (by first | assumption | omega) (by first | assumption | omega)) (cwV 1 hts gX2_firstSparedPart_X3_looksSpoiled rfl rfl rfl (by decide +kernel) ⟨Nat.le_of_ble_eq_true rfl, Nat.le_of_ble_eq_true rfl⟩) [3, 4, 5, 6, 7, 8, 9] [0, 1, 2] ⟨rfl, rfl, by decide, by decide, by decide⟩ 3 3 rfl rfl rfl hl.1 rfl (Nat.le_of_ble_eq_true rfl) ⟨Nat.le_of_ble_eq_true rfl, Nat.le_of_ble_eq_true rfl⟩ dX2_firstSparedPart_24 (fun r u_1 H locs hw hP hD hS => ?_)
    obtain ⟨rfl, hT⟩ := hw
    have hP : va_P G.1 vwCl [(q, .inr (2, [.ref fa, .ref fp, .int (nI dd), .int (nI pp), .int (nI st), .int (nI ts)])), (fa, .inl (G.2.1, 640, .inl fx)), (fp, .inl (G.2.1, 25, .inl (nF g))), (t, .inr (3, [.ref a, .ref b, .ref kn, .long (lN sn), .int (nI ((lk Ki (nd dd (pto dd pp i))).length))])), (kn, .inl (G.2.2, 4096, .inr (.inl u_1))), (a, .inr (0, [.ref ka, .int (nI n)])), (ka, .inl (G.2.1, 24, .inl (nF k))), (b, .inr (1, [.ref nb, .ref sb, .int (nI rc)])), (nb, .inl (G.2.1, 6, .inl (nF ne))), (sb, .inl (G.2.1, 6, .inl (nF sp)))] H := hP.sub [0, 1, 2, 3, 4, 5, 6, 7, 8, 9] rfl
    have hD : va_D A [(q, .inr (2, [.ref fa, .ref fp, .int (nI dd), .int (nI pp), .int (nI st), .int (nI ts)])), (fa, .inl (G.2.1, 640, .inl fx)), (fp, .inl (G.2.1, 25, .inl (nF g))), (t, .inr (3, [.ref a, .ref b, .ref kn, .long (lN sn), .int (nI ((lk Ki (nd dd (pto dd pp i))).length))])), (kn, .inl (G.2.2, 4096, .inr (.inl u_1))), (a, .inr (0, [.ref ka, .int (nI n)])), (ka, .inl (G.2.1, 24, .inl (nF k))), (b, .inr (1, [.ref nb, .ref sb, .int (nI rc)])), (nb, .inl (G.2.1, 6, .inl (nF ne))), (sb, .inl (G.2.1, 6, .inl (nF sp)))] := hD.sub [0, 1, 2, 3, 4, 5, 6, 7, 8, 9] (by decide) rfl
    refine lv_if_eq (tgt := 32) hx hb dX2_firstSparedPart_27 (by decide) (fun c_27 => ?_) (fun c_27 => ?_)
    · have c_27 := bI_0 c_27
      refine lv_iinc (v := nI (i + 1)) (lv' := [(3, .int (nI (i + 1))), (0, .ref q), (1, .ref t), (2, .int (nI (cnt dd 24)))]) hx hb dX2_firstSparedPart_32 hl (k := 3) rfl ((nI_succ i).symm) (by decide) rfl (fun ls hl => ?_)
      refine lv_goto (tgt := 2) hx hb dX2_firstSparedPart_35 (by decide) ?_
      exact ih ((i + 1, lk Ki (nd dd (pto dd pp i)), u_1)) (by show pp - (i + 1) < pp - i; omega) (⟨by show i + 1 ≤ pp; omega, by have z := lk_le Ki (nd dd (pto dd pp i)); show (lk Ki (nd dd (pto dd pp i))).length ≤ K.length + (i + 1); omega, hT, by rw [← hfi, show pp - i = (pp - (i + 1)) + 1 by omega]; exact (fst1_f (mk := (fun k9 => nd dd (pto dd pp k9))) c_27).symm⟩) _ _ _ (hP.sub (ws' := [(q, .inr (2, [.ref fa, .ref fp, .int (nI dd), .int (nI pp), .int (nI st), .int (nI ts)])), (fa, .inl (G.2.1, 640, .inl fx)), (fp, .inl (G.2.1, 25, .inl (nF g))), (t, .inr (3, [.ref a, .ref b, .ref kn, .long (lN sn), .int (nI ((lk Ki (nd dd (pto dd pp i))).length))])), (kn, .inl (G.2.2, 4096, .inr (.inl u_1))), (a, .inr (0, [.ref ka, .int (nI n)])), (ka, .inl (G.2.1, 24, .inl (nF k))), (b, .inr (1, [.ref nb, .ref sb, .int (nI rc)])), (nb, .inl (G.2.1, 6, .inl (nF ne))), (sb, .inl (G.2.1, 6, .inl (nF sp)))]) [0, 1, 2, 3, 4, 5, 6, 7, 8, 9] rfl) (hD.sub (ws' := [(q, .inr (2, [.ref fa, .ref fp, .int (nI dd), .int (nI pp), .int (nI st), .int (nI ts)])), (fa, .inl (G.2.1, 640, .inl fx)), (fp, .inl (G.2.1, 25, .inl (nF g))), (t, .inr (3, [.ref a, .ref b, .ref kn, .long (lN sn), .int (nI ((lk Ki (nd dd (pto dd pp i))).length))])), (kn, .inl (G.2.2, 4096, .inr (.inl u_1))), (a, .inr (0, [.ref ka, .int (nI n)])), (ka, .inl (G.2.1, 24, .inl (nF k))), (b, .inr (1, [.ref nb, .ref sb, .int (nI rc)])), (nb, .inl (G.2.1, 6, .inl (nF ne))), (sb, .inl (G.2.1, 6, .inl (nF sp)))]) [0, 1, 2, 3, 4, 5, 6, 7, 8, 9] (by decide) rfl) hS (lv_sub (l' := [(0, .ref q), (1, .ref t), (2, .int (nI (cnt dd 24))), (3, .int (nI (i + 1)))]) hl [1, 2, 3, 0] rfl)
    · have c_27 := bI_n0 c_27
      have e5 : (some i, lk Ki (nd dd (pto dd pp i))) = (o, K1) := by rw [← hfi, show pp - i = (pp - (i + 1)) + 1 by omega]; exact (fst1_t (mk := (fun k9 => nd dd (pto dd pp k9))) c_27).symm
      cases e5
      refine lv_iload_n hx hb dX2_firstSparedPart_30 rfl (lv_at hl 3 rfl) ?_
      exact cs_iret hx hb hr hlocks hK hP hD hS (v := nI i) u_1 (⟨rfl, hT⟩) rfl dX2_firstSparedPart_31
