set_option maxHeartbeats 4000000 in
set_option maxRecDepth 100000 in
theorem c_J6_bitCount_0f7a4 (l : Launch) (G : cG) (d : Nat) (hd : d < 2 ^ 24) : cMI l G yJ6_bitCount_0f7a4 wsJ6_bitCount_0f7a4 ({ frames := 0, cells := 0, slots := 0, locals := 0 }) [.int (nI d)] [] (fun (r_ : Int32) (_ : Unit) => r_ = nI (cnt d 24)) (fun (_ : Unit) => []) := by
  refine cs_sI (own := RJ6) (cc := cJ6_bitCount_0f7a4) (maxL := 1) (ret := (some .int)) (by decide) rfl rfl (Nat.le_of_ble_eq_true rfl) ?_
  intro p e s m below meth c A hx hb hr hml hts hown hlocks hinit hA hK hP hD hS ls hl
  have hl : lv_has ls 1 [(0, .int (nI d))] := hl
  obtain ⟨b1, b2, b3, b4, b5, b6⟩ := bc_lt hd
  refine lv_iload_n hx hb dJ6_bitCount_0f7a4_0 rfl (lv_at hl 0 rfl) ?_
  refine lv_iload_n hx hb dJ6_bitCount_0f7a4_1 rfl (lv_at hl 0 rfl) ?_
  refine lv_iconst (v := nI 1) hx hb dJ6_bitCount_0f7a4_2 (by decide +kernel) ?_
  refine lv_iushr (v := nI (d >>> 1)) hx hb dJ6_bitCount_0f7a4_3 (nI_ushr (by omega) (by omega)) ?_
  refine lv_ldcw (v := (1431655765)) hx hb hown (hts (.constant RJ6 265 (1431655765)) (List.mem_of_getElem? (i := 1) rfl)) dJ6_bitCount_0f7a4_4 ?_
  refine cs_i (y := nI 1431655765) (fa_lit 1431655765) ?_
  refine lv_iand hx hb dJ6_bitCount_0f7a4_7 ?_
  refine cs_i (y := nI ((d >>> 1) &&& 1431655765)) (fa_and _ _) ?_
  refine lv_isub hx hb dJ6_bitCount_0f7a4_8 ?_
  refine cs_i (y := nI (bc1 d 1431655765)) (pk_sub b1) ?_
  refine lv_istore_n (lv' := [(0, .int (nI (bc1 d 1431655765)))]) hx hb dJ6_bitCount_0f7a4_9 rfl hl (by decide) rfl (fun ls hl => ?_)
  refine lv_iload_n hx hb dJ6_bitCount_0f7a4_10 rfl (lv_at hl 0 rfl) ?_
  refine lv_ldcw (v := (858993459)) hx hb hown (hts (.constant RJ6 266 (858993459)) (List.mem_of_getElem? (i := 2) rfl)) dJ6_bitCount_0f7a4_11 ?_
  refine cs_i (y := nI 858993459) (fa_lit 858993459) ?_
  refine lv_iand hx hb dJ6_bitCount_0f7a4_14 ?_
  refine cs_i (y := nI ((bc1 d 1431655765) &&& 858993459)) (fa_and _ _) ?_
  refine lv_iload_n hx hb dJ6_bitCount_0f7a4_15 rfl (lv_at hl 0 rfl) ?_
  refine lv_iconst (v := nI 2) hx hb dJ6_bitCount_0f7a4_16 (by decide +kernel) ?_
  refine lv_iushr (v := nI ((bc1 d 1431655765) >>> 2)) hx hb dJ6_bitCount_0f7a4_17 (nI_ushr (by omega) (by omega)) ?_
  refine lv_ldcw (v := (858993459)) hx hb hown (hts (.constant RJ6 266 (858993459)) (List.mem_of_getElem? (i := 2) rfl)) dJ6_bitCount_0f7a4_18 ?_
  refine cs_i (y := nI 858993459) (fa_lit 858993459) ?_
  refine lv_iand hx hb dJ6_bitCount_0f7a4_21 ?_
  refine cs_i (y := nI (((bc1 d 1431655765) >>> 2) &&& 858993459)) (fa_and _ _) ?_
  refine lv_iadd hx hb dJ6_bitCount_0f7a4_22 ?_
  refine cs_i (y := nI (bc2 (bc1 d 1431655765) 858993459)) (nI_add _ _) ?_
  refine lv_istore_n (lv' := [(0, .int (nI (bc2 (bc1 d 1431655765) 858993459)))]) hx hb dJ6_bitCount_0f7a4_23 rfl hl (by decide) rfl (fun ls hl => ?_)
  refine lv_iload_n hx hb dJ6_bitCount_0f7a4_24 rfl (lv_at hl 0 rfl) ?_
  refine lv_iload_n hx hb dJ6_bitCount_0f7a4_25 rfl (lv_at hl 0 rfl) ?_
  refine lv_iconst (v := nI 4) hx hb dJ6_bitCount_0f7a4_26 (by decide +kernel) ?_
  refine lv_iushr (v := nI ((bc2 (bc1 d 1431655765) 858993459) >>> 4)) hx hb dJ6_bitCount_0f7a4_27 (nI_ushr (by omega) (by omega)) ?_
  refine lv_iadd hx hb dJ6_bitCount_0f7a4_28 ?_
  refine cs_i (y := nI ((bc2 (bc1 d 1431655765) 858993459) + ((bc2 (bc1 d 1431655765) 858993459) >>> 4))) (nI_add _ _) ?_
  refine lv_ldcw (v := (252645135)) hx hb hown (hts (.constant RJ6 267 (252645135)) (List.mem_of_getElem? (i := 3) rfl)) dJ6_bitCount_0f7a4_29 ?_
  refine cs_i (y := nI 252645135) (fa_lit 252645135) ?_
  refine lv_iand hx hb dJ6_bitCount_0f7a4_32 ?_
  refine cs_i (y := nI (bc3 (bc2 (bc1 d 1431655765) 858993459) 252645135)) (fa_and _ _) ?_
  refine lv_istore_n (lv' := [(0, .int (nI (bc3 (bc2 (bc1 d 1431655765) 858993459) 252645135)))]) hx hb dJ6_bitCount_0f7a4_33 rfl hl (by decide) rfl (fun ls hl => ?_)
  obtain ⟨i3, h3⟩ : ∃ z, z = bc3 (bc2 (bc1 d 1431655765) 858993459) 252645135 := ⟨_, rfl⟩
  obtain ⟨i4, h4⟩ : ∃ z, z = i3 + (i3 >>> 8) := ⟨_, rfl⟩
  obtain ⟨i5, h5⟩ : ∃ z, z = i4 + (i4 >>> 16) := ⟨_, rfl⟩
  obtain ⟨a3, a4, a5, a6⟩ := bc_all hd i3 h3 i4 h4 i5 h5
  have e8 : nI (bc3 (bc2 (bc1 d 1431655765) 858993459) 252645135) = nI i3 := by rw [h3]
  rw [e8] at hl
  refine lv_iload_n hx hb dJ6_bitCount_0f7a4_34 rfl (lv_at hl 0 rfl) ?_
  refine lv_iload_n hx hb dJ6_bitCount_0f7a4_35 rfl (lv_at hl 0 rfl) ?_
  refine lv_bipush (v := nI 8) hx hb dJ6_bitCount_0f7a4_36 (by decide +kernel) ?_
  refine lv_iushr (v := nI (i3 >>> 8)) hx hb dJ6_bitCount_0f7a4_38 (nI_ushr (by omega) (by omega)) ?_
  refine lv_iadd hx hb dJ6_bitCount_0f7a4_39 ?_
  refine cs_i (y := nI i4) (by rw [h4]; exact nI_add _ _) ?_
  refine lv_istore_n (lv' := [(0, .int (nI i4))]) hx hb dJ6_bitCount_0f7a4_40 rfl hl (by decide) rfl (fun ls hl => ?_)
  refine lv_iload_n hx hb dJ6_bitCount_0f7a4_41 rfl (lv_at hl 0 rfl) ?_
  refine lv_iload_n hx hb dJ6_bitCount_0f7a4_42 rfl (lv_at hl 0 rfl) ?_
  refine lv_bipush (v := nI 16) hx hb dJ6_bitCount_0f7a4_43 (by decide +kernel) ?_
  refine lv_iushr (v := nI (i4 >>> 16)) hx hb dJ6_bitCount_0f7a4_45 (nI_ushr (by omega) (by omega)) ?_
  refine lv_iadd hx hb dJ6_bitCount_0f7a4_46 ?_
  refine cs_i (y := nI i5) (by rw [h5]; exact nI_add _ _) ?_
  refine lv_istore_n (lv' := [(0, .int (nI i5))]) hx hb dJ6_bitCount_0f7a4_47 rfl hl (by decide) rfl (fun ls hl => ?_)
  refine lv_iload_n hx hb dJ6_bitCount_0f7a4_48 rfl (lv_at hl 0 rfl) ?_
  refine lv_bipush (v := nI 63) hx hb dJ6_bitCount_0f7a4_49 (by decide +kernel) ?_
  refine lv_iand hx hb dJ6_bitCount_0f7a4_51 ?_
  refine cs_i (y := nI (cnt d 24)) (by rw [fa_and, a6]) ?_
  exact cs_iret hx hb hr hlocks hK hP hD hS (v := nI (cnt d 24)) () (by first | rfl | assumption) rfl dJ6_bitCount_0f7a4_52
