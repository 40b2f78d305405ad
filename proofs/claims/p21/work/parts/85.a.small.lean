set_option maxRecDepth 100000 in
theorem in5_X5_init : ∀ w ∈ wsX50, w ∈ wsX5_init := by decide +kernel
set_option maxHeartbeats 4000000 in
set_option maxRecDepth 100000 in
theorem c_X5_init (l : Launch) (G : cG) (gr : ClassId) (sa : Nat → Nat) (R L : List Nat) (f : Nat → va_E) (z : Nat) : pMV l G gr sa yX5_init wsX5_init ({ frames := 1, cells := 7, slots := 0, locals := 30 }) [.ref z] ([(z, .inr (5, [.null, .null, .null, .null, .int (nI 0), .null, .int (nI 0), .null, .null]))] ++ va_pl (R ++ L) f) (fun (u : (List Nat × (Nat → va_E)) × (Nat → Nat)) => pX R L f u.1.1 u.1.2 ∧ fI G u.1.1 u.1.2 (u.2 0) 0 (fun _ => 0) ∧ fR gr u.1.1 u.1.2 (u.2 1) 0 (fun _ => 0) ∧ fI G u.1.1 u.1.2 (u.2 2) 0 (fun _ => 0) ∧ fI G u.1.1 u.1.2 (u.2 3) 0 (fun _ => 0) ∧ fR gr u.1.1 u.1.2 (u.2 4) 0 (fun _ => 0)) (fun (u : (List Nat × (Nat → va_E)) × (Nat → Nat)) => ([(z, .inr (5, [.ref (u.2 0), .ref (u.2 1), .ref (u.2 2), .ref (u.2 3), .int (nI 0), .ref (u.2 4), .int (nI 0), .ref (u.2 5), .ref (u.2 6)]))] ++ va_pl (R ++ u.1.1) u.1.2)) := by
  refine ps_V (own := RX5) (cc := cX5_init) (maxL := 1) (ret := none) (by decide) rfl rfl (Nat.le_of_ble_eq_true rfl) ?_
  intro p e s m below meth c A hZ hN hQ hx hb hr hml hts hown hlocks hinit hA hK hP hD hS ls hl
  have hin5 := in5_X5_init
  have hl : lv_has ls 1 [(0, .ref z)] := hl
  refine lv_aload_n hx hb dX5_init_0 rfl (lv_at hl 0 rfl) ?_
  refine W.objInit hx hb hown (hts (.methodLink RX5 1 objectInit) (List.mem_of_getElem? (i := 1) rfl)) (hts (.instanceMethod objectInit) (List.mem_of_getElem? (i := 2) rfl)) (hts (.code objectInit ⟨#[0xb1]⟩ 1 none) (List.mem_of_getElem? (i := 3) rfl)) rfl (by rw [hml]; exact hl.1) rfl dX5_init_1 (Nat.le_of_ble_eq_true rfl) (Nat.le_of_ble_eq_true rfl) ?_
  refine lv_aload_n hx hb dX5_init_4 rfl (lv_at hl 0 rfl) ?_
  refine lv_iconst (v := nI 0) hx hb dX5_init_5 (by decide +kernel) ?_
  refine p_newI hx hb (hts (.arrayClass .int) (List.mem_of_getElem? (i := 4) rfl)) hK hP hD hS hA (N' := 0) rfl (by omega) (by first | omega | (dsimp only; omega)) (by first | omega | (dsimp only; omega)) dX5_init_6 (fun q6 H hP hD hS => ?_)
  have hP : va_P G.1 vwCl ([(z, .inr (5, [.null, .null, .null, .null, .int (nI 0), .null, .int (nI 0), .null, .null])), (q6, .inl (G.2.1, 0, .inl (nF (fun _ => 0))))] ++ va_pl (R ++ L) f) _ := hP
  have hD : va_D A ([(z, .inr (5, [.null, .null, .null, .null, .int (nI 0), .null, .int (nI 0), .null, .null])), (q6, .inl (G.2.1, 0, .inl (nF (fun _ => 0))))] ++ va_pl (R ++ L) f) := hD
  refine va_put (D := G.1) (ci := 5) (v := .ref q6) (ty := .array .int) (C := RX5) (T := TX5) (N := 9) hx hb hts hin5 tyX5 tyX5_ok nmX5 hown hK hP hD hS 0 rfl rfl 0 (by decide) (hts (.fieldLink RX5 7 "FaultShrinkerLaw$Sim" "kinds" "[I") (List.mem_of_getElem? (i := 5) rfl)) (fun _ h9 => h9) rfl (by decide +kernel) rfl rfl (Nat.le_of_ble_eq_true rfl) dX5_init_8 (fun H locs hP hD hS => ?_)
  have hP : va_P G.1 vwCl ([(z, .inr (5, [.ref q6, .null, .null, .null, .int (nI 0), .null, .int (nI 0), .null, .null])), (q6, .inl (G.2.1, 0, .inl (nF (fun _ => 0))))] ++ va_pl (R ++ L) f) _ := hP
  have hD : va_D A ([(z, .inr (5, [.ref q6, .null, .null, .null, .int (nI 0), .null, .int (nI 0), .null, .null])), (q6, .inl (G.2.1, 0, .inl (nF (fun _ => 0))))] ++ va_pl (R ++ L) f) := hD
  obtain ⟨hP, hD, hx_1, hmF, heF⟩ := p_frz (X := [(z, .inr (5, [.ref q6, .null, .null, .null, .int (nI 0), .null, .int (nI 0), .null, .null]))]) (RR := R) (L := L) (f := f) hP hD
  obtain ⟨L_1, f_1, hLF, hfF⟩ : ∃ L9 f9, L9 = L ++ [q6] ∧ f9 = va_up f q6 (.inl (G.2.1, 0, .inl (nF (fun _ => 0)))) := ⟨_, _, rfl, rfl⟩
  rw [← hLF, ← hfF] at hP hD hx_1
  rw [← hLF] at hmF
  rw [← hfF] at heF
  have hi0 : fI G L_1 f_1 q6 0 (fun _ => 0) := ⟨hmF, _, heF, (fun j hj => absurd hj (Nat.not_lt_zero j))⟩
  clear hmF heF hLF hfF
  have hP : va_P G.1 vwCl ([(z, .inr (5, [.ref q6, .null, .null, .null, .int (nI 0), .null, .int (nI 0), .null, .null]))] ++ va_pl (R ++ L_1) f_1) _ := hP
  have hD : va_D A ([(z, .inr (5, [.ref q6, .null, .null, .null, .int (nI 0), .null, .int (nI 0), .null, .null]))] ++ va_pl (R ++ L_1) f_1) := hD
  refine lv_aload_n hx hb dX5_init_11 rfl (lv_at hl 0 rfl) ?_
  refine lv_iconst (v := nI 0) hx hb dX5_init_12 (by decide +kernel) ?_
  refine p_newR hx hb hown (hts (.classLink RX5 13 "[I") (List.mem_of_getElem? (i := 6) rfl)) hQ hP hD hS hA (N' := 0) rfl (by omega) (by first | omega | (dsimp only; omega)) (by first | omega | (dsimp only; omega)) dX5_init_13 (fun q13 H hP hD hS => ?_)
  have hP : va_P G.1 vwCl ([(z, .inr (5, [.ref q6, .null, .null, .null, .int (nI 0), .null, .int (nI 0), .null, .null])), (q13, .inl (gr, 0, .inr (.inr (.inr (.inr (fun _ => none))))))] ++ va_pl (R ++ L_1) f_1) _ := hP
  have hD : va_D A ([(z, .inr (5, [.ref q6, .null, .null, .null, .int (nI 0), .null, .int (nI 0), .null, .null])), (q13, .inl (gr, 0, .inr (.inr (.inr (.inr (fun _ => none))))))] ++ va_pl (R ++ L_1) f_1) := hD
  refine va_put (D := G.1) (ci := 5) (v := .ref q13) (ty := .array (.array .int)) (C := RX5) (T := TX5) (N := 9) hx hb hts hin5 tyX5 tyX5_ok nmX5 hown hK hP hD hS 0 rfl rfl 1 (by decide) (hts (.fieldLink RX5 14 "FaultShrinkerLaw$Sim" "rules" "[[I") (List.mem_of_getElem? (i := 7) rfl)) (fun _ h9 => h9) rfl (by decide +kernel) rfl rfl (Nat.le_of_ble_eq_true rfl) dX5_init_16 (fun H locs hP hD hS => ?_)
  have hP : va_P G.1 vwCl ([(z, .inr (5, [.ref q6, .ref q13, .null, .null, .int (nI 0), .null, .int (nI 0), .null, .null])), (q13, .inl (gr, 0, .inr (.inr (.inr (.inr (fun _ => none))))))] ++ va_pl (R ++ L_1) f_1) _ := hP
  have hD : va_D A ([(z, .inr (5, [.ref q6, .ref q13, .null, .null, .int (nI 0), .null, .int (nI 0), .null, .null])), (q13, .inl (gr, 0, .inr (.inr (.inr (.inr (fun _ => none))))))] ++ va_pl (R ++ L_1) f_1) := hD
  obtain ⟨hP, hD, hx_2, hmF, heF⟩ := p_frz (X := [(z, .inr (5, [.ref q6, .ref q13, .null, .null, .int (nI 0), .null, .int (nI 0), .null, .null]))]) (RR := R) (L := L_1) (f := f_1) hP hD
  obtain ⟨L_2, f_2, hLF, hfF⟩ : ∃ L9 f9, L9 = L_1 ++ [q13] ∧ f9 = va_up f_1 q13 (.inl (gr, 0, .inr (.inr (.inr (.inr (fun _ => none)))))) := ⟨_, _, rfl, rfl⟩
  rw [← hLF, ← hfF] at hP hD hx_2
  rw [← hLF] at hmF
  rw [← hfF] at heF
  have hi1 : fR gr L_2 f_2 q13 0 (fun _ => 0) := ⟨hmF, _, heF, (fun j hj => absurd hj (Nat.not_lt_zero j))⟩
  clear hmF heF hLF hfF
  have hi0 := hi0.mono hx_2
  have hP : va_P G.1 vwCl ([(z, .inr (5, [.ref q6, .ref q13, .null, .null, .int (nI 0), .null, .int (nI 0), .null, .null]))] ++ va_pl (R ++ L_2) f_2) _ := hP
  have hD : va_D A ([(z, .inr (5, [.ref q6, .ref q13, .null, .null, .int (nI 0), .null, .int (nI 0), .null, .null]))] ++ va_pl (R ++ L_2) f_2) := hD
  refine lv_aload_n hx hb dX5_init_19 rfl (lv_at hl 0 rfl) ?_
  refine lv_iconst (v := nI 0) hx hb dX5_init_20 (by decide +kernel) ?_
  refine p_newI hx hb (hts (.arrayClass .int) (List.mem_of_getElem? (i := 4) rfl)) hK hP hD hS hA (N' := 0) rfl (by omega) (by first | omega | (dsimp only; omega)) (by first | omega | (dsimp only; omega)) dX5_init_21 (fun q21 H hP hD hS => ?_)
  have hP : va_P G.1 vwCl ([(z, .inr (5, [.ref q6, .ref q13, .null, .null, .int (nI 0), .null, .int (nI 0), .null, .null])), (q21, .inl (G.2.1, 0, .inl (nF (fun _ => 0))))] ++ va_pl (R ++ L_2) f_2) _ := hP
  have hD : va_D A ([(z, .inr (5, [.ref q6, .ref q13, .null, .null, .int (nI 0), .null, .int (nI 0), .null, .null])), (q21, .inl (G.2.1, 0, .inl (nF (fun _ => 0))))] ++ va_pl (R ++ L_2) f_2) := hD
  refine va_put (D := G.1) (ci := 5) (v := .ref q21) (ty := .array .int) (C := RX5) (T := TX5) (N := 9) hx hb hts hin5 tyX5 tyX5_ok nmX5 hown hK hP hD hS 0 rfl rfl 2 (by decide) (hts (.fieldLink RX5 18 "FaultShrinkerLaw$Sim" "list" "[I") (List.mem_of_getElem? (i := 8) rfl)) (fun _ h9 => h9) rfl (by decide +kernel) rfl rfl (Nat.le_of_ble_eq_true rfl) dX5_init_23 (fun H locs hP hD hS => ?_)
  have hP : va_P G.1 vwCl ([(z, .inr (5, [.ref q6, .ref q13, .ref q21, .null, .int (nI 0), .null, .int (nI 0), .null, .null])), (q21, .inl (G.2.1, 0, .inl (nF (fun _ => 0))))] ++ va_pl (R ++ L_2) f_2) _ := hP
  have hD : va_D A ([(z, .inr (5, [.ref q6, .ref q13, .ref q21, .null, .int (nI 0), .null, .int (nI 0), .null, .null])), (q21, .inl (G.2.1, 0, .inl (nF (fun _ => 0))))] ++ va_pl (R ++ L_2) f_2) := hD
  obtain ⟨hP, hD, hx_3, hmF, heF⟩ := p_frz (X := [(z, .inr (5, [.ref q6, .ref q13, .ref q21, .null, .int (nI 0), .null, .int (nI 0), .null, .null]))]) (RR := R) (L := L_2) (f := f_2) hP hD
  obtain ⟨L_3, f_3, hLF, hfF⟩ : ∃ L9 f9, L9 = L_2 ++ [q21] ∧ f9 = va_up f_2 q21 (.inl (G.2.1, 0, .inl (nF (fun _ => 0)))) := ⟨_, _, rfl, rfl⟩
  rw [← hLF, ← hfF] at hP hD hx_3
  rw [← hLF] at hmF
  rw [← hfF] at heF
  have hi2 : fI G L_3 f_3 q21 0 (fun _ => 0) := ⟨hmF, _, heF, (fun j hj => absurd hj (Nat.not_lt_zero j))⟩
  clear hmF heF hLF hfF
  have hi0 := hi0.mono hx_3
  have hi1 := hi1.mono hx_3
  have hP : va_P G.1 vwCl ([(z, .inr (5, [.ref q6, .ref q13, .ref q21, .null, .int (nI 0), .null, .int (nI 0), .null, .null]))] ++ va_pl (R ++ L_3) f_3) _ := hP
  have hD : va_D A ([(z, .inr (5, [.ref q6, .ref q13, .ref q21, .null, .int (nI 0), .null, .int (nI 0), .null, .null]))] ++ va_pl (R ++ L_3) f_3) := hD
  refine lv_aload_n hx hb dX5_init_26 rfl (lv_at hl 0 rfl) ?_
  refine lv_iconst (v := nI 0) hx hb dX5_init_27 (by decide +kernel) ?_
  refine p_newI hx hb (hts (.arrayClass .int) (List.mem_of_getElem? (i := 4) rfl)) hK hP hD hS hA (N' := 0) rfl (by omega) (by first | omega | (dsimp only; omega)) (by first | omega | (dsimp only; omega)) dX5_init_28 (fun q28 H hP hD hS => ?_)
  have hP : va_P G.1 vwCl ([(z, .inr (5, [.ref q6, .ref q13, .ref q21, .null, .int (nI 0), .null, .int (nI 0), .null, .null])), (q28, .inl (G.2.1, 0, .inl (nF (fun _ => 0))))] ++ va_pl (R ++ L_3) f_3) _ := hP
  have hD : va_D A ([(z, .inr (5, [.ref q6, .ref q13, .ref q21, .null, .int (nI 0), .null, .int (nI 0), .null, .null])), (q28, .inl (G.2.1, 0, .inl (nF (fun _ => 0))))] ++ va_pl (R ++ L_3) f_3) := hD
  refine va_put (D := G.1) (ci := 5) (v := .ref q28) (ty := .array .int) (C := RX5) (T := TX5) (N := 9) hx hb hts hin5 tyX5 tyX5_ok nmX5 hown hK hP hD hS 0 rfl rfl 3 (by decide) (hts (.fieldLink RX5 21 "FaultShrinkerLaw$Sim" "listKinds" "[I") (List.mem_of_getElem? (i := 9) rfl)) (fun _ h9 => h9) rfl (by decide +kernel) rfl rfl (Nat.le_of_ble_eq_true rfl) dX5_init_30 (fun H locs hP hD hS => ?_)
  have hP : va_P G.1 vwCl ([(z, .inr (5, [.ref q6, .ref q13, .ref q21, .ref q28, .int (nI 0), .null, .int (nI 0), .null, .null])), (q28, .inl (G.2.1, 0, .inl (nF (fun _ => 0))))] ++ va_pl (R ++ L_3) f_3) _ := hP
  have hD : va_D A ([(z, .inr (5, [.ref q6, .ref q13, .ref q21, .ref q28, .int (nI 0), .null, .int (nI 0), .null, .null])), (q28, .inl (G.2.1, 0, .inl (nF (fun _ => 0))))] ++ va_pl (R ++ L_3) f_3) := hD
  obtain ⟨hP, hD, hx_4, hmF, heF⟩ := p_frz (X := [(z, .inr (5, [.ref q6, .ref q13, .ref q21, .ref q28, .int (nI 0), .null, .int (nI 0), .null, .null]))]) (RR := R) (L := L_3) (f := f_3) hP hD
  obtain ⟨L_4, f_4, hLF, hfF⟩ : ∃ L9 f9, L9 = L_3 ++ [q28] ∧ f9 = va_up f_3 q28 (.inl (G.2.1, 0, .inl (nF (fun _ => 0)))) := ⟨_, _, rfl, rfl⟩
  rw [← hLF, ← hfF] at hP hD hx_4
  rw [← hLF] at hmF
  rw [← hfF] at heF
  have hi3 : fI G L_4 f_4 q28 0 (fun _ => 0) := ⟨hmF, _, heF, (fun j hj => absurd hj (Nat.not_lt_zero j))⟩
  clear hmF heF hLF hfF
  have hi0 := hi0.mono hx_4
  have hi1 := hi1.mono hx_4
  have hi2 := hi2.mono hx_4
  have hP : va_P G.1 vwCl ([(z, .inr (5, [.ref q6, .ref q13, .ref q21, .ref q28, .int (nI 0), .null, .int (nI 0), .null, .null]))] ++ va_pl (R ++ L_4) f_4) _ := hP
  have hD : va_D A ([(z, .inr (5, [.ref q6, .ref q13, .ref q21, .ref q28, .int (nI 0), .null, .int (nI 0), .null, .null]))] ++ va_pl (R ++ L_4) f_4) := hD
  refine lv_aload_n hx hb dX5_init_33 rfl (lv_at hl 0 rfl) ?_
  refine lv_iconst (v := nI 0) hx hb dX5_init_34 (by decide +kernel) ?_
  refine p_newR hx hb hown (hts (.classLink RX5 13 "[I") (List.mem_of_getElem? (i := 6) rfl)) hQ hP hD hS hA (N' := 0) rfl (by omega) (by first | omega | (dsimp only; omega)) (by first | omega | (dsimp only; omega)) dX5_init_35 (fun q35 H hP hD hS => ?_)
  have hP : va_P G.1 vwCl ([(z, .inr (5, [.ref q6, .ref q13, .ref q21, .ref q28, .int (nI 0), .null, .int (nI 0), .null, .null])), (q35, .inl (gr, 0, .inr (.inr (.inr (.inr (fun _ => none))))))] ++ va_pl (R ++ L_4) f_4) _ := hP
  have hD : va_D A ([(z, .inr (5, [.ref q6, .ref q13, .ref q21, .ref q28, .int (nI 0), .null, .int (nI 0), .null, .null])), (q35, .inl (gr, 0, .inr (.inr (.inr (.inr (fun _ => none))))))] ++ va_pl (R ++ L_4) f_4) := hD
  refine va_put (D := G.1) (ci := 5) (v := .ref q35) (ty := .array (.array .int)) (C := RX5) (T := TX5) (N := 9) hx hb hts hin5 tyX5 tyX5_ok nmX5 hown hK hP hD hS 0 rfl rfl 5 (by decide) (hts (.fieldLink RX5 24 "FaultShrinkerLaw$Sim" "steps" "[[I") (List.mem_of_getElem? (i := 10) rfl)) (fun _ h9 => h9) rfl (by decide +kernel) rfl rfl (Nat.le_of_ble_eq_true rfl) dX5_init_38 (fun H locs hP hD hS => ?_)
  have hP : va_P G.1 vwCl ([(z, .inr (5, [.ref q6, .ref q13, .ref q21, .ref q28, .int (nI 0), .ref q35, .int (nI 0), .null, .null])), (q35, .inl (gr, 0, .inr (.inr (.inr (.inr (fun _ => none))))))] ++ va_pl (R ++ L_4) f_4) _ := hP
  have hD : va_D A ([(z, .inr (5, [.ref q6, .ref q13, .ref q21, .ref q28, .int (nI 0), .ref q35, .int (nI 0), .null, .null])), (q35, .inl (gr, 0, .inr (.inr (.inr (.inr (fun _ => none))))))] ++ va_pl (R ++ L_4) f_4) := hD
  obtain ⟨hP, hD, hx_5, hmF, heF⟩ := p_frz (X := [(z, .inr (5, [.ref q6, .ref q13, .ref q21, .ref q28, .int (nI 0), .ref q35, .int (nI 0), .null, .null]))]) (RR := R) (L := L_4) (f := f_4) hP hD
  obtain ⟨L_5, f_5, hLF, hfF⟩ : ∃ L9 f9, L9 = L_4 ++ [q35] ∧ f9 = va_up f_4 q35 (.inl (gr, 0, .inr (.inr (.inr (.inr (fun _ => none)))))) := ⟨_, _, rfl, rfl⟩
  rw [← hLF, ← hfF] at hP hD hx_5
  rw [← hLF] at hmF
  rw [← hfF] at heF
  have hi4 : fR gr L_5 f_5 q35 0 (fun _ => 0) := ⟨hmF, _, heF, (fun j hj => absurd hj (Nat.not_lt_zero j))⟩
  clear hmF heF hLF hfF
  have hi0 := hi0.mono hx_5
  have hi1 := hi1.mono hx_5
  have hi2 := hi2.mono hx_5
  have hi3 := hi3.mono hx_5
  have hP : va_P G.1 vwCl ([(z, .inr (5, [.ref q6, .ref q13, .ref q21, .ref q28, .int (nI 0), .ref q35, .int (nI 0), .null, .null]))] ++ va_pl (R ++ L_5) f_5) _ := hP
  have hD : va_D A ([(z, .inr (5, [.ref q6, .ref q13, .ref q21, .ref q28, .int (nI 0), .ref q35, .int (nI 0), .null, .null]))] ++ va_pl (R ++ L_5) f_5) := hD
  refine lv_aload_n hx hb dX5_init_41 rfl (lv_at hl 0 rfl) ?_
  refine lv_iconst (v := nI 0) hx hb dX5_init_42 (by decide +kernel) ?_
  refine p_newR hx hb hown (hts (.classLink RX5 13 "[I") (List.mem_of_getElem? (i := 6) rfl)) hQ hP hD hS hA (N' := 0) rfl (by omega) (by first | omega | (dsimp only; omega)) (by first | omega | (dsimp only; omega)) dX5_init_43 (fun q43 H hP hD hS => ?_)
  have hP : va_P G.1 vwCl ([(z, .inr (5, [.ref q6, .ref q13, .ref q21, .ref q28, .int (nI 0), .ref q35, .int (nI 0), .null, .null])), (q43, .inl (gr, 0, .inr (.inr (.inr (.inr (fun _ => none))))))] ++ va_pl (R ++ L_5) f_5) _ := hP
  have hD : va_D A ([(z, .inr (5, [.ref q6, .ref q13, .ref q21, .ref q28, .int (nI 0), .ref q35, .int (nI 0), .null, .null])), (q43, .inl (gr, 0, .inr (.inr (.inr (.inr (fun _ => none))))))] ++ va_pl (R ++ L_5) f_5) := hD
  refine va_put (D := G.1) (ci := 5) (v := .ref q43) (ty := .array (.array .int)) (C := RX5) (T := TX5) (N := 9) hx hb hts hin5 tyX5 tyX5_ok nmX5 hown hK hP hD hS 0 rfl rfl 7 (by decide) (hts (.fieldLink RX5 27 "FaultShrinkerLaw$Sim" "seen" "[[I") (List.mem_of_getElem? (i := 11) rfl)) (fun _ h9 => h9) rfl (by decide +kernel) rfl rfl (Nat.le_of_ble_eq_true rfl) dX5_init_46 (fun H locs hP hD hS => ?_)
  have hP : va_P G.1 vwCl ([(z, .inr (5, [.ref q6, .ref q13, .ref q21, .ref q28, .int (nI 0), .ref q35, .int (nI 0), .ref q43, .null])), (q43, .inl (gr, 0, .inr (.inr (.inr (.inr (fun _ => none))))))] ++ va_pl (R ++ L_5) f_5) _ := hP
  have hD : va_D A ([(z, .inr (5, [.ref q6, .ref q13, .ref q21, .ref q28, .int (nI 0), .ref q35, .int (nI 0), .ref q43, .null])), (q43, .inl (gr, 0, .inr (.inr (.inr (.inr (fun _ => none))))))] ++ va_pl (R ++ L_5) f_5) := hD
  obtain ⟨hP, hD, hx_6, hmF, heF⟩ := p_frz (X := [(z, .inr (5, [.ref q6, .ref q13, .ref q21, .ref q28, .int (nI 0), .ref q35, .int (nI 0), .ref q43, .null]))]) (RR := R) (L := L_5) (f := f_5) hP hD
  obtain ⟨L_6, f_6, hLF, hfF⟩ : ∃ L9 f9, L9 = L_5 ++ [q43] ∧ f9 = va_up f_5 q43 (.inl (gr, 0, .inr (.inr (.inr (.inr (fun _ => none)))))) := ⟨_, _, rfl, rfl⟩
  rw [← hLF, ← hfF] at hP hD hx_6
  rw [← hLF] at hmF
  rw [← hfF] at heF
  have hi5 : fR gr L_6 f_6 q43 0 (fun _ => 0) := ⟨hmF, _, heF, (fun j hj => absurd hj (Nat.not_lt_zero j))⟩
  clear hmF heF hLF hfF
  have hi0 := hi0.mono hx_6
  have hi1 := hi1.mono hx_6
  have hi2 := hi2.mono hx_6
  have hi3 := hi3.mono hx_6
  have hi4 := hi4.mono hx_6
  have hP : va_P G.1 vwCl ([(z, .inr (5, [.ref q6, .ref q13, .ref q21, .ref q28, .int (nI 0), .ref q35, .int (nI 0), .ref q43, .null]))] ++ va_pl (R ++ L_6) f_6) _ := hP
  have hD : va_D A ([(z, .inr (5, [.ref q6, .ref q13, .ref q21, .ref q28, .int (nI 0), .ref q35, .int (nI 0), .ref q43, .null]))] ++ va_pl (R ++ L_6) f_6) := hD
  refine lv_aload_n hx hb dX5_init_49 rfl (lv_at hl 0 rfl) ?_
  refine lv_iconst (v := nI 0) hx hb dX5_init_50 (by decide +kernel) ?_
  refine p_newR hx hb hown (hts (.classLink RX5 13 "[I") (List.mem_of_getElem? (i := 6) rfl)) hQ hP hD hS hA (N' := 0) rfl (by omega) (by first | omega | (dsimp only; omega)) (by first | omega | (dsimp only; omega)) dX5_init_51 (fun q51 H hP hD hS => ?_)
  have hP : va_P G.1 vwCl ([(z, .inr (5, [.ref q6, .ref q13, .ref q21, .ref q28, .int (nI 0), .ref q35, .int (nI 0), .ref q43, .null])), (q51, .inl (gr, 0, .inr (.inr (.inr (.inr (fun _ => none))))))] ++ va_pl (R ++ L_6) f_6) _ := hP
  have hD : va_D A ([(z, .inr (5, [.ref q6, .ref q13, .ref q21, .ref q28, .int (nI 0), .ref q35, .int (nI 0), .ref q43, .null])), (q51, .inl (gr, 0, .inr (.inr (.inr (.inr (fun _ => none))))))] ++ va_pl (R ++ L_6) f_6) := hD
  refine va_put (D := G.1) (ci := 5) (v := .ref q51) (ty := .array (.array .int)) (C := RX5) (T := TX5) (N := 9) hx hb hts hin5 tyX5 tyX5_ok nmX5 hown hK hP hD hS 0 rfl rfl 8 (by decide) (hts (.fieldLink RX5 30 "FaultShrinkerLaw$Sim" "made" "[[I") (List.mem_of_getElem? (i := 12) rfl)) (fun _ h9 => h9) rfl (by decide +kernel) rfl rfl (Nat.le_of_ble_eq_true rfl) dX5_init_54 (fun H locs hP hD hS => ?_)
  have hP : va_P G.1 vwCl ([(z, .inr (5, [.ref q6, .ref q13, .ref q21, .ref q28, .int (nI 0), .ref q35, .int (nI 0), .ref q43, .ref q51])), (q51, .inl (gr, 0, .inr (.inr (.inr (.inr (fun _ => none))))))] ++ va_pl (R ++ L_6) f_6) _ := hP
  have hD : va_D A ([(z, .inr (5, [.ref q6, .ref q13, .ref q21, .ref q28, .int (nI 0), .ref q35, .int (nI 0), .ref q43, .ref q51])), (q51, .inl (gr, 0, .inr (.inr (.inr (.inr (fun _ => none))))))] ++ va_pl (R ++ L_6) f_6) := hD
  obtain ⟨hP, hD, hx_7, hmF, heF⟩ := p_frz (X := [(z, .inr (5, [.ref q6, .ref q13, .ref q21, .ref q28, .int (nI 0), .ref q35, .int (nI 0), .ref q43, .ref q51]))]) (RR := R) (L := L_6) (f := f_6) hP hD
  obtain ⟨L_7, f_7, hLF, hfF⟩ : ∃ L9 f9, L9 = L_6 ++ [q51] ∧ f9 = va_up f_6 q51 (.inl (gr, 0, .inr (.inr (.inr (.inr (fun _ => none)))))) := ⟨_, _, rfl, rfl⟩
  rw [← hLF, ← hfF] at hP hD hx_7
  rw [← hLF] at hmF
  rw [← hfF] at heF
  have hi6 : fR gr L_7 f_7 q51 0 (fun _ => 0) := ⟨hmF, _, heF, (fun j hj => absurd hj (Nat.not_lt_zero j))⟩
  clear hmF heF hLF hfF
  have hi0 := hi0.mono hx_7
  have hi1 := hi1.mono hx_7
  have hi2 := hi2.mono hx_7
  have hi3 := hi3.mono hx_7
  have hi4 := hi4.mono hx_7
  have hi5 := hi5.mono hx_7
  have hP : va_P G.1 vwCl ([(z, .inr (5, [.ref q6, .ref q13, .ref q21, .ref q28, .int (nI 0), .ref q35, .int (nI 0), .ref q43, .ref q51]))] ++ va_pl (R ++ L_7) f_7) _ := hP
  have hD : va_D A ([(z, .inr (5, [.ref q6, .ref q13, .ref q21, .ref q28, .int (nI 0), .ref q35, .int (nI 0), .ref q43, .ref q51]))] ++ va_pl (R ++ L_7) f_7) := hD
  refine W.widen (k := 7) (n := 0) (by first | omega | (dsimp only; omega)) (by first | omega | (dsimp only; omega)) ?_
  exact cs_vret hx hb hr hlocks hK hP hD hS (((L_7, f_7), (fun i9 => [q6, q13, q21, q28, q35, q43, q51].getD i9 0))) (⟨((((((hx_1.trans hx_2).trans hx_3).trans hx_4).trans hx_5).trans hx_6).trans hx_7), hi0, hi1, hi2, hi3, hi4⟩) (rfl) dX5_init_57

set_option maxHeartbeats 4000000 in
set_option maxRecDepth 100000 in
theorem c_L_below (l : Launch) (G : cG) (gr : ClassId) (sa : Nat → Nat) (R L : List Nat) (f : Nat → va_E) (v : Int32) (n9 : Nat) (h0 : 0 < n9) (hn9 : n9 < 2 ^ 31) : pMI l G gr sa yL_below wsL_below ({ frames := 0, cells := 0, slots := 0, locals := 0 }) [.int v, .int (nI n9)] (([] : va_W) ++ va_pl (R ++ L) f) (fun (r_ : Int32) (_ : Unit) => ∃ w, w < n9 ∧ r_ = nI w ∧ ∀ a, a < 2147483648 → v = nI a → w = a % n9) (fun (u : Unit) => (([] : va_W) ++ va_pl (R ++ L) f)) := by
  refine ps_I (own := RL) (cc := cL_below) (maxL := 2) (ret := (some .int)) (by decide) rfl rfl (Nat.le_of_ble_eq_true rfl) ?_
  intro p e s m below meth c A hZ hN hQ hx hb hr hml hts hown hlocks hinit hA hK hP hD hS ls hl
  have hl : lv_has ls 2 [(0, .int v), (1, .int (nI n9))] := hl
  refine lv_iload_n hx hb dL_below_0 rfl (lv_at hl 0 rfl) ?_
  refine lv_ldc (v := (2147483647)) hx hb hown (hts (.constant RL 7 (2147483647)) (List.mem_of_getElem? (i := 1) rfl)) dL_below_1 ?_
  refine cs_i (y := nI 2147483647) (fa_lit 2147483647) ?_
  refine lv_iand hx hb dL_below_3 ?_
  refine cs_i (y := nI (v.toBitVec.toNat % 2147483648)) (bl_and v) ?_
  refine lv_iload_n hx hb dL_below_4 rfl (lv_at hl 1 rfl) ?_
  refine lv_irem hx hb dL_below_5 (nI_ne0 (by omega) (by omega)) ?_
  refine cs_i (y := nI ((v.toBitVec.toNat % 2147483648) % n9)) (pk_rem (by omega) (by omega) (by omega)) ?_
  refine W.widen (k := 0) (n := 0) (by first | omega | (dsimp only; omega)) (by first | omega | (dsimp only; omega)) ?_
  exact cs_iret hx hb hr hlocks hK hP hD hS (v := nI ((v.toBitVec.toNat % 2147483648) % n9)) () (⟨_, Nat.mod_lt _ h0, rfl, fun a h1 h2 => by rw [h2, bl_nI h1]⟩) (rfl) dL_below_6

set_option maxHeartbeats 4000000 in
set_option maxRecDepth 100000 in
theorem c_L_cell (l : Launch) (G : cG) (gr : ClassId) (sa : Nat → Nat) (R L : List Nat) (f : Nat → va_E) (sc Ls : Nat) (xs : Nat → Int32) (k9 : Nat) (hL : Ls ≤ 260) (hkc : k9 < 100) : bMI l G gr sa sc Ls xs yL_cell wsL_cell ({ frames := 0, cells := 0, slots := 0, locals := 0 }) [.ref sc, .int (nI k9)] (([] : va_W) ++ va_pl (R ++ L) f) (fun (r_ : Int32) (_ : Unit) => True) (fun (u : Unit) => (([] : va_W) ++ va_pl (R ++ L) f)) := by
  refine ps_BI (own := RL) (cc := cL_cell) (maxL := 2) (ret := (some .int)) (by decide) rfl rfl (Nat.le_of_ble_eq_true rfl) ?_
  intro p e s m below meth c A hX hZ hN hQ hx hb hr hml hts hown hlocks hinit hA hK hP hD hS ls hl
  have hl : lv_has ls 2 [(0, .ref sc), (1, .int (nI k9))] := hl
  refine lv_iload_n hx hb dL_cell_0 rfl (lv_at hl 1 rfl) ?_
  refine lv_aload_n hx hb dL_cell_1 rfl (lv_at hl 0 rfl) ?_
  refine va_slen hx hb hX.1 hX.2.1 hX.2.2.1 hS dL_cell_2 ?_
  refine cs_i (y := nI Ls) rfl ?_
  refine lv_icmp_ge (tgt := 12) hx hb dL_cell_3 (by decide) (fun c_3 => ?_) (fun c_3 => ?_)
  · have c_3 := (nI_leI (by omega) (by omega)).mp c_3
    refine lv_ldc (v := (790386105)) hx hb hown (hts (.constant RL 8 (790386105)) (List.mem_of_getElem? (i := 1) rfl)) dL_cell_12 ?_
    refine cs_i (y := nI 790386105) (fa_lit 790386105) ?_
    refine lv_iload_n hx hb dL_cell_14 rfl (lv_at hl 1 rfl) ?_
    refine lv_iconst (v := nI 3) hx hb dL_cell_15 (by decide +kernel) ?_
    refine lv_iadd hx hb dL_cell_16 ?_
    refine cs_i (y := nI (k9 + 3)) (nI_add _ _) ?_
    refine lv_imul hx hb dL_cell_17 ?_
    refine cs_i (y := nI (790386105 * (k9 + 3))) (pk_mul _ _) ?_
    refine W.widen (k := 0) (n := 0) (by first | omega | (dsimp only; omega)) (by first | omega | (dsimp only; omega)) ?_
    exact cs_iret hx hb hr hlocks hK hP hD hS (v := nI (790386105 * (k9 + 3))) () (trivial) (rfl) dL_cell_18
  · have c_3 := mt (nI_leI (by omega) (by omega)).mpr c_3
    refine lv_aload_n hx hb dL_cell_6 rfl (lv_at hl 0 rfl) ?_
    refine lv_iload_n hx hb dL_cell_7 rfl (lv_at hl 1 rfl) ?_
    refine va_sld hx hb hX.1 hX.2.1 hX.2.2.1 hS (p_in (by omega) (by omega)) dL_cell_8 ?_
    refine lv_goto (tgt := 18) hx hb dL_cell_9 (by decide) ?_
    refine W.widen (k := 0) (n := 0) (by first | omega | (dsimp only; omega)) (by first | omega | (dsimp only; omega)) ?_
    exact cs_iret hx hb hr hlocks hK hP hD hS (v := xs (nI k9).toNatClampNeg) () (trivial) (rfl) dL_cell_18
