set_option maxRecDepth 100000 in
theorem in5_X5_search : ∀ w ∈ wsX50, w ∈ wsX5_search := by decide +kernel
set_option maxHeartbeats 4000000 in
set_option maxRecDepth 100000 in
theorem c_X5_search (l : Launch) (G : cG) (gr : ClassId) (sa : Nat → Nat) (R L : List Nat) (f : Nat → va_E) (z ak ar al alk ast asn amd td aa : Nat) (n rc : Nat) (k ne sp : Nat → Nat) (hn : n ≤ 24) (hk : ∀ j, j < n → k j < 16) (hrc : rc ≤ 6) (hne : ∀ j, j < 6 → ne j < 65536) (hsp : ∀ j, j < 6 → sp j < 65536) (hdj : ∀ j, j < 6 → ne j &&& sp j = 0) (hsim : simK G gr R L f ak ar n k rc ne sp) (d2 n2 : Nat) (K2 : List Nat) (F2 : List Int32) (hR : hal (spl k ne sp n rc) (2 ^ n - 1) = (d2, n2, K2, F2)) : pMR l G gr sa yX5_search wsX5_search ({ frames := 140, cells := 4200, slots := 103600, locals := 5300 }) [.ref z] ([(z, .inr (5, [.ref ak, .ref ar, .ref al, .ref alk, .int (nI td), .ref ast, .int (nI aa), .ref asn, .ref amd]))] ++ va_pl (R ++ L) f) (fun (r_ : Nat) (u : (List Nat × (Nat → va_E)) × Nat × Nat) => pX R L f u.1.1 u.1.2 ∧ dI G u.1.1 u.1.2 r_ d2 ∧ sK G gr u.1.1 u.1.2 u.2.1 K2 ∧ sF G gr u.1.1 u.1.2 u.2.2 F2) (fun (u : (List Nat × (Nat → va_E)) × Nat × Nat) => ([(z, .inr (5, [.ref ak, .ref ar, .ref al, .ref alk, .int (nI td), .ref ast, .int (nI aa), .ref u.2.1, .ref u.2.2]))] ++ va_pl (R ++ u.1.1) u.1.2)) := by
  refine ps_R (own := RX5) (cc := cX5_search) (maxL := 2) (ret := (some (.array .int))) (by decide) rfl rfl (Nat.le_of_ble_eq_true rfl) ?_
  intro p e s m below meth c A hZ hN hQ hx hb hr hml hts hown hlocks hinit hA hK hP hD hS ls hl
  have hin5 := in5_X5_search
  have hl : lv_has ls 2 [(0, .ref z)] := hl
  have hp24 := two_pow24 hn
  have hcw : cnt (2 ^ n - 1) 24 = n := by rw [cnt_whole]; omega
  obtain ⟨hb1, hb2, hb3, hb4, hb5⟩ := hal_rm hn hR
  have hl1 : (lk [] (2 ^ n - 1)).length = 1 := by rw [lk_nil]; rfl
  have ht1 : tri (lk [] (2 ^ n - 1)).length = 1 := by rw [hl1]; rfl
  have hz0 : ([] : List Nat).length = 0 := rfl
  refine lv_aload_n hx hb dX5_search_0 rfl (lv_at hl 0 rfl) ?_
  refine lv_iconst (v := nI 0) hx hb dX5_search_1 (by decide +kernel) ?_
  refine p_newR hx hb hown (hts (.classLink RX5 13 "[I") (List.mem_of_getElem? (i := 1) rfl)) hQ hP hD hS hA (N' := 0) rfl (by omega) (by first | omega | (dsimp only; omega)) (by first | omega | (dsimp only; omega)) dX5_search_2 (fun q2 H hP hD hS => ?_)
  have hP : va_P G.1 vwCl ([(z, .inr (5, [.ref ak, .ref ar, .ref al, .ref alk, .int (nI td), .ref ast, .int (nI aa), .ref asn, .ref amd])), (q2, .inl (gr, 0, .inr (.inr (.inr (.inr (fun _ => none))))))] ++ va_pl (R ++ L) f) _ := hP
  have hD : va_D A ([(z, .inr (5, [.ref ak, .ref ar, .ref al, .ref alk, .int (nI td), .ref ast, .int (nI aa), .ref asn, .ref amd])), (q2, .inl (gr, 0, .inr (.inr (.inr (.inr (fun _ => none))))))] ++ va_pl (R ++ L) f) := hD
  refine va_put (D := G.1) (ci := 5) (v := .ref q2) (ty := .array (.array .int)) (C := RX5) (T := TX5) (N := 9) hx hb hts hin5 tyX5 tyX5_ok nmX5 hown hK hP hD hS 0 rfl rfl 7 (by decide) (hts (.fieldLink RX5 27 "FaultShrinkerLaw$Sim" "seen" "[[I") (List.mem_of_getElem? (i := 2) rfl)) (fun _ h9 => h9) rfl (by decide +kernel) rfl rfl (Nat.le_of_ble_eq_true rfl) dX5_search_5 (fun H locs hP hD hS => ?_)
  have hP : va_P G.1 vwCl ([(z, .inr (5, [.ref ak, .ref ar, .ref al, .ref alk, .int (nI td), .ref ast, .int (nI aa), .ref q2, .ref amd])), (q2, .inl (gr, 0, .inr (.inr (.inr (.inr (fun _ => none))))))] ++ va_pl (R ++ L) f) _ := hP
  have hD : va_D A ([(z, .inr (5, [.ref ak, .ref ar, .ref al, .ref alk, .int (nI td), .ref ast, .int (nI aa), .ref q2, .ref amd])), (q2, .inl (gr, 0, .inr (.inr (.inr (.inr (fun _ => none))))))] ++ va_pl (R ++ L) f) := hD
  obtain ⟨hP, hD, hx_1, hmF, heF⟩ := p_frz (X := [(z, .inr (5, [.ref ak, .ref ar, .ref al, .ref alk, .int (nI td), .ref ast, .int (nI aa), .ref q2, .ref amd]))]) (RR := R) (L := L) (f := f) hP hD
  obtain ⟨L_1, f_1, hLF, hfF⟩ : ∃ L9 f9, L9 = L ++ [q2] ∧ f9 = va_up f q2 (.inl (gr, 0, .inr (.inr (.inr (.inr (fun _ => none)))))) := ⟨_, _, rfl, rfl⟩
  rw [← hLF, ← hfF] at hP hD hx_1
  rw [← hLF] at hmF
  rw [← hfF] at heF
  have hs0 : fR gr L_1 f_1 q2 0 (fun _ => 0) := ⟨hmF, _, heF, (fun j hj => absurd hj (Nat.not_lt_zero j))⟩
  clear hmF heF hLF hfF
  have hsim := hsim.mono hx_1
  have hP : va_P G.1 vwCl ([(z, .inr (5, [.ref ak, .ref ar, .ref al, .ref alk, .int (nI td), .ref ast, .int (nI aa), .ref q2, .ref amd]))] ++ va_pl (R ++ L_1) f_1) _ := hP
  have hD : va_D A ([(z, .inr (5, [.ref ak, .ref ar, .ref al, .ref alk, .int (nI td), .ref ast, .int (nI aa), .ref q2, .ref amd]))] ++ va_pl (R ++ L_1) f_1) := hD
  have hsK0 : sK G gr L_1 f_1 q2 [] := ⟨_, hs0, fun j h => absurd h (Nat.not_lt_zero j)⟩
  refine lv_aload_n hx hb dX5_search_8 rfl (lv_at hl 0 rfl) ?_
  refine lv_iconst (v := nI 0) hx hb dX5_search_9 (by decide +kernel) ?_
  refine p_newR hx hb hown (hts (.classLink RX5 13 "[I") (List.mem_of_getElem? (i := 1) rfl)) hQ hP hD hS hA (N' := 0) rfl (by omega) (by first | omega | (dsimp only; omega)) (by first | omega | (dsimp only; omega)) dX5_search_10 (fun q10 H hP hD hS => ?_)
  have hP : va_P G.1 vwCl ([(z, .inr (5, [.ref ak, .ref ar, .ref al, .ref alk, .int (nI td), .ref ast, .int (nI aa), .ref q2, .ref amd])), (q10, .inl (gr, 0, .inr (.inr (.inr (.inr (fun _ => none))))))] ++ va_pl (R ++ L_1) f_1) _ := hP
  have hD : va_D A ([(z, .inr (5, [.ref ak, .ref ar, .ref al, .ref alk, .int (nI td), .ref ast, .int (nI aa), .ref q2, .ref amd])), (q10, .inl (gr, 0, .inr (.inr (.inr (.inr (fun _ => none))))))] ++ va_pl (R ++ L_1) f_1) := hD
  refine va_put (D := G.1) (ci := 5) (v := .ref q10) (ty := .array (.array .int)) (C := RX5) (T := TX5) (N := 9) hx hb hts hin5 tyX5 tyX5_ok nmX5 hown hK hP hD hS 0 rfl rfl 8 (by decide) (hts (.fieldLink RX5 30 "FaultShrinkerLaw$Sim" "made" "[[I") (List.mem_of_getElem? (i := 3) rfl)) (fun _ h9 => h9) rfl (by decide +kernel) rfl rfl (Nat.le_of_ble_eq_true rfl) dX5_search_13 (fun H locs hP hD hS => ?_)
  have hP : va_P G.1 vwCl ([(z, .inr (5, [.ref ak, .ref ar, .ref al, .ref alk, .int (nI td), .ref ast, .int (nI aa), .ref q2, .ref q10])), (q10, .inl (gr, 0, .inr (.inr (.inr (.inr (fun _ => none))))))] ++ va_pl (R ++ L_1) f_1) _ := hP
  have hD : va_D A ([(z, .inr (5, [.ref ak, .ref ar, .ref al, .ref alk, .int (nI td), .ref ast, .int (nI aa), .ref q2, .ref q10])), (q10, .inl (gr, 0, .inr (.inr (.inr (.inr (fun _ => none))))))] ++ va_pl (R ++ L_1) f_1) := hD
  obtain ⟨hP, hD, hx_2, hmF, heF⟩ := p_frz (X := [(z, .inr (5, [.ref ak, .ref ar, .ref al, .ref alk, .int (nI td), .ref ast, .int (nI aa), .ref q2, .ref q10]))]) (RR := R) (L := L_1) (f := f_1) hP hD
  obtain ⟨L_2, f_2, hLF, hfF⟩ : ∃ L9 f9, L9 = L_1 ++ [q10] ∧ f9 = va_up f_1 q10 (.inl (gr, 0, .inr (.inr (.inr (.inr (fun _ => none)))))) := ⟨_, _, rfl, rfl⟩
  rw [← hLF, ← hfF] at hP hD hx_2
  rw [← hLF] at hmF
  rw [← hfF] at heF
  have hs1 : fR gr L_2 f_2 q10 0 (fun _ => 0) := ⟨hmF, _, heF, (fun j hj => absurd hj (Nat.not_lt_zero j))⟩
  clear hmF heF hLF hfF
  have hsim := hsim.mono hx_2
  have hsK0 := hsK0.mono hx_2
  have hP : va_P G.1 vwCl ([(z, .inr (5, [.ref ak, .ref ar, .ref al, .ref alk, .int (nI td), .ref ast, .int (nI aa), .ref q2, .ref q10]))] ++ va_pl (R ++ L_2) f_2) _ := hP
  have hD : va_D A ([(z, .inr (5, [.ref ak, .ref ar, .ref al, .ref alk, .int (nI td), .ref ast, .int (nI aa), .ref q2, .ref q10]))] ++ va_pl (R ++ L_2) f_2) := hD
  have hsF0 : sF G gr L_2 f_2 q10 [] := ⟨_, hs1, fun j h => absurd h (Nat.not_lt_zero j)⟩
  refine lv_iconst (v := nI 0) hx hb dX5_search_16 (by decide +kernel) ?_
  refine p_newI hx hb (hts (.arrayClass .int) (List.mem_of_getElem? (i := 4) rfl)) hK hP hD hS hA (N' := 0) rfl (by omega) (by first | omega | (dsimp only; omega)) (by first | omega | (dsimp only; omega)) dX5_search_17 (fun q17 H hP hD hS => ?_)
  have hP : va_P G.1 vwCl ([(z, .inr (5, [.ref ak, .ref ar, .ref al, .ref alk, .int (nI td), .ref ast, .int (nI aa), .ref q2, .ref q10])), (q17, .inl (G.2.1, 0, .inl (nF (fun _ => 0))))] ++ va_pl (R ++ L_2) f_2) _ := hP
  have hD : va_D A ([(z, .inr (5, [.ref ak, .ref ar, .ref al, .ref alk, .int (nI td), .ref ast, .int (nI aa), .ref q2, .ref q10])), (q17, .inl (G.2.1, 0, .inl (nF (fun _ => 0))))] ++ va_pl (R ++ L_2) f_2) := hD
  obtain ⟨hP, hD, hx_3, hmF, heF⟩ := p_frz (X := [(z, .inr (5, [.ref ak, .ref ar, .ref al, .ref alk, .int (nI td), .ref ast, .int (nI aa), .ref q2, .ref q10]))]) (RR := R) (L := L_2) (f := f_2) hP hD
  obtain ⟨L_3, f_3, hLF, hfF⟩ : ∃ L9 f9, L9 = L_2 ++ [q17] ∧ f9 = va_up f_2 q17 (.inl (G.2.1, 0, .inl (nF (fun _ => 0)))) := ⟨_, _, rfl, rfl⟩
  rw [← hLF, ← hfF] at hP hD hx_3
  rw [← hLF] at hmF
  rw [← hfF] at heF
  have hn0 : fI G L_3 f_3 q17 0 (fun _ => 0) := ⟨hmF, _, heF, (fun j hj => absurd hj (Nat.not_lt_zero j))⟩
  clear hmF heF hLF hfF
  have hsim := hsim.mono hx_3
  have hsK0 := hsK0.mono hx_3
  have hsF0 := hsF0.mono hx_3
  have hP : va_P G.1 vwCl ([(z, .inr (5, [.ref ak, .ref ar, .ref al, .ref alk, .int (nI td), .ref ast, .int (nI aa), .ref q2, .ref q10]))] ++ va_pl (R ++ L_3) f_3) _ := hP
  have hD : va_D A ([(z, .inr (5, [.ref ak, .ref ar, .ref al, .ref alk, .int (nI td), .ref ast, .int (nI aa), .ref q2, .ref q10]))] ++ va_pl (R ++ L_3) f_3) := hD
  have hdi0 : dI G L_3 f_3 q17 0 := hn0.ton (cnt_0 24).symm (fun j hj => by rw [cnt_0] at hj; exact absurd hj (Nat.not_lt_zero j))
  refine lv_astore_n (lv' := [(1, .ref q17), (0, .ref z)]) hx hb dX5_search_19 rfl hl (by decide) rfl (fun ls hl => ?_)
  refine lv_aload_n hx hb dX5_search_20 rfl (lv_at hl 1 rfl) ?_
  refine lv_aload_n hx hb dX5_search_21 rfl (lv_at hl 1 rfl) ?_
  refine p_vr (X := [(z, .inr (5, [.ref ak, .ref ar, .ref al, .ref alk, .int (nI td), .ref ast, .int (nI aa), .ref q2, .ref q10]))]) (cx := [(z, .inr (5, [.ref ak, .ref ar, .ref al, .ref alk, .int (nI td), .ref ast, .int (nI aa), .ref q2, .ref q10]))]) (As := []) (rest := [.ref z]) (wr := ([] : va_W)) ⟨hx, hb, hml, hown, hts⟩ hK hQ hP hD hS hA hZ hN (c_X5_whole l G gr sa R L_3 f_3 z ak ar al alk ast q2 q10 td aa n rc k ne sp (by first | assumption | omega) (by first | assumption | omega) (by first | assumption | omega) (by first | assumption | omega) (by first | assumption | omega) (by first | assumption | omega) (by first | assumption | omega)) (cwV 0 hts gX5_search_X5_whole rfl rfl rfl (by decide +kernel) ⟨by first | omega | (dsimp only; omega), by first | omega | (dsimp only; omega)⟩) [0] [] ⟨rfl, rfl, by decide, by decide, by decide⟩ 0 5 rfl rfl rfl hl.1 rfl (Nat.le_of_ble_eq_true rfl) ⟨by first | omega | (dsimp only; omega), by first | omega | (dsimp only; omega)⟩ dX5_search_22 (fun cw1 u_4 H locs hw hP hD hS => ?_)
  obtain ⟨L_4, f_4⟩ := u_4
  try dsimp only at hw
  have hP : va_P G.1 vwCl ([(z, .inr (5, [.ref ak, .ref ar, .ref al, .ref alk, .int (nI td), .ref ast, .int (nI aa), .ref q2, .ref q10]))] ++ va_pl (R ++ L_4) f_4) H := hP
  have hD : va_D A ([(z, .inr (5, [.ref ak, .ref ar, .ref al, .ref alk, .int (nI td), .ref ast, .int (nI aa), .ref q2, .ref q10]))] ++ va_pl (R ++ L_4) f_4) := hD
  obtain ⟨hx_4, hr_4⟩ := hw
  have hsim := hsim.mono hx_4
  have hsK0 := hsK0.mono hx_4
  have hsF0 := hsF0.mono hx_4
  have hdi0 := hdi0.mono hx_4
  refine p_vi (X := [(z, .inr (5, [.ref ak, .ref ar, .ref al, .ref alk, .int (nI td), .ref ast, .int (nI aa), .ref q2, .ref q10]))]) (cx := [(z, .inr (5, [.ref ak, .ref ar, .ref al, .ref alk, .int (nI td), .ref ast, .int (nI aa), .ref q2, .ref q10]))]) (As := [.ref cw1]) (rest := []) (wr := ([] : va_W)) ⟨hx, hb, hml, hown, hts⟩ hK hQ hP hD hS hA hZ hN (c_X5_taste l G gr sa R L_4 f_4 z ak ar al alk ast q2 q10 td aa n rc k ne sp (by first | assumption | omega) (by first | assumption | omega) (by first | assumption | omega) (by first | assumption | omega) (by first | assumption | omega) (by first | assumption | omega) (by first | assumption | omega) cw1 (2 ^ n - 1) ([] : List Nat) (by omega) (hr_4) (by show 0 < 2000; omega) (hsK0) (KD_nil)) (cwV 1 hts gX5_search_X5_taste rfl rfl rfl (by decide +kernel) ⟨by first | omega | (dsimp only; omega), by first | omega | (dsimp only; omega)⟩) [0] [] ⟨rfl, rfl, by decide, by decide, by decide⟩ 0 5 rfl rfl rfl hl.1 rfl (Nat.le_of_ble_eq_true rfl) ⟨by first | omega | (dsimp only; omega), by first | omega | (dsimp only; omega)⟩ dX5_search_25 (fun r u_5 H locs hw hP hD hS => ?_)
  obtain ⟨⟨L_5, f_5⟩, an_5⟩ := u_5
  try dsimp only at hw
  have hP : va_P G.1 vwCl ([(z, .inr (5, [.ref ak, .ref ar, .ref al, .ref alk, .int (nI td), .ref ast, .int (nI aa), .ref an_5, .ref q10]))] ++ va_pl (R ++ L_5) f_5) H := hP
  have hD : va_D A ([(z, .inr (5, [.ref ak, .ref ar, .ref al, .ref alk, .int (nI td), .ref ast, .int (nI aa), .ref an_5, .ref q10]))] ++ va_pl (R ++ L_5) f_5) := hD
  obtain ⟨hx_5, hw, hsN_5⟩ := hw
  subst hw
  have hsim := hsim.mono hx_5
  have hsK0 := hsK0.mono hx_5
  have hsF0 := hsF0.mono hx_5
  have hdi0 := hdi0.mono hx_5
  have hr_4 := hr_4.mono hx_5
  rw [lk_nil] at hsN_5
  refine lv_if_eq (tgt := 43) hx hb dX5_search_28 (by decide) (fun c_28 => ?_) (fun c_28 => ?_)
  · have c_28 := bI_0 c_28
    rw [hal_f c_28] at hR
    cases hR
    refine lv_aload_n hx hb dX5_search_43 rfl (lv_at hl 0 rfl) ?_
    refine W.widen (k := 4200) (n := 103600) (by first | omega | (dsimp only; omega)) (by first | omega | (dsimp only; omega)) ?_
    exact p_aret (rt := .array .int) hx hb hr ⟨.int, rfl⟩ hlocks hK hP hD hS (v := q17) ((L_5, f_5), an_5, q10) (⟨((((hx_1.trans hx_2).trans hx_3).trans hx_4).trans hx_5), hdi0, hsN_5, hsF0⟩) (rfl) dX5_search_44
  · have c_28 := bI_n0 c_28
    obtain ⟨hI9, hmu9, hr9⟩ := hal_m (w := 2 ^ n - 1) (by omega) c_28 hR
    have hpsi := psi_top (cnt (2 ^ n - 1) 24) (by omega)
    have hphi := hph_num4 (cnt (2 ^ n - 1) 24) (by omega)
    refine lv_aload_n hx hb dX5_search_31 rfl (lv_at hl 1 rfl) ?_
    refine lv_aload_n hx hb dX5_search_32 rfl (lv_at hl 1 rfl) ?_
    refine p_vr (X := [(z, .inr (5, [.ref ak, .ref ar, .ref al, .ref alk, .int (nI td), .ref ast, .int (nI aa), .ref an_5, .ref q10]))]) (cx := [(z, .inr (5, [.ref ak, .ref ar, .ref al, .ref alk, .int (nI td), .ref ast, .int (nI aa), .ref an_5, .ref q10]))]) (As := []) (rest := [.ref z]) (wr := ([] : va_W)) ⟨hx, hb, hml, hown, hts⟩ hK hQ hP hD hS hA hZ hN (c_X5_whole l G gr sa R L_5 f_5 z ak ar al alk ast an_5 q10 td aa n rc k ne sp (by first | assumption | omega) (by first | assumption | omega) (by first | assumption | omega) (by first | assumption | omega) (by first | assumption | omega) (by first | assumption | omega) (by first | assumption | omega)) (cwV 0 hts gX5_search_X5_whole rfl rfl rfl (by decide +kernel) ⟨by first | omega | (dsimp only; omega), by first | omega | (dsimp only; omega)⟩) [0] [] ⟨rfl, rfl, by decide, by decide, by decide⟩ 0 5 rfl rfl rfl hl.1 rfl (Nat.le_of_ble_eq_true rfl) ⟨by first | omega | (dsimp only; omega), by first | omega | (dsimp only; omega)⟩ dX5_search_33 (fun cw2 u_6 H locs hw hP hD hS => ?_)
    obtain ⟨L_6, f_6⟩ := u_6
    try dsimp only at hw
    have hP : va_P G.1 vwCl ([(z, .inr (5, [.ref ak, .ref ar, .ref al, .ref alk, .int (nI td), .ref ast, .int (nI aa), .ref an_5, .ref q10]))] ++ va_pl (R ++ L_6) f_6) H := hP
    have hD : va_D A ([(z, .inr (5, [.ref ak, .ref ar, .ref al, .ref alk, .int (nI td), .ref ast, .int (nI aa), .ref an_5, .ref q10]))] ++ va_pl (R ++ L_6) f_6) := hD
    obtain ⟨hx_6, hr_6⟩ := hw
    have hsim := hsim.mono hx_6
    have hsK0 := hsK0.mono hx_6
    have hsF0 := hsF0.mono hx_6
    have hdi0 := hdi0.mono hx_6
    have hr_4 := hr_4.mono hx_6
    have hsN_5 := hsN_5.mono hx_6
    refine lv_iconst (v := nI 2) hx hb dX5_search_36 (by decide +kernel) ?_
    refine p_vr (X := [(z, .inr (5, [.ref ak, .ref ar, .ref al, .ref alk, .int (nI td), .ref ast, .int (nI aa), .ref an_5, .ref q10]))]) (cx := [(z, .inr (5, [.ref ak, .ref ar, .ref al, .ref alk, .int (nI td), .ref ast, .int (nI aa), .ref an_5, .ref q10]))]) (As := [.ref cw2, .int (nI 2)]) (rest := []) (wr := ([] : va_W)) ⟨hx, hb, hml, hown, hts⟩ hK hQ hP hD hS hA hZ hN (c_X5_halve l G gr sa R L_6 f_6 128 z ak ar al alk ast an_5 q10 td aa n rc k ne sp (by first | assumption | omega) (by first | assumption | omega) (by first | assumption | omega) (by first | assumption | omega) (by first | assumption | omega) (by first | assumption | omega) (by first | assumption | omega) cw2 (2 ^ n - 1) 2 ([2 ^ n - 1]) ([] : List Int32) d2 n2 K2 F2 4135 103486 (by omega) (hr_6) (c_28) (hI9) (by first | assumption | omega) (rfl) (Nat.le_refl _) (hsN_5) (KD_one (by omega)) (hsF0) (hr9) (by omega) (by omega)) (cwV 2 hts gX5_search_X5_halve rfl rfl rfl (by decide +kernel) ⟨by first | omega | (dsimp only; omega), by first | omega | (dsimp only; omega)⟩) [0] [] ⟨rfl, rfl, by decide, by decide, by decide⟩ 0 5 rfl rfl rfl hl.1 rfl (Nat.le_of_ble_eq_true rfl) ⟨by first | omega | (dsimp only; omega), by first | omega | (dsimp only; omega)⟩ dX5_search_37 (fun cr u_7 H locs hw hP hD hS => ?_)
    obtain ⟨⟨L_7, f_7⟩, an_7, am_7⟩ := u_7
    try dsimp only at hw
    have hP : va_P G.1 vwCl ([(z, .inr (5, [.ref ak, .ref ar, .ref al, .ref alk, .int (nI td), .ref ast, .int (nI aa), .ref an_7, .ref am_7]))] ++ va_pl (R ++ L_7) f_7) H := hP
    have hD : va_D A ([(z, .inr (5, [.ref ak, .ref ar, .ref al, .ref alk, .int (nI td), .ref ast, .int (nI aa), .ref an_7, .ref am_7]))] ++ va_pl (R ++ L_7) f_7) := hD
    obtain ⟨hx_7, hr_7, hsK_7, hsF_7⟩ := hw
    have hsim := hsim.mono hx_7
    have hsK0 := hsK0.mono hx_7
    have hsF0 := hsF0.mono hx_7
    have hdi0 := hdi0.mono hx_7
    have hr_4 := hr_4.mono hx_7
    have hsN_5 := hsN_5.mono hx_7
    have hr_6 := hr_6.mono hx_7
    refine lv_goto (tgt := 44) hx hb dX5_search_40 (by decide) ?_
    refine W.widen (k := 4200) (n := 103600) (by first | omega | (dsimp only; omega)) (by first | omega | (dsimp only; omega)) ?_
    exact p_aret (rt := .array .int) hx hb hr ⟨.int, rfl⟩ hlocks hK hP hD hS (v := cr) ((L_7, f_7), an_7, am_7) (⟨((((((hx_1.trans hx_2).trans hx_3).trans hx_4).trans hx_5).trans hx_6).trans hx_7), hr_7, hsK_7, hsF_7⟩) (rfl) dX5_search_44

set_option maxRecDepth 100000 in
theorem in5_X5_oneByOne : ∀ w ∈ wsX50, w ∈ wsX5_oneByOne := by decide +kernel
set_option maxHeartbeats 4000000 in
set_option maxRecDepth 100000 in
theorem c_X5_oneByOne (l : Launch) (G : cG) (gr : ClassId) (sa : Nat → Nat) (R L : List Nat) (f : Nat → va_E) (z ak ar al alk ast asn amd td aa : Nat) (n rc : Nat) (k ne sp : Nat → Nat) (hn : n ≤ 24) (hk : ∀ j, j < n → k j < 16) (hrc : rc ≤ 6) (hne : ∀ j, j < 6 → ne j < 65536) (hsp : ∀ j, j < 6 → sp j < 65536) (hdj : ∀ j, j < 6 → ne j &&& sp j = 0) (hsim : simK G gr R L f ak ar n k rc ne sp) (d3 : Nat) (K3 : List Nat) (hR3 : obl (spl k ne sp n rc) (2 ^ n - 1) = (d3, K3)) : pMR l G gr sa yX5_oneByOne wsX5_oneByOne ({ frames := 4, cells := 120, slots := 1800, locals := 99 }) [.ref z] ([(z, .inr (5, [.ref ak, .ref ar, .ref al, .ref alk, .int (nI td), .ref ast, .int (nI aa), .ref asn, .ref amd]))] ++ va_pl (R ++ L) f) (fun (r_ : Nat) (u : (List Nat × (Nat → va_E)) × Nat) => pX R L f u.1.1 u.1.2 ∧ dI G u.1.1 u.1.2 r_ d3 ∧ sK G gr u.1.1 u.1.2 u.2 K3) (fun (u : (List Nat × (Nat → va_E)) × Nat) => ([(z, .inr (5, [.ref ak, .ref ar, .ref al, .ref alk, .int (nI td), .ref ast, .int (nI aa), .ref u.2, .ref amd]))] ++ va_pl (R ++ u.1.1) u.1.2)) := by
  refine ps_R (own := RX5) (cc := cX5_oneByOne) (maxL := 5) (ret := (some (.array .int))) (by decide) rfl rfl (Nat.le_of_ble_eq_true rfl) ?_
  intro p e s m below meth c A hZ hN hQ hx hb hr hml hts hown hlocks hinit hA hK hP hD hS ls hl
  have hin5 := in5_X5_oneByOne
  have hl : lv_has ls 5 [(0, .ref z)] := hl
  have hp24 := two_pow24 hn
  have hcw : cnt (2 ^ n - 1) 24 = n := by rw [cnt_whole]; omega
  have hl1 : (lk [] (2 ^ n - 1)).length = 1 := by rw [lk_nil]; rfl
  have ht1 : tri (lk [] (2 ^ n - 1)).length = 1 := by rw [hl1]; rfl
  have ht2 : tri [2 ^ n - 1].length = 1 := rfl
  have hz0 : ([] : List Nat).length = 0 := rfl
  refine lv_aload_n hx hb dX5_oneByOne_0 rfl (lv_at hl 0 rfl) ?_
  refine lv_iconst (v := nI 0) hx hb dX5_oneByOne_1 (by decide +kernel) ?_
  refine p_newR hx hb hown (hts (.classLink RX5 13 "[I") (List.mem_of_getElem? (i := 1) rfl)) hQ hP hD hS hA (N' := 0) rfl (by omega) (by first | omega | (dsimp only; omega)) (by first | omega | (dsimp only; omega)) dX5_oneByOne_2 (fun q2 H hP hD hS => ?_)
  have hP : va_P G.1 vwCl ([(z, .inr (5, [.ref ak, .ref ar, .ref al, .ref alk, .int (nI td), .ref ast, .int (nI aa), .ref asn, .ref amd])), (q2, .inl (gr, 0, .inr (.inr (.inr (.inr (fun _ => none))))))] ++ va_pl (R ++ L) f) _ := hP
  have hD : va_D A ([(z, .inr (5, [.ref ak, .ref ar, .ref al, .ref alk, .int (nI td), .ref ast, .int (nI aa), .ref asn, .ref amd])), (q2, .inl (gr, 0, .inr (.inr (.inr (.inr (fun _ => none))))))] ++ va_pl (R ++ L) f) := hD
  refine va_put (D := G.1) (ci := 5) (v := .ref q2) (ty := .array (.array .int)) (C := RX5) (T := TX5) (N := 9) hx hb hts hin5 tyX5 tyX5_ok nmX5 hown hK hP hD hS 0 rfl rfl 7 (by decide) (hts (.fieldLink RX5 27 "FaultShrinkerLaw$Sim" "seen" "[[I") (List.mem_of_getElem? (i := 2) rfl)) (fun _ h9 => h9) rfl (by decide +kernel) rfl rfl (Nat.le_of_ble_eq_true rfl) dX5_oneByOne_5 (fun H locs hP hD hS => ?_)
  have hP : va_P G.1 vwCl ([(z, .inr (5, [.ref ak, .ref ar, .ref al, .ref alk, .int (nI td), .ref ast, .int (nI aa), .ref q2, .ref amd])), (q2, .inl (gr, 0, .inr (.inr (.inr (.inr (fun _ => none))))))] ++ va_pl (R ++ L) f) _ := hP
  have hD : va_D A ([(z, .inr (5, [.ref ak, .ref ar, .ref al, .ref alk, .int (nI td), .ref ast, .int (nI aa), .ref q2, .ref amd])), (q2, .inl (gr, 0, .inr (.inr (.inr (.inr (fun _ => none))))))] ++ va_pl (R ++ L) f) := hD
  obtain ⟨hP, hD, hx_1, hmF, heF⟩ := p_frz (X := [(z, .inr (5, [.ref ak, .ref ar, .ref al, .ref alk, .int (nI td), .ref ast, .int (nI aa), .ref q2, .ref amd]))]) (RR := R) (L := L) (f := f) hP hD
  obtain ⟨L_1, f_1, hLF, hfF⟩ : ∃ L9 f9, L9 = L ++ [q2] ∧ f9 = va_up f q2 (.inl (gr, 0, .inr (.inr (.inr (.inr (fun _ => none)))))) := ⟨_, _, rfl, rfl⟩
  rw [← hLF, ← hfF] at hP hD hx_1
  rw [← hLF] at hmF
  rw [← hfF] at heF
  have hs0 : fR gr L_1 f_1 q2 0 (fun _ => 0) := ⟨hmF, _, heF, (fun j hj => absurd hj (Nat.not_lt_zero j))⟩
  clear hmF heF hLF hfF
  have hsim := hsim.mono hx_1
  have hP : va_P G.1 vwCl ([(z, .inr (5, [.ref ak, .ref ar, .ref al, .ref alk, .int (nI td), .ref ast, .int (nI aa), .ref q2, .ref amd]))] ++ va_pl (R ++ L_1) f_1) _ := hP
  have hD : va_D A ([(z, .inr (5, [.ref ak, .ref ar, .ref al, .ref alk, .int (nI td), .ref ast, .int (nI aa), .ref q2, .ref amd]))] ++ va_pl (R ++ L_1) f_1) := hD
  have hsK0 : sK G gr L_1 f_1 q2 [] := ⟨_, hs0, fun j h => absurd h (Nat.not_lt_zero j)⟩
  refine lv_aload_n hx hb dX5_oneByOne_8 rfl (lv_at hl 0 rfl) ?_
  refine p_vr (X := [(z, .inr (5, [.ref ak, .ref ar, .ref al, .ref alk, .int (nI td), .ref ast, .int (nI aa), .ref q2, .ref amd]))]) (cx := [(z, .inr (5, [.ref ak, .ref ar, .ref al, .ref alk, .int (nI td), .ref ast, .int (nI aa), .ref q2, .ref amd]))]) (As := []) (rest := []) (wr := ([] : va_W)) ⟨hx, hb, hml, hown, hts⟩ hK hQ hP hD hS hA hZ hN (c_X5_whole l G gr sa R L_1 f_1 z ak ar al alk ast q2 amd td aa n rc k ne sp (by first | assumption | omega) (by first | assumption | omega) (by first | assumption | omega) (by first | assumption | omega) (by first | assumption | omega) (by first | assumption | omega) (by first | assumption | omega)) (cwV 0 hts gX5_oneByOne_X5_whole rfl rfl rfl (by decide +kernel) ⟨Nat.le_of_ble_eq_true rfl, Nat.le_of_ble_eq_true rfl⟩) [0] [] ⟨rfl, rfl, by decide, by decide, by decide⟩ 0 5 rfl rfl rfl hl.1 rfl (Nat.le_of_ble_eq_true rfl) ⟨by first | omega | (dsimp only; omega), by first | omega | (dsimp only; omega)⟩ dX5_oneByOne_9 (fun cw1 u_2 H locs hw hP hD hS => ?_)
  obtain ⟨L_2, f_2⟩ := u_2
  try dsimp only at hw
  have hP : va_P G.1 vwCl ([(z, .inr (5, [.ref ak, .ref ar, .ref al, .ref alk, .int (nI td), .ref ast, .int (nI aa), .ref q2, .ref amd]))] ++ va_pl (R ++ L_2) f_2) H := hP
  have hD : va_D A ([(z, .inr (5, [.ref ak, .ref ar, .ref al, .ref alk, .int (nI td), .ref ast, .int (nI aa), .ref q2, .ref amd]))] ++ va_pl (R ++ L_2) f_2) := hD
  obtain ⟨hx_2, hr_2⟩ := hw
  have hsim := hsim.mono hx_2
  have hsK0 := hsK0.mono hx_2
  refine lv_astore_n (lv' := [(1, .ref cw1), (0, .ref z)]) hx hb dX5_oneByOne_12 rfl hl (by decide) rfl (fun ls hl => ?_)
  refine lv_iconst (v := nI 0) hx hb dX5_oneByOne_13 (by decide +kernel) ?_
  refine p_newI hx hb (hts (.arrayClass .int) (List.mem_of_getElem? (i := 3) rfl)) hK hP hD hS hA (N' := 0) rfl (by omega) (by first | omega | (dsimp only; omega)) (by first | omega | (dsimp only; omega)) dX5_oneByOne_14 (fun q14 H hP hD hS => ?_)
  have hP : va_P G.1 vwCl ([(z, .inr (5, [.ref ak, .ref ar, .ref al, .ref alk, .int (nI td), .ref ast, .int (nI aa), .ref q2, .ref amd])), (q14, .inl (G.2.1, 0, .inl (nF (fun _ => 0))))] ++ va_pl (R ++ L_2) f_2) _ := hP
  have hD : va_D A ([(z, .inr (5, [.ref ak, .ref ar, .ref al, .ref alk, .int (nI td), .ref ast, .int (nI aa), .ref q2, .ref amd])), (q14, .inl (G.2.1, 0, .inl (nF (fun _ => 0))))] ++ va_pl (R ++ L_2) f_2) := hD
  obtain ⟨hP, hD, hx_3, hmF, heF⟩ := p_frz (X := [(z, .inr (5, [.ref ak, .ref ar, .ref al, .ref alk, .int (nI td), .ref ast, .int (nI aa), .ref q2, .ref amd]))]) (RR := R) (L := L_2) (f := f_2) hP hD
  obtain ⟨L_3, f_3, hLF, hfF⟩ : ∃ L9 f9, L9 = L_2 ++ [q14] ∧ f9 = va_up f_2 q14 (.inl (G.2.1, 0, .inl (nF (fun _ => 0)))) := ⟨_, _, rfl, rfl⟩
  rw [← hLF, ← hfF] at hP hD hx_3
  rw [← hLF] at hmF
  rw [← hfF] at heF
  have hn0 : fI G L_3 f_3 q14 0 (fun _ => 0) := ⟨hmF, _, heF, (fun j hj => absurd hj (Nat.not_lt_zero j))⟩
  clear hmF heF hLF hfF
  have hsim := hsim.mono hx_3
  have hsK0 := hsK0.mono hx_3
  have hr_2 := hr_2.mono hx_3
  have hP : va_P G.1 vwCl ([(z, .inr (5, [.ref ak, .ref ar, .ref al, .ref alk, .int (nI td), .ref ast, .int (nI aa), .ref q2, .ref amd]))] ++ va_pl (R ++ L_3) f_3) _ := hP
  have hD : va_D A ([(z, .inr (5, [.ref ak, .ref ar, .ref al, .ref alk, .int (nI td), .ref ast, .int (nI aa), .ref q2, .ref amd]))] ++ va_pl (R ++ L_3) f_3) := hD
  have hdi0 : dI G L_3 f_3 q14 0 := hn0.ton (cnt_0 24).symm (fun j hj => by rw [cnt_0] at hj; exact absurd hj (Nat.not_lt_zero j))
  refine lv_astore_n (lv' := [(2, .ref q14), (1, .ref cw1), (0, .ref z)]) hx hb dX5_oneByOne_16 rfl hl (by decide) rfl (fun ls hl => ?_)
  refine lv_aload_n hx hb dX5_oneByOne_17 rfl (lv_at hl 2 rfl) ?_
  refine lv_aload_n hx hb dX5_oneByOne_18 rfl (lv_at hl 1 rfl) ?_
  refine p_vi (X := [(z, .inr (5, [.ref ak, .ref ar, .ref al, .ref alk, .int (nI td), .ref ast, .int (nI aa), .ref q2, .ref amd]))]) (cx := [(z, .inr (5, [.ref ak, .ref ar, .ref al, .ref alk, .int (nI td), .ref ast, .int (nI aa), .ref q2, .ref amd]))]) (As := [.ref cw1]) (rest := []) (wr := ([] : va_W)) ⟨hx, hb, hml, hown, hts⟩ hK hQ hP hD hS hA hZ hN (c_X5_taste l G gr sa R L_3 f_3 z ak ar al alk ast q2 amd td aa n rc k ne sp (by first | assumption | omega) (by first | assumption | omega) (by first | assumption | omega) (by first | assumption | omega) (by first | assumption | omega) (by first | assumption | omega) (by first | assumption | omega) cw1 (2 ^ n - 1) ([] : List Nat) (by omega) (hr_2) (by show 0 < 2000; omega) (hsK0) (KD_nil)) (cwV 1 hts gX5_oneByOne_X5_taste rfl rfl rfl (by decide +kernel) ⟨Nat.le_of_ble_eq_true rfl, Nat.le_of_ble_eq_true rfl⟩) [0] [] ⟨rfl, rfl, by decide, by decide, by decide⟩ 0 5 rfl rfl rfl hl.1 rfl (Nat.le_of_ble_eq_true rfl) ⟨by first | omega | (dsimp only; omega), by first | omega | (dsimp only; omega)⟩ dX5_oneByOne_19 (fun r u_4 H locs hw hP hD hS => ?_)
  obtain ⟨⟨L_4, f_4⟩, an_4⟩ := u_4
  try dsimp only at hw
  have hP : va_P G.1 vwCl ([(z, .inr (5, [.ref ak, .ref ar, .ref al, .ref alk, .int (nI td), .ref ast, .int (nI aa), .ref an_4, .ref amd]))] ++ va_pl (R ++ L_4) f_4) H := hP
  have hD : va_D A ([(z, .inr (5, [.ref ak, .ref ar, .ref al, .ref alk, .int (nI td), .ref ast, .int (nI aa), .ref an_4, .ref amd]))] ++ va_pl (R ++ L_4) f_4) := hD
  obtain ⟨hx_4, hw, hsN_4⟩ := hw
  subst hw
  have hsim := hsim.mono hx_4
  have hsK0 := hsK0.mono hx_4
  have hr_2 := hr_2.mono hx_4
  have hdi0 := hdi0.mono hx_4
  rw [lk_nil] at hsN_4
  refine lv_if_ne (tgt := 27) hx hb dX5_oneByOne_22 (by decide) (fun c_22 => ?_) (fun c_22 => ?_)
  · have c_22 := bI_n0 c_22
    refine lv_aload_n hx hb dX5_oneByOne_27 rfl (lv_at hl 1 rfl) ?_
    refine p_ilen hx hb hK hP (hr_2.l R) dX5_oneByOne_28 ?_
    refine lv_iconst (v := nI 1) hx hb dX5_oneByOne_29 (by decide +kernel) ?_
    refine lv_isub hx hb dX5_oneByOne_30 ?_
    refine cs_i (y := pI n) (by rw [hcw]; exact pI_sub hn) ?_
    refine lv_istore_n (lv' := [(3, .int (pI n)), (2, .ref q14), (1, .ref cw1), (0, .ref z)]) hx hb dX5_oneByOne_31 rfl hl (by decide) rfl (fun ls hl => ?_)
    refine p_loop (G := G) (nL := 5) (σ := Nat × Nat × List Nat × List Nat × (Nat → va_E) × Nat × Nat) (fun x_9 : Nat × Nat × List Nat × List Nat × (Nat → va_E) × Nat × Nat => match x_9 with | (i, d1, K1, Li, fi, ai, ci) => i) (fun x_9 : Nat × Nat × List Nat × List Nat × (Nat → va_E) × Nat × Nat => match x_9 with | (i, d1, K1, Li, fi, ai, ci) => i ≤ n ∧ d1 < 2 ^ n ∧ low d1 i ∧ KD K1 ∧ K1.length + i ≤ 25 ∧ obo (spl k ne sp n rc) i d1 K1 = (d3, K3) ∧ pX R L_4 f_4 Li fi ∧ sK G gr Li fi ai K1 ∧ dI G Li fi ci d1) (fun x_9 : Nat × Nat × List Nat × List Nat × (Nat → va_E) × Nat × Nat => match x_9 with | (i, d1, K1, Li, fi, ai, ci) => ([(z, .inr (5, [.ref ak, .ref ar, .ref al, .ref alk, .int (nI td), .ref ast, .int (nI aa), .ref ai, .ref amd]))] ++ va_pl (R ++ Li) fi)) (fun x_9 : Nat × Nat × List Nat × List Nat × (Nat → va_E) × Nat × Nat => match x_9 with | (i, d1, K1, Li, fi, ai, ci) => [(0, .ref z), (1, .ref ci), (2, .ref q14), (3, .int (pI i))]) (fun x_9 : Nat × Nat × List Nat × List Nat × (Nat → va_E) × Nat × Nat => match x_9 with | (i, d1, K1, Li, fi, ai, ci) => 8 + 3 * (24 - i)) (fun x_9 : Nat × Nat × List Nat × List Nat × (Nat → va_E) × Nat × Nat => match x_9 with | (i, d1, K1, Li, fi, ai, ci) => 80 + 48 * (24 - i) + tri K1.length) ?_ ((n, 2 ^ n - 1, [2 ^ n - 1], L_4, f_4, an_4, cw1)) (⟨Nat.le_refl n, by show 2 ^ n - 1 < 2 ^ n; omega, low_whole n, KD_one (by omega), by show 1 + n ≤ 25; omega, obl_t hn c_22 hR3, pX.rf, hsN_4, hr_2⟩) (by first | omega | (dsimp only; omega)) (by first | omega | (dsimp only; omega)) hP hD hS (lv_sub (l' := [(0, .ref z), (1, .ref cw1), (2, .ref q14), (3, .int (pI n))]) hl [3, 2, 1, 0] rfl)
    rintro ⟨i, d1, K1, Li, fi, ai, ci⟩ hinv ih H locs ls hP hD hS hl
    have hP : va_P G.1 vwCl ([(z, .inr (5, [.ref ak, .ref ar, .ref al, .ref alk, .int (nI td), .ref ast, .int (nI aa), .ref ai, .ref amd]))] ++ va_pl (R ++ Li) fi) _ := hP
    have hD : va_D A ([(z, .inr (5, [.ref ak, .ref ar, .ref al, .ref alk, .int (nI td), .ref ast, .int (nI aa), .ref ai, .ref amd]))] ++ va_pl (R ++ Li) fi) := hD
    have hl : lv_has ls 5 [(0, .ref z), (1, .ref ci), (2, .ref q14), (3, .int (pI i))] := hl
    have hinv : i ≤ n ∧ d1 < 2 ^ n ∧ low d1 i ∧ KD K1 ∧ K1.length + i ≤ 25 ∧ obo (spl k ne sp n rc) i d1 K1 = (d3, K3) ∧ pX R L_4 f_4 Li fi ∧ sK G gr Li fi ai K1 ∧ dI G Li fi ci d1 := hinv
    have ih := ih
    dsimp only at ih ⊢
    obtain ⟨hi, hd1, hlow, hKD, hKl, hob, hxi, hsKi, hci⟩ := hinv
    have hd24 : d1 < 2 ^ 24 := Nat.lt_of_lt_of_le hd1 hp24.2
    have hcd := cnt_le d1 24
    have hsim := hsim.mono hxi
    have hdi0 := hdi0.mono hxi
    refine lv_iload_n hx hb dX5_oneByOne_32 rfl (lv_at hl 3 rfl) ?_
    refine lv_if_lt (tgt := 73) hx hb dX5_oneByOne_33 (by decide) (fun c_33 => ?_) (fun c_33 => ?_)
    · have htk := tri_le (show K1.length ≤ 25 by omega)
      rw [show tri 25 = 325 by decide +kernel] at htk
      have c_33 := (pI_0 (by omega)).mp c_33
      have e5 : (d1, K1) = (d3, K3) := by rw [← hob, c_33]; rfl
      cases e5
      refine lv_aload_n hx hb dX5_oneByOne_73 rfl (lv_at hl 1 rfl) ?_
      refine W.widen (k := 120) (n := 1800) (by first | omega | (dsimp only; omega)) (by first | omega | (dsimp only; omega)) ?_
      exact p_aret (rt := .array .int) hx hb hr ⟨.int, rfl⟩ hlocks hK hP hD hS (v := ci) ((Li, fi), ai) (⟨((((hx_1.trans hx_2).trans hx_3).trans hx_4).trans hxi), hci, hsKi⟩) (rfl) dX5_oneByOne_74
    · have c_33 := mt (pI_0 (by omega)).mpr c_33
      obtain ⟨j, rfl⟩ : ∃ j, i = j + 1 := ⟨i - 1, by omega⟩
      have hbj := hlow j (Nat.lt_succ_self j)
      have hcj := low_cnt hlow
      have hcm := cnt_mono d1 (i := j + 1) (j := 24) (by omega)
      have e8 : pI (j + 1) = nI j := pI_s j
      have hl : lv_has ls 5 [(0, .ref z), (1, .ref ci), (2, .ref q14), (3, .int (nI j))] := by rw [← e8]; exact hl
      refine lv_aload_n hx hb dX5_oneByOne_36 rfl (lv_at hl 1 rfl) ?_
      refine p_ilen hx hb hK hP (hci.l R) dX5_oneByOne_37 ?_
      refine lv_iconst (v := nI 1) hx hb dX5_oneByOne_38 (by decide +kernel) ?_
      refine lv_icmp_ne (tgt := 45) hx hb dX5_oneByOne_39 (by decide) (fun c_39 => ?_) (fun c_39 => ?_)
      · have c_39 := (nI_neI (by omega) (by omega)).mp c_39
        have hnz : ¬ nd d1 (2 ^ j) = 0 := fun z9 => c_39 ((low_one hlow (by omega) hd24).mp z9)
        have hlkl := lk_ge K1 (nd d1 (2 ^ j))
        have hlku := lk_le K1 (nd d1 (2 ^ j))
        have htl := tri_le hlkl
        have hcN : cnt (nd d1 (2 ^ j)) 24 ≤ 24 := cnt_le _ _
        have htk := tri_le (show (lk K1 (nd d1 (2 ^ j))).length ≤ 25 by omega)
        rw [show tri 25 = 325 by decide +kernel] at htk
        refine lv_aload_n hx hb dX5_oneByOne_45 rfl (lv_at hl 1 rfl) ?_
        refine lv_iload_n hx hb dX5_oneByOne_46 rfl (lv_at hl 3 rfl) ?_
        refine lv_iload_n hx hb dX5_oneByOne_47 rfl (lv_at hl 3 rfl) ?_
        refine lv_iconst (v := nI 1) hx hb dX5_oneByOne_48 (by decide +kernel) ?_
        refine lv_iadd hx hb dX5_oneByOne_49 ?_
        refine cs_i (y := nI (j + 1)) (nI_add _ _) ?_
        refine p_sr (X := [(z, .inr (5, [.ref ak, .ref ar, .ref al, .ref alk, .int (nI td), .ref ast, .int (nI aa), .ref ai, .ref amd]))]) (cx := ([] : va_W)) (As := [.ref ci, .int (nI j), .int (nI (j + 1))]) (rest := []) (wr := [(z, .inr (5, [.ref ak, .ref ar, .ref al, .ref alk, .int (nI td), .ref ast, .int (nI aa), .ref ai, .ref amd]))]) ⟨hx, hb, hml, hown, hts⟩ hK hQ hP hD hS hA hZ hN (c_X5_rest l G gr sa R Li fi ci (cnt d1 24) j (j + 1) (fun j9 => nI (plc d1 j9)) (by first | assumption | omega) (by first | assumption | omega) (by first | assumption | omega) (hci.l R)) (va_cwS 3 hts gX5_oneByOne_X5_rest rfl rfl rfl (by decide +kernel) ⟨Nat.le_of_ble_eq_true rfl, Nat.le_of_ble_eq_true rfl⟩) [] [0] ⟨rfl, rfl, by decide, by decide, by decide⟩ rfl hl.1 rfl (Nat.le_of_ble_eq_true rfl) ⟨by first | omega | (dsimp only; omega), by first | omega | (dsimp only; omega)⟩ dX5_oneByOne_50 (fun co u_5 H locs hw hP hD hS => ?_)
        obtain ⟨L_5, f_5⟩ := u_5
        try dsimp only at hw
        have hP : va_P G.1 vwCl ([(z, .inr (5, [.ref ak, .ref ar, .ref al, .ref alk, .int (nI td), .ref ast, .int (nI aa), .ref ai, .ref amd]))] ++ va_pl (R ++ L_5) f_5) H := hP
        have hD : va_D A ([(z, .inr (5, [.ref ak, .ref ar, .ref al, .ref alk, .int (nI td), .ref ast, .int (nI aa), .ref ai, .ref amd]))] ++ va_pl (R ++ L_5) f_5) := hD
        obtain ⟨hx_5, hr_5⟩ := hw
        have hsim := hsim.mono hx_5
        have hdi0 := hdi0.mono hx_5
        have hsKi := hsKi.mono hx_5
        have hci := hci.mono hx_5
        have hpo : dI G L_5 f_5 co (nd d1 (2 ^ j)) := by have h9 := dI_rest (Nat.le_succ j) (by omega) hr_5; rw [low_rest hlow (by omega)] at h9; exact h9
        refine lv_astore (lv' := [(4, .ref co), (0, .ref z), (1, .ref ci), (2, .ref q14), (3, .int (nI j))]) hx hb dX5_oneByOne_53 hl (by decide) rfl (fun ls hl => ?_)
        refine lv_aload_n hx hb dX5_oneByOne_55 rfl (lv_at hl 1 rfl) ?_
        refine lv_aload hx hb dX5_oneByOne_56 (lv_at hl 0 rfl) ?_
        refine p_vi (X := [(z, .inr (5, [.ref ak, .ref ar, .ref al, .ref alk, .int (nI td), .ref ast, .int (nI aa), .ref ai, .ref amd]))]) (cx := [(z, .inr (5, [.ref ak, .ref ar, .ref al, .ref alk, .int (nI td), .ref ast, .int (nI aa), .ref ai, .ref amd]))]) (As := [.ref co]) (rest := []) (wr := ([] : va_W)) ⟨hx, hb, hml, hown, hts⟩ hK hQ hP hD hS hA hZ hN (c_X5_taste l G gr sa R L_5 f_5 z ak ar al alk ast ai amd td aa n rc k ne sp (by first | assumption | omega) (by first | assumption | omega) (by first | assumption | omega) (by first | assumption | omega) (by first | assumption | omega) (by first | assumption | omega) (by first | assumption | omega) co (nd d1 (2 ^ j)) K1 (nd_lt hd1) (hpo) (by first | assumption | omega) (hsKi) (hKD)) (cwV 1 hts gX5_oneByOne_X5_taste rfl rfl rfl (by decide +kernel) ⟨Nat.le_of_ble_eq_true rfl, Nat.le_of_ble_eq_true rfl⟩) [0] [] ⟨rfl, rfl, by decide, by decide, by decide⟩ 0 5 rfl rfl rfl hl.1 rfl (Nat.le_of_ble_eq_true rfl) ⟨by first | omega | (dsimp only; omega), by first | omega | (dsimp only; omega)⟩ dX5_oneByOne_58 (fun r u_6 H locs hw hP hD hS => ?_)
        obtain ⟨⟨L_6, f_6⟩, an_6⟩ := u_6
        try dsimp only at hw
        have hP : va_P G.1 vwCl ([(z, .inr (5, [.ref ak, .ref ar, .ref al, .ref alk, .int (nI td), .ref ast, .int (nI aa), .ref an_6, .ref amd]))] ++ va_pl (R ++ L_6) f_6) H := hP
        have hD : va_D A ([(z, .inr (5, [.ref ak, .ref ar, .ref al, .ref alk, .int (nI td), .ref ast, .int (nI aa), .ref an_6, .ref amd]))] ++ va_pl (R ++ L_6) f_6) := hD
        obtain ⟨hx_6, hw, hsN_6⟩ := hw
        subst hw
        have hsim := hsim.mono hx_6
        have hdi0 := hdi0.mono hx_6
        have hsKi := hsKi.mono hx_6
        have hci := hci.mono hx_6
        have hpo := hpo.mono hx_6
        refine lv_if_eq (tgt := 67) hx hb dX5_oneByOne_61 (by decide) (fun c_61 => ?_) (fun c_61 => ?_)
        · have c_61 := bI_0 c_61
          refine lv_iinc (v := pI j) (lv' := [(3, .int (pI j)), (4, .ref co), (0, .ref z), (1, .ref ci), (2, .ref q14)]) hx hb dX5_oneByOne_67 hl (k := 4) rfl (rfl) (by decide) rfl (fun ls hl => ?_)
          refine lv_goto (tgt := 32) hx hb dX5_oneByOne_70 (by decide) ?_
          refine W.widen (k := 8 + 3 * (24 - j)) (n := 80 + 48 * (24 - j) + tri (lk K1 (nd d1 (2 ^ j))).length) (by first | omega | (dsimp only; omega)) (by first | omega | (dsimp only; omega)) ?_
          exact ih ((j, d1, lk K1 (nd d1 (2 ^ j)), L_6, f_6, an_6, ci)) (by show j < j + 1; omega) (⟨by show j ≤ n; omega, hd1, low_less hlow, KD_lk hKD (nd_lt hd24), by show (lk K1 (nd d1 (2 ^ j))).length + j ≤ 25; omega, by show obo (spl k ne sp n rc) j (d1) (lk K1 (nd d1 (2 ^ j))) = _; rw [← hob]; exact (obo_n hbj hnz c_61).symm, ((hxi.trans hx_5).trans hx_6), hsN_6, hci⟩) _ _ _ hP hD hS (lv_sub (l' := [(0, .ref z), (1, .ref ci), (2, .ref q14), (3, .int (pI j))]) hl [2, 3, 4, 0] rfl)
        · have c_61 := bI_n0 c_61
          refine lv_aload hx hb dX5_oneByOne_64 (lv_at hl 0 rfl) ?_
          refine lv_astore_n (lv' := [(1, .ref co), (4, .ref co), (0, .ref z), (2, .ref q14), (3, .int (nI j))]) hx hb dX5_oneByOne_66 rfl hl (by decide) rfl (fun ls hl => ?_)
          refine lv_iinc (v := pI j) (lv' := [(3, .int (pI j)), (1, .ref co), (4, .ref co), (0, .ref z), (2, .ref q14)]) hx hb dX5_oneByOne_67 hl (k := 4) rfl (rfl) (by decide) rfl (fun ls hl => ?_)
          refine lv_goto (tgt := 32) hx hb dX5_oneByOne_70 (by decide) ?_
          refine W.widen (k := 8 + 3 * (24 - j)) (n := 80 + 48 * (24 - j) + tri (lk K1 (nd d1 (2 ^ j))).length) (by first | omega | (dsimp only; omega)) (by first | omega | (dsimp only; omega)) ?_
          exact ih ((j, nd d1 (2 ^ j), lk K1 (nd d1 (2 ^ j)), L_6, f_6, an_6, co)) (by show j < j + 1; omega) (⟨by show j ≤ n; omega, nd_lt hd1, low_nd hlow, KD_lk hKD (nd_lt hd24), by show (lk K1 (nd d1 (2 ^ j))).length + j ≤ 25; omega, by show obo (spl k ne sp n rc) j (nd d1 (2 ^ j)) (lk K1 (nd d1 (2 ^ j))) = _; rw [← hob]; exact (obo_s hbj hnz c_61).symm, ((hxi.trans hx_5).trans hx_6), hsN_6, hpo⟩) _ _ _ hP hD hS (lv_sub (l' := [(0, .ref z), (1, .ref co), (2, .ref q14), (3, .int (pI j))]) hl [3, 1, 4, 0] rfl)
      · have c_39 := (nI_eq (by omega) (by omega)).mp c_39
        refine lv_goto (tgt := 67) hx hb dX5_oneByOne_42 (by decide) ?_
        refine lv_iinc (v := pI j) (lv' := [(3, .int (pI j)), (0, .ref z), (1, .ref ci), (2, .ref q14)]) hx hb dX5_oneByOne_67 hl (k := 3) rfl (rfl) (by decide) rfl (fun ls hl => ?_)
        refine lv_goto (tgt := 32) hx hb dX5_oneByOne_70 (by decide) ?_
        refine W.widen (k := 8 + 3 * (24 - j)) (n := 80 + 48 * (24 - j) + tri K1.length) (by first | omega | (dsimp only; omega)) (by first | omega | (dsimp only; omega)) ?_
        exact ih ((j, d1, K1, Li, fi, ai, ci)) (by show j < j + 1; omega) (⟨by show j ≤ n; omega, hd1, low_less hlow, hKD, by show K1.length + j ≤ 25; omega, by show obo (spl k ne sp n rc) j (d1) (K1) = _; rw [← hob]; exact (obo_k (Or.inr ((low_one hlow (by omega) hd24).mpr c_39))).symm, hxi, hsKi, hci⟩) _ _ _ hP hD hS (lv_sub (l' := [(0, .ref z), (1, .ref ci), (2, .ref q14), (3, .int (pI j))]) hl [1, 2, 3, 0] rfl)
  · have c_22 := bI_0 c_22
    rw [obl_f c_22] at hR3
    cases hR3
    refine lv_aload_n hx hb dX5_oneByOne_25 rfl (lv_at hl 0 rfl) ?_
    refine W.widen (k := 120) (n := 1800) (by first | omega | (dsimp only; omega)) (by first | omega | (dsimp only; omega)) ?_
    exact p_aret (rt := .array .int) hx hb hr ⟨.int, rfl⟩ hlocks hK hP hD hS (v := q14) ((L_4, f_4), an_4) (⟨(((hx_1.trans hx_2).trans hx_3).trans hx_4), hdi0, hsN_4⟩) (rfl) dX5_oneByOne_26

set_option maxRecDepth 100000 in
theorem in5_X5_shrink : ∀ w ∈ wsX50, w ∈ wsX5_shrink := by decide +kernel
set_option maxHeartbeats 4000000 in
set_option maxRecDepth 100000 in
theorem c_X5_shrink (l : Launch) (G : cG) (gr : ClassId) (sa : Nat → Nat) (R L : List Nat) (f : Nat → va_E) (z ak ar al alk ast asn amd td aa : Nat) (n rc : Nat) (k ne sp : Nat → Nat) (hn : n ≤ 24) (hk : ∀ j, j < n → k j < 16) (hrc : rc ≤ 6) (hne : ∀ j, j < 6 → ne j < 65536) (hsp : ∀ j, j < 6 → sp j < 65536) (hdj : ∀ j, j < 6 → ne j &&& sp j = 0) (hsim : simK G gr R L f ak ar n k rc ne sp) (d2 n2 : Nat) (K2 : List Nat) (F2 : List Int32) (hR : hal (spl k ne sp n rc) (2 ^ n - 1) = (d2, n2, K2, F2)) : pMI l G gr sa yX5_shrink wsX5_shrink ({ frames := 142, cells := 4210, slots := 103630, locals := 5400 }) [.ref z] ([(z, .inr (5, [.ref ak, .ref ar, .ref al, .ref alk, .int (nI td), .ref ast, .int (nI aa), .ref asn, .ref amd]))] ++ va_pl (R ++ L) f) (fun (r_ : Int32) (u : (List Nat × (Nat → va_E)) × Nat × Nat × Nat × Nat) => pX R L f u.1.1 u.1.2 ∧ r_ = nI K2.length ∧ dI G u.1.1 u.1.2 u.2.1 d2 ∧ fI G u.1.1 u.1.2 u.2.2.1 (cnt d2 24) (fun j => nI (k (plc d2 j))) ∧ sK G gr u.1.1 u.1.2 u.2.2.2.1 K2 ∧ sF G gr u.1.1 u.1.2 u.2.2.2.2 F2) (fun (u : (List Nat × (Nat → va_E)) × Nat × Nat × Nat × Nat) => ([(z, .inr (5, [.ref ak, .ref ar, .ref u.2.1, .ref u.2.2.1, .int (nI K2.length), .ref u.2.2.2.2, .int (nI (aa + K2.length)), .ref u.2.2.2.1, .ref u.2.2.2.2]))] ++ va_pl (R ++ u.1.1) u.1.2)) := by
  refine ps_I (own := RX5) (cc := cX5_shrink) (maxL := 1) (ret := (some .int)) (by decide) rfl rfl (Nat.le_of_ble_eq_true rfl) ?_
  intro p e s m below meth c A hZ hN hQ hx hb hr hml hts hown hlocks hinit hA hK hP hD hS ls hl
  have hin5 := in5_X5_shrink
  have hl : lv_has ls 1 [(0, .ref z)] := hl
  have hp24 := two_pow24 hn
  have hcw : cnt (2 ^ n - 1) 24 = n := by rw [cnt_whole]; omega
  have hc2 := cnt_le d2 24
  refine lv_aload_n hx hb dX5_shrink_0 rfl (lv_at hl 0 rfl) ?_
  refine lv_aload_n hx hb dX5_shrink_1 rfl (lv_at hl 0 rfl) ?_
  refine p_vr (X := [(z, .inr (5, [.ref ak, .ref ar, .ref al, .ref alk, .int (nI td), .ref ast, .int (nI aa), .ref asn, .ref amd]))]) (cx := [(z, .inr (5, [.ref ak, .ref ar, .ref al, .ref alk, .int (nI td), .ref ast, .int (nI aa), .ref asn, .ref amd]))]) (As := []) (rest := [.ref z]) (wr := ([] : va_W)) ⟨hx, hb, hml, hown, hts⟩ hK hQ hP hD hS hA hZ hN (c_X5_search l G gr sa R L f z ak ar al alk ast asn amd td aa n rc k ne sp (by first | assumption | omega) (by first | assumption | omega) (by first | assumption | omega) (by first | assumption | omega) (by first | assumption | omega) (by first | assumption | omega) (by first | assumption | omega) d2 n2 K2 F2 (hR)) (cwV 0 hts gX5_shrink_X5_search rfl rfl rfl (by decide +kernel) ⟨by first | omega | (dsimp only; omega), by first | omega | (dsimp only; omega)⟩) [0] [] ⟨rfl, rfl, by decide, by decide, by decide⟩ 0 5 rfl rfl rfl hl.1 rfl (Nat.le_of_ble_eq_true rfl) ⟨by first | omega | (dsimp only; omega), by first | omega | (dsimp only; omega)⟩ dX5_shrink_2 (fun cl u_1 H locs hw hP hD hS => ?_)
  obtain ⟨⟨L_1, f_1⟩, an_1, am_1⟩ := u_1
  try dsimp only at hw
  have hP : va_P G.1 vwCl ([(z, .inr (5, [.ref ak, .ref ar, .ref al, .ref alk, .int (nI td), .ref ast, .int (nI aa), .ref an_1, .ref am_1]))] ++ va_pl (R ++ L_1) f_1) H := hP
  have hD : va_D A ([(z, .inr (5, [.ref ak, .ref ar, .ref al, .ref alk, .int (nI td), .ref ast, .int (nI aa), .ref an_1, .ref am_1]))] ++ va_pl (R ++ L_1) f_1) := hD
  obtain ⟨hx_1, hr_1, hsK_1, hsF_1⟩ := hw
  have hsim := hsim.mono hx_1
  have hsK9 := hsK_1
  obtain ⟨rrK, hsR, hsI⟩ := hsK9
  refine va_put (D := G.1) (ci := 5) (v := .ref cl) (ty := .array .int) (C := RX5) (T := TX5) (N := 9) hx hb hts hin5 tyX5 tyX5_ok nmX5 hown hK hP hD hS 0 rfl rfl 2 (by decide) (hts (.fieldLink RX5 18 "FaultShrinkerLaw$Sim" "list" "[I") (List.mem_of_getElem? (i := 1) rfl)) (fun _ h9 => h9) rfl (by decide +kernel) rfl rfl (Nat.le_of_ble_eq_true rfl) dX5_shrink_5 (fun H locs hP hD hS => ?_)
  have hP : va_P G.1 vwCl ([(z, .inr (5, [.ref ak, .ref ar, .ref cl, .ref alk, .int (nI td), .ref ast, .int (nI aa), .ref an_1, .ref am_1]))] ++ va_pl (R ++ L_1) f_1) _ := hP
  have hD : va_D A ([(z, .inr (5, [.ref ak, .ref ar, .ref cl, .ref alk, .int (nI td), .ref ast, .int (nI aa), .ref an_1, .ref am_1]))] ++ va_pl (R ++ L_1) f_1) := hD
  refine lv_aload_n hx hb dX5_shrink_8 rfl (lv_at hl 0 rfl) ?_
  refine lv_aload_n hx hb dX5_shrink_9 rfl (lv_at hl 0 rfl) ?_
  refine lv_aload_n hx hb dX5_shrink_10 rfl (lv_at hl 0 rfl) ?_
  refine va_get (D := G.1) (ci := 5) (v := .ref cl) (C := RX5) (T := TX5) (N := 9) hx hb hts hin5 hown hK hP 0 rfl rfl 2 (by decide) (hts (.fieldLink RX5 18 "FaultShrinkerLaw$Sim" "list" "[I") (List.mem_of_getElem? (i := 1) rfl)) (fun _ h9 => h9) rfl dX5_shrink_11 ?_
  refine p_vr (X := [(z, .inr (5, [.ref ak, .ref ar, .ref cl, .ref alk, .int (nI td), .ref ast, .int (nI aa), .ref an_1, .ref am_1]))]) (cx := [(z, .inr (5, [.ref ak, .ref ar, .ref cl, .ref alk, .int (nI td), .ref ast, .int (nI aa), .ref an_1, .ref am_1]))]) (As := [.ref cl]) (rest := [.ref z]) (wr := ([] : va_W)) ⟨hx, hb, hml, hown, hts⟩ hK hQ hP hD hS hA hZ hN (c_X5_kindsOf l G gr sa R L_1 f_1 z ak ar cl alk ast an_1 am_1 td aa n rc k ne sp (by first | assumption | omega) (by first | assumption | omega) (by first | assumption | omega) (by first | assumption | omega) (by first | assumption | omega) (by first | assumption | omega) (by first | assumption | omega) cl d2 (hal_ltn hR) (hr_1)) (cwV 1 hts gX5_shrink_X5_kindsOf rfl rfl rfl (by decide +kernel) ⟨by first | omega | (dsimp only; omega), by first | omega | (dsimp only; omega)⟩) [0] [] ⟨rfl, rfl, by decide, by decide, by decide⟩ 0 5 rfl rfl rfl hl.1 rfl (Nat.le_of_ble_eq_true rfl) ⟨by first | omega | (dsimp only; omega), by first | omega | (dsimp only; omega)⟩ dX5_shrink_14 (fun ck u_2 H locs hw hP hD hS => ?_)
  obtain ⟨L_2, f_2⟩ := u_2
  try dsimp only at hw
  have hP : va_P G.1 vwCl ([(z, .inr (5, [.ref ak, .ref ar, .ref cl, .ref alk, .int (nI td), .ref ast, .int (nI aa), .ref an_1, .ref am_1]))] ++ va_pl (R ++ L_2) f_2) H := hP
  have hD : va_D A ([(z, .inr (5, [.ref ak, .ref ar, .ref cl, .ref alk, .int (nI td), .ref ast, .int (nI aa), .ref an_1, .ref am_1]))] ++ va_pl (R ++ L_2) f_2) := hD
  obtain ⟨hx_2, hr_2⟩ := hw
  have hsim := hsim.mono hx_2
  have hr_1 := hr_1.mono hx_2
  have hsK_1 := hsK_1.mono hx_2
  have hsF_1 := hsF_1.mono hx_2
  have hsR := hsR.mono hx_2
  refine va_put (D := G.1) (ci := 5) (v := .ref ck) (ty := .array .int) (C := RX5) (T := TX5) (N := 9) hx hb hts hin5 tyX5 tyX5_ok nmX5 hown hK hP hD hS 0 rfl rfl 3 (by decide) (hts (.fieldLink RX5 21 "FaultShrinkerLaw$Sim" "listKinds" "[I") (List.mem_of_getElem? (i := 2) rfl)) (fun _ h9 => h9) rfl (by decide +kernel) rfl rfl (Nat.le_of_ble_eq_true rfl) dX5_shrink_17 (fun H locs hP hD hS => ?_)
  have hP : va_P G.1 vwCl ([(z, .inr (5, [.ref ak, .ref ar, .ref cl, .ref ck, .int (nI td), .ref ast, .int (nI aa), .ref an_1, .ref am_1]))] ++ va_pl (R ++ L_2) f_2) _ := hP
  have hD : va_D A ([(z, .inr (5, [.ref ak, .ref ar, .ref cl, .ref ck, .int (nI td), .ref ast, .int (nI aa), .ref an_1, .ref am_1]))] ++ va_pl (R ++ L_2) f_2) := hD
  refine lv_aload_n hx hb dX5_shrink_20 rfl (lv_at hl 0 rfl) ?_
  refine lv_aload_n hx hb dX5_shrink_21 rfl (lv_at hl 0 rfl) ?_
  refine va_get (D := G.1) (ci := 5) (v := .ref an_1) (C := RX5) (T := TX5) (N := 9) hx hb hts hin5 hown hK hP 0 rfl rfl 7 (by decide) (hts (.fieldLink RX5 27 "FaultShrinkerLaw$Sim" "seen" "[[I") (List.mem_of_getElem? (i := 3) rfl)) (fun _ h9 => h9) rfl dX5_shrink_22 ?_
  refine p_rlen hx hb hQ hP (hsR.l R) dX5_shrink_25 ?_
  refine va_put (D := G.1) (ci := 5) (v := .int (nI K2.length)) (ty := .int) (C := RX5) (T := TX5) (N := 9) hx hb hts hin5 tyX5 tyX5_ok nmX5 hown hK hP hD hS 0 rfl rfl 4 (by decide) (hts (.fieldLink RX5 88 "FaultShrinkerLaw$Sim" "tasted" "I") (List.mem_of_getElem? (i := 4) rfl)) (fun _ h9 => h9) rfl (by decide +kernel) rfl rfl (Nat.le_of_ble_eq_true rfl) dX5_shrink_26 (fun H locs hP hD hS => ?_)
  have hP : va_P G.1 vwCl ([(z, .inr (5, [.ref ak, .ref ar, .ref cl, .ref ck, .int (nI K2.length), .ref ast, .int (nI aa), .ref an_1, .ref am_1]))] ++ va_pl (R ++ L_2) f_2) _ := hP
  have hD : va_D A ([(z, .inr (5, [.ref ak, .ref ar, .ref cl, .ref ck, .int (nI K2.length), .ref ast, .int (nI aa), .ref an_1, .ref am_1]))] ++ va_pl (R ++ L_2) f_2) := hD
  refine lv_aload_n hx hb dX5_shrink_29 rfl (lv_at hl 0 rfl) ?_
  refine lv_aload_n hx hb dX5_shrink_30 rfl (lv_at hl 0 rfl) ?_
  refine va_get (D := G.1) (ci := 5) (v := .ref am_1) (C := RX5) (T := TX5) (N := 9) hx hb hts hin5 hown hK hP 0 rfl rfl 8 (by decide) (hts (.fieldLink RX5 30 "FaultShrinkerLaw$Sim" "made" "[[I") (List.mem_of_getElem? (i := 5) rfl)) (fun _ h9 => h9) rfl dX5_shrink_31 ?_
  refine va_put (D := G.1) (ci := 5) (v := .ref am_1) (ty := .array (.array .int)) (C := RX5) (T := TX5) (N := 9) hx hb hts hin5 tyX5 tyX5_ok nmX5 hown hK hP hD hS 0 rfl rfl 5 (by decide) (hts (.fieldLink RX5 24 "FaultShrinkerLaw$Sim" "steps" "[[I") (List.mem_of_getElem? (i := 6) rfl)) (fun _ h9 => h9) rfl (by decide +kernel) rfl rfl (Nat.le_of_ble_eq_true rfl) dX5_shrink_34 (fun H locs hP hD hS => ?_)
  have hP : va_P G.1 vwCl ([(z, .inr (5, [.ref ak, .ref ar, .ref cl, .ref ck, .int (nI K2.length), .ref am_1, .int (nI aa), .ref an_1, .ref am_1]))] ++ va_pl (R ++ L_2) f_2) _ := hP
  have hD : va_D A ([(z, .inr (5, [.ref ak, .ref ar, .ref cl, .ref ck, .int (nI K2.length), .ref am_1, .int (nI aa), .ref an_1, .ref am_1]))] ++ va_pl (R ++ L_2) f_2) := hD
  refine lv_aload_n hx hb dX5_shrink_37 rfl (lv_at hl 0 rfl) ?_
  refine lv_dup hx hb dX5_shrink_38 rfl ?_
  refine va_get (D := G.1) (ci := 5) (v := .int (nI aa)) (C := RX5) (T := TX5) (N := 9) hx hb hts hin5 hown hK hP 0 rfl rfl 6 (by decide) (hts (.fieldLink RX5 92 "FaultShrinkerLaw$Sim" "all" "I") (List.mem_of_getElem? (i := 7) rfl)) (fun _ h9 => h9) rfl dX5_shrink_39 ?_
  refine lv_aload_n hx hb dX5_shrink_42 rfl (lv_at hl 0 rfl) ?_
  refine va_get (D := G.1) (ci := 5) (v := .int (nI K2.length)) (C := RX5) (T := TX5) (N := 9) hx hb hts hin5 hown hK hP 0 rfl rfl 4 (by decide) (hts (.fieldLink RX5 88 "FaultShrinkerLaw$Sim" "tasted" "I") (List.mem_of_getElem? (i := 4) rfl)) (fun _ h9 => h9) rfl dX5_shrink_43 ?_
  refine lv_iadd hx hb dX5_shrink_46 ?_
  refine cs_i (y := nI (aa + K2.length)) (nI_add _ _) ?_
  refine va_put (D := G.1) (ci := 5) (v := .int (nI (aa + K2.length))) (ty := .int) (C := RX5) (T := TX5) (N := 9) hx hb hts hin5 tyX5 tyX5_ok nmX5 hown hK hP hD hS 0 rfl rfl 6 (by decide) (hts (.fieldLink RX5 92 "FaultShrinkerLaw$Sim" "all" "I") (List.mem_of_getElem? (i := 7) rfl)) (fun _ h9 => h9) rfl (by decide +kernel) rfl rfl (Nat.le_of_ble_eq_true rfl) dX5_shrink_47 (fun H locs hP hD hS => ?_)
  have hP : va_P G.1 vwCl ([(z, .inr (5, [.ref ak, .ref ar, .ref cl, .ref ck, .int (nI K2.length), .ref am_1, .int (nI (aa + K2.length)), .ref an_1, .ref am_1]))] ++ va_pl (R ++ L_2) f_2) _ := hP
  have hD : va_D A ([(z, .inr (5, [.ref ak, .ref ar, .ref cl, .ref ck, .int (nI K2.length), .ref am_1, .int (nI (aa + K2.length)), .ref an_1, .ref am_1]))] ++ va_pl (R ++ L_2) f_2) := hD
  refine lv_aload_n hx hb dX5_shrink_50 rfl (lv_at hl 0 rfl) ?_
  refine va_get (D := G.1) (ci := 5) (v := .int (nI K2.length)) (C := RX5) (T := TX5) (N := 9) hx hb hts hin5 hown hK hP 0 rfl rfl 4 (by decide) (hts (.fieldLink RX5 88 "FaultShrinkerLaw$Sim" "tasted" "I") (List.mem_of_getElem? (i := 4) rfl)) (fun _ h9 => h9) rfl dX5_shrink_51 ?_
  refine W.widen (k := 4210) (n := 103630) (by first | omega | (dsimp only; omega)) (by first | omega | (dsimp only; omega)) ?_
  exact cs_iret hx hb hr hlocks hK hP hD hS (v := nI K2.length) ((L_2, f_2), cl, ck, an_1, am_1) (⟨(hx_1.trans hx_2), rfl, hr_1, hr_2, hsK_1, hsF_1⟩) (rfl) dX5_shrink_54
