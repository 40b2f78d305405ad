set_option maxHeartbeats 4000000 in
set_option maxRecDepth 100000 in
theorem c_L_add (l : Launch) (G : cG) (hl9 : l.stackTraces = false) (sa : Nat → Nat) (x a b t q q1 kq al : Nat) (ka n : Nat) (k : Nat → Nat) (hn : n ≤ 24) (hk : ∀ j, j < n → k j < 16) (v : Int32) (oj : Nat) (fo : Nat → Int64) : cWI l G sa yL_add wsL_add ({ frames := 7, cells := 1, slots := 6, locals := 111 }) [.ref x, .int v, .ref oj] [(x, .inr (4, [.ref a, .ref b, .ref t, .ref q, .ref q1, .int (nI kq), .int (nI al)])), (a, .inr (0, [.ref ka, .int (nI n)])), (ka, .inl (G.2.1, 24, .inl (nF k))), (oj, .inl (G.2.2, 1, .inr (.inl fo)))] (fun (r_ : Int32) (_ : Unit) => r_ = nI (adc v n)) (fun (_ : Unit) => [(x, .inr (4, [.ref a, .ref b, .ref t, .ref q, .ref q1, .int (nI kq), .int (nI al)])), (a, .inr (0, [.ref ka, .int (nI (if adc v n = 0 then n + 1 else n))])), (ka, .inl (G.2.1, 24, .inl (nF (if adc v n = 0 then va_up k n (vN v) else k)))), (oj, .inl (G.2.2, 1, .inr (.inl (if adc v n = 0 then va_up fo 0 ((nI (n + 1)).toInt64) else fo))))]) := by
  refine cs_sW (own := RL) (cc := cL_add) (maxL := 4) (ret := (some .int)) (hh := [(0, 9, 12, 13), (0, 9, 15, 15)]) (by decide) rfl rfl (Nat.le_of_ble_eq_true rfl) ?_
  intro p e s m below meth c A htbl hZ hNc hx hb hr hml hts hown hlocks hinit hA hK hP hD hS ls hl
  have hl : lv_has ls 4 [(0, .ref x), (1, .int v), (2, .ref oj)] := hl
  refine lv_aload_n hx hb dL_add_0 rfl (lv_at hl 2 rfl) ?_
  refine lv_iconst (v := nI 0) hx hb dL_add_1 (by decide +kernel) ?_
  refine lv_aload_n hx hb dL_add_2 rfl (lv_at hl 0 rfl) ?_
  refine lv_iload_n hx hb dL_add_3 rfl (lv_at hl 1 rfl) ?_
  refine cs_xi (As := [.int v]) (rest := [.int (nI 0), .ref oj]) (wr := [(oj, .inl (G.2.2, 1, .inr (.inl fo)))]) ⟨hx, hb, hml, hown, hts⟩ hK hP hD hS hA hZ (c_X4_add l G (by first | assumption | omega) sa x a b t q q1 kq al ka n k (by first | assumption | omega) (by first | assumption | omega) v) (cwV 1 hts gL_add_X4_add rfl rfl rfl (by decide +kernel) ⟨Nat.le_of_ble_eq_true rfl, Nat.le_of_ble_eq_true rfl⟩) [0, 1, 2] [3] ⟨rfl, rfl, by decide, by decide, by decide⟩ 0 4 rfl rfl rfl hl.1 rfl (Nat.le_of_ble_eq_true rfl) ⟨Nat.le_of_ble_eq_true rfl, Nat.le_of_ble_eq_true rfl⟩ dL_add_4 (fun E ce q9 H locs hpx hP hD hS hce hcv hcl => ?_) (fun r u_1 H locs hw hP hD hS => ?_)
  · have hP : va_P G.1 vwCl [(x, .inr (4, [.ref a, .ref b, .ref t, .ref q, .ref q1, .int (nI kq), .int (nI al)])), (a, .inr (0, [.ref ka, .int (nI n)])), (ka, .inl (G.2.1, 24, .inl (nF k))), (oj, .inl (G.2.2, 1, .inr (.inl fo)))] H := hP.sub [1, 2, 3, 0] rfl
    have hD : va_D A [(x, .inr (4, [.ref a, .ref b, .ref t, .ref q, .ref q1, .int (nI kq), .int (nI al)])), (a, .inr (0, [.ref ka, .int (nI n)])), (ka, .inl (G.2.1, 24, .inl (nF k))), (oj, .inl (G.2.2, 1, .inr (.inl fo)))] := hD.sub [1, 2, 3, 0] (by decide) rfl
    rcases hpx with ⟨hc, rfl⟩ | ⟨hc, rfl⟩
    · refine vx_catch (E := eIO) (name := eIO) hown [] ⟨0, 9, 12, 13⟩ [⟨0, 9, 15, 15⟩] htbl (fun z9 h9 => absurd h9 List.not_mem_nil) rfl (by decide) (hts (.classLink RL 13 "java/lang/IndexOutOfBoundsException") (List.mem_of_getElem? (i := 1) rfl)) (va_Nw.use (exW_ot _ (List.mem_of_getElem? (i := 3) rfl)) (hZ.2.2.2 (.castable eIO eIO) (List.mem_of_getElem? (i := 3) rfl))) hce hcv hcl ?_
      refine lv_astore_n (lv' := [(3, .ref q9), (0, .ref x), (1, .int v), (2, .ref oj)]) hx hb dL_add_12 rfl hl (by decide) rfl (fun ls hl => ?_)
      refine lv_iconst (v := nI 1) hx hb dL_add_13 (by decide +kernel) ?_
      exact cs_iret hx hb hr hlocks hK hP hD hS (v := nI 1) () (by rw [hc]) (by rw [hc]; rfl) dL_add_14
    · refine vx_catch (E := eIS) (name := eIS) hown [⟨0, 9, 12, 13⟩] ⟨0, 9, 15, 15⟩ [] htbl (fun z9 h9 => by rw [List.mem_singleton.mp h9]; exact Or.inr ⟨by decide, eIO, hts (.classLink RL 13 "java/lang/IndexOutOfBoundsException") (List.mem_of_getElem? (i := 1) rfl), hNc⟩) rfl (by decide) (hts (.classLink RL 15 "java/lang/IllegalStateException") (List.mem_of_getElem? (i := 2) rfl)) (va_Nw.use (exW_ot _ (List.mem_of_getElem? (i := 4) rfl)) (hZ.2.2.2 (.castable eIS eIS) (List.mem_of_getElem? (i := 4) rfl))) hce hcv hcl ?_
      refine lv_astore_n (lv' := [(3, .ref q9), (0, .ref x), (1, .int v), (2, .ref oj)]) hx hb dL_add_15 rfl hl (by decide) rfl (fun ls hl => ?_)
      refine lv_iconst (v := nI 2) hx hb dL_add_16 (by decide +kernel) ?_
      exact cs_iret hx hb hr hlocks hK hP hD hS (v := nI 2) () (by rw [hc]) (by rw [hc]; rfl) dL_add_17
  · have hP : va_P G.1 vwCl [(x, .inr (4, [.ref a, .ref b, .ref t, .ref q, .ref q1, .int (nI kq), .int (nI al)])), (a, .inr (0, [.ref ka, .int (nI (n + 1))])), (ka, .inl (G.2.1, 24, .inl (nF (va_up k n (vN v))))), (oj, .inl (G.2.2, 1, .inr (.inl fo)))] H := hP.sub [1, 2, 3, 0] rfl
    have hD : va_D A [(x, .inr (4, [.ref a, .ref b, .ref t, .ref q, .ref q1, .int (nI kq), .int (nI al)])), (a, .inr (0, [.ref ka, .int (nI (n + 1))])), (ka, .inl (G.2.1, 24, .inl (nF (va_up k n (vN v))))), (oj, .inl (G.2.2, 1, .inr (.inl fo)))] := hD.sub [1, 2, 3, 0] (by decide) rfl
    obtain ⟨rfl, hc⟩ := hw
    refine lv_i2l (v := (nI (n + 1)).toInt64) hx hb dL_add_7 (rfl) ?_
    refine va_last hx hb hK hP hD hS 3 1 rfl rfl (vp_in_nI (by omega) (by omega)) dL_add_8 (fun H locs hP hD hS => ?_)
    rw [jF_upd _ (by omega)] at hP hD
    have hP : va_P G.1 vwCl [(x, .inr (4, [.ref a, .ref b, .ref t, .ref q, .ref q1, .int (nI kq), .int (nI al)])), (a, .inr (0, [.ref ka, .int (nI (n + 1))])), (ka, .inl (G.2.1, 24, .inl (nF (va_up k n (vN v))))), (oj, .inl (G.2.2, 1, .inr (.inl (va_up fo 0 ((nI (n + 1)).toInt64)))))] _ := hP
    have hD : va_D A [(x, .inr (4, [.ref a, .ref b, .ref t, .ref q, .ref q1, .int (nI kq), .int (nI al)])), (a, .inr (0, [.ref ka, .int (nI (n + 1))])), (ka, .inl (G.2.1, 24, .inl (nF (va_up k n (vN v))))), (oj, .inl (G.2.2, 1, .inr (.inl (va_up fo 0 ((nI (n + 1)).toInt64)))))] := hD
    refine lv_goto (tgt := 18) hx hb dL_add_9 (by decide) ?_
    refine lv_iconst (v := nI 0) hx hb dL_add_18 (by decide +kernel) ?_
    exact cs_iret hx hb hr hlocks hK hP hD hS (v := nI 0) () (by rw [hc]) (by rw [hc]; rfl) dL_add_19

set_option maxHeartbeats 4000000 in
set_option maxRecDepth 100000 in
theorem c_L_drop (l : Launch) (G : cG) (hl9 : l.stackTraces = false) (sa : Nat → Nat) (x a b t q q1 kq al : Nat) (ka n : Nat) (k : Nat → Nat) (hn : n ≤ 24) (hk : ∀ j, j < n → k j < 16) (v : Int32) (oj : Nat) (fo : Nat → Int64) : cWI l G sa yL_drop wsL_drop ({ frames := 7, cells := 1, slots := 6, locals := 112 }) [.ref x, .int v, .ref oj] [(x, .inr (4, [.ref a, .ref b, .ref t, .ref q, .ref q1, .int (nI kq), .int (nI al)])), (a, .inr (0, [.ref ka, .int (nI n)])), (ka, .inl (G.2.1, 24, .inl (nF k))), (oj, .inl (G.2.2, 1, .inr (.inl fo)))] (fun (r_ : Int32) (_ : Unit) => r_ = nI (drc v n)) (fun (_ : Unit) => [(x, .inr (4, [.ref a, .ref b, .ref t, .ref q, .ref q1, .int (nI kq), .int (nI al)])), (a, .inr (0, [.ref ka, .int (nI (if drc v n = 0 then n - 1 else n))])), (ka, .inl (G.2.1, 24, .inl (nF (if drc v n = 0 then tkt k (vN v) (n - 1) else k)))), (oj, .inl (G.2.2, 1, .inr (.inl (if drc v n = 0 then va_up fo 0 ((nI (k (vN v))).toInt64) else fo))))]) := by
  refine cs_sW (own := RL) (cc := cL_drop) (maxL := 4) (ret := (some .int)) (hh := [(0, 9, 12, 13)]) (by decide) rfl rfl (Nat.le_of_ble_eq_true rfl) ?_
  intro p e s m below meth c A htbl hZ hNc hx hb hr hml hts hown hlocks hinit hA hK hP hD hS ls hl
  have hl : lv_has ls 4 [(0, .ref x), (1, .int v), (2, .ref oj)] := hl
  refine lv_aload_n hx hb dL_drop_0 rfl (lv_at hl 2 rfl) ?_
  refine lv_iconst (v := nI 0) hx hb dL_drop_1 (by decide +kernel) ?_
  refine lv_aload_n hx hb dL_drop_2 rfl (lv_at hl 0 rfl) ?_
  refine lv_iload_n hx hb dL_drop_3 rfl (lv_at hl 1 rfl) ?_
  refine cs_xi (As := [.int v]) (rest := [.int (nI 0), .ref oj]) (wr := [(oj, .inl (G.2.2, 1, .inr (.inl fo)))]) ⟨hx, hb, hml, hown, hts⟩ hK hP hD hS hA hZ (c_X4_drop l G (by first | assumption | omega) sa x a b t q q1 kq al ka n k (by first | assumption | omega) (by first | assumption | omega) v) (cwV 1 hts gL_drop_X4_drop rfl rfl rfl (by decide +kernel) ⟨Nat.le_of_ble_eq_true rfl, Nat.le_of_ble_eq_true rfl⟩) [0, 1, 2] [3] ⟨rfl, rfl, by decide, by decide, by decide⟩ 0 4 rfl rfl rfl hl.1 rfl (Nat.le_of_ble_eq_true rfl) ⟨Nat.le_of_ble_eq_true rfl, Nat.le_of_ble_eq_true rfl⟩ dL_drop_4 (fun E ce q9 H locs hpx hP hD hS hce hcv hcl => ?_) (fun r u_1 H locs hw hP hD hS => ?_)
  · have hP : va_P G.1 vwCl [(x, .inr (4, [.ref a, .ref b, .ref t, .ref q, .ref q1, .int (nI kq), .int (nI al)])), (a, .inr (0, [.ref ka, .int (nI n)])), (ka, .inl (G.2.1, 24, .inl (nF k))), (oj, .inl (G.2.2, 1, .inr (.inl fo)))] H := hP.sub [1, 2, 3, 0] rfl
    have hD : va_D A [(x, .inr (4, [.ref a, .ref b, .ref t, .ref q, .ref q1, .int (nI kq), .int (nI al)])), (a, .inr (0, [.ref ka, .int (nI n)])), (ka, .inl (G.2.1, 24, .inl (nF k))), (oj, .inl (G.2.2, 1, .inr (.inl fo)))] := hD.sub [1, 2, 3, 0] (by decide) rfl
    obtain ⟨hc, rfl⟩ := hpx
    refine vx_catch (E := eIO) (name := eIO) hown [] ⟨0, 9, 12, 13⟩ [] htbl (fun z9 h9 => absurd h9 List.not_mem_nil) rfl (by decide) (hts (.classLink RL 13 "java/lang/IndexOutOfBoundsException") (List.mem_of_getElem? (i := 1) rfl)) (va_Nw.use (exW_ot _ (List.mem_of_getElem? (i := 3) rfl)) (hZ.2.2.2 (.castable eIO eIO) (List.mem_of_getElem? (i := 3) rfl))) hce hcv hcl ?_
    refine lv_astore_n (lv' := [(3, .ref q9), (0, .ref x), (1, .int v), (2, .ref oj)]) hx hb dL_drop_12 rfl hl (by decide) rfl (fun ls hl => ?_)
    refine lv_iconst (v := nI 1) hx hb dL_drop_13 (by decide +kernel) ?_
    exact cs_iret hx hb hr hlocks hK hP hD hS (v := nI 1) () (by rw [hc]) (by rw [hc]; rfl) dL_drop_14
  · have hP : va_P G.1 vwCl [(x, .inr (4, [.ref a, .ref b, .ref t, .ref q, .ref q1, .int (nI kq), .int (nI al)])), (a, .inr (0, [.ref ka, .int (nI (n - 1))])), (ka, .inl (G.2.1, 24, .inl (nF (tkt k (vN v) (n - 1))))), (oj, .inl (G.2.2, 1, .inr (.inl fo)))] H := hP.sub [1, 2, 3, 0] rfl
    have hD : va_D A [(x, .inr (4, [.ref a, .ref b, .ref t, .ref q, .ref q1, .int (nI kq), .int (nI al)])), (a, .inr (0, [.ref ka, .int (nI (n - 1))])), (ka, .inl (G.2.1, 24, .inl (nF (tkt k (vN v) (n - 1))))), (oj, .inl (G.2.2, 1, .inr (.inl fo)))] := hD.sub [1, 2, 3, 0] (by decide) rfl
    obtain ⟨rfl, hc⟩ := hw
    refine lv_i2l (v := (nI (k (vN v))).toInt64) hx hb dL_drop_7 (rfl) ?_
    refine va_last hx hb hK hP hD hS 3 1 rfl rfl (vp_in_nI (by omega) (by omega)) dL_drop_8 (fun H locs hP hD hS => ?_)
    rw [jF_upd _ (by omega)] at hP hD
    have hP : va_P G.1 vwCl [(x, .inr (4, [.ref a, .ref b, .ref t, .ref q, .ref q1, .int (nI kq), .int (nI al)])), (a, .inr (0, [.ref ka, .int (nI (n - 1))])), (ka, .inl (G.2.1, 24, .inl (nF (tkt k (vN v) (n - 1))))), (oj, .inl (G.2.2, 1, .inr (.inl (va_up fo 0 ((nI (k (vN v))).toInt64)))))] _ := hP
    have hD : va_D A [(x, .inr (4, [.ref a, .ref b, .ref t, .ref q, .ref q1, .int (nI kq), .int (nI al)])), (a, .inr (0, [.ref ka, .int (nI (n - 1))])), (ka, .inl (G.2.1, 24, .inl (nF (tkt k (vN v) (n - 1))))), (oj, .inl (G.2.2, 1, .inr (.inl (va_up fo 0 ((nI (k (vN v))).toInt64)))))] := hD
    refine lv_goto (tgt := 15) hx hb dL_drop_9 (by decide) ?_
    refine lv_iconst (v := nI 0) hx hb dL_drop_15 (by decide +kernel) ?_
    exact cs_iret hx hb hr hlocks hK hP hD hS (v := nI 0) () (by rw [hc]) (by rw [hc]; rfl) dL_drop_16

set_option maxHeartbeats 4000000 in
set_option maxRecDepth 100000 in
theorem c_L_kind (l : Launch) (G : cG) (hl9 : l.stackTraces = false) (sa : Nat → Nat) (x a b t q q1 kq al : Nat) (ka n : Nat) (k : Nat → Nat) (hn : n ≤ 24) (hk : ∀ j, j < n → k j < 16) (v : Int32) (oj : Nat) (fo : Nat → Int64) : cWI l G sa yL_kind wsL_kind ({ frames := 7, cells := 1, slots := 6, locals := 111 }) [.ref x, .int v, .ref oj] [(x, .inr (4, [.ref a, .ref b, .ref t, .ref q, .ref q1, .int (nI kq), .int (nI al)])), (a, .inr (0, [.ref ka, .int (nI n)])), (ka, .inl (G.2.1, 24, .inl (nF k))), (oj, .inl (G.2.2, 1, .inr (.inl fo)))] (fun (r_ : Int32) (_ : Unit) => r_ = nI (drc v n)) (fun (_ : Unit) => [(x, .inr (4, [.ref a, .ref b, .ref t, .ref q, .ref q1, .int (nI kq), .int (nI al)])), (a, .inr (0, [.ref ka, .int (nI n)])), (ka, .inl (G.2.1, 24, .inl (nF k))), (oj, .inl (G.2.2, 1, .inr (.inl (if drc v n = 0 then va_up fo 0 ((nI (k (vN v))).toInt64) else fo))))]) := by
  refine cs_sW (own := RL) (cc := cL_kind) (maxL := 4) (ret := (some .int)) (hh := [(0, 9, 12, 13)]) (by decide) rfl rfl (Nat.le_of_ble_eq_true rfl) ?_
  intro p e s m below meth c A htbl hZ hNc hx hb hr hml hts hown hlocks hinit hA hK hP hD hS ls hl
  have hl : lv_has ls 4 [(0, .ref x), (1, .int v), (2, .ref oj)] := hl
  refine lv_aload_n hx hb dL_kind_0 rfl (lv_at hl 2 rfl) ?_
  refine lv_iconst (v := nI 0) hx hb dL_kind_1 (by decide +kernel) ?_
  refine lv_aload_n hx hb dL_kind_2 rfl (lv_at hl 0 rfl) ?_
  refine lv_iload_n hx hb dL_kind_3 rfl (lv_at hl 1 rfl) ?_
  refine cs_xi (As := [.int v]) (rest := [.int (nI 0), .ref oj]) (wr := [(oj, .inl (G.2.2, 1, .inr (.inl fo)))]) ⟨hx, hb, hml, hown, hts⟩ hK hP hD hS hA hZ (c_X4_kind l G (by first | assumption | omega) sa x a b t q q1 kq al ka n k (by first | assumption | omega) (by first | assumption | omega) v) (cwV 1 hts gL_kind_X4_kind rfl rfl rfl (by decide +kernel) ⟨Nat.le_of_ble_eq_true rfl, Nat.le_of_ble_eq_true rfl⟩) [0, 1, 2] [3] ⟨rfl, rfl, by decide, by decide, by decide⟩ 0 4 rfl rfl rfl hl.1 rfl (Nat.le_of_ble_eq_true rfl) ⟨Nat.le_of_ble_eq_true rfl, Nat.le_of_ble_eq_true rfl⟩ dL_kind_4 (fun E ce q9 H locs hpx hP hD hS hce hcv hcl => ?_) (fun r u_1 H locs hw hP hD hS => ?_)
  · have hP : va_P G.1 vwCl [(x, .inr (4, [.ref a, .ref b, .ref t, .ref q, .ref q1, .int (nI kq), .int (nI al)])), (a, .inr (0, [.ref ka, .int (nI n)])), (ka, .inl (G.2.1, 24, .inl (nF k))), (oj, .inl (G.2.2, 1, .inr (.inl fo)))] H := hP.sub [1, 2, 3, 0] rfl
    have hD : va_D A [(x, .inr (4, [.ref a, .ref b, .ref t, .ref q, .ref q1, .int (nI kq), .int (nI al)])), (a, .inr (0, [.ref ka, .int (nI n)])), (ka, .inl (G.2.1, 24, .inl (nF k))), (oj, .inl (G.2.2, 1, .inr (.inl fo)))] := hD.sub [1, 2, 3, 0] (by decide) rfl
    obtain ⟨hc, rfl⟩ := hpx
    refine vx_catch (E := eIO) (name := eIO) hown [] ⟨0, 9, 12, 13⟩ [] htbl (fun z9 h9 => absurd h9 List.not_mem_nil) rfl (by decide) (hts (.classLink RL 13 "java/lang/IndexOutOfBoundsException") (List.mem_of_getElem? (i := 1) rfl)) (va_Nw.use (exW_ot _ (List.mem_of_getElem? (i := 3) rfl)) (hZ.2.2.2 (.castable eIO eIO) (List.mem_of_getElem? (i := 3) rfl))) hce hcv hcl ?_
    refine lv_astore_n (lv' := [(3, .ref q9), (0, .ref x), (1, .int v), (2, .ref oj)]) hx hb dL_kind_12 rfl hl (by decide) rfl (fun ls hl => ?_)
    refine lv_iconst (v := nI 1) hx hb dL_kind_13 (by decide +kernel) ?_
    exact cs_iret hx hb hr hlocks hK hP hD hS (v := nI 1) () (by rw [hc]) (by rw [hc]; rfl) dL_kind_14
  · have hP : va_P G.1 vwCl [(x, .inr (4, [.ref a, .ref b, .ref t, .ref q, .ref q1, .int (nI kq), .int (nI al)])), (a, .inr (0, [.ref ka, .int (nI n)])), (ka, .inl (G.2.1, 24, .inl (nF k))), (oj, .inl (G.2.2, 1, .inr (.inl fo)))] H := hP.sub [1, 2, 3, 0] rfl
    have hD : va_D A [(x, .inr (4, [.ref a, .ref b, .ref t, .ref q, .ref q1, .int (nI kq), .int (nI al)])), (a, .inr (0, [.ref ka, .int (nI n)])), (ka, .inl (G.2.1, 24, .inl (nF k))), (oj, .inl (G.2.2, 1, .inr (.inl fo)))] := hD.sub [1, 2, 3, 0] (by decide) rfl
    obtain ⟨rfl, hc⟩ := hw
    refine lv_i2l (v := (nI (k (vN v))).toInt64) hx hb dL_kind_7 (rfl) ?_
    refine va_last hx hb hK hP hD hS 3 1 rfl rfl (vp_in_nI (by omega) (by omega)) dL_kind_8 (fun H locs hP hD hS => ?_)
    rw [jF_upd _ (by omega)] at hP hD
    have hP : va_P G.1 vwCl [(x, .inr (4, [.ref a, .ref b, .ref t, .ref q, .ref q1, .int (nI kq), .int (nI al)])), (a, .inr (0, [.ref ka, .int (nI n)])), (ka, .inl (G.2.1, 24, .inl (nF k))), (oj, .inl (G.2.2, 1, .inr (.inl (va_up fo 0 ((nI (k (vN v))).toInt64)))))] _ := hP
    have hD : va_D A [(x, .inr (4, [.ref a, .ref b, .ref t, .ref q, .ref q1, .int (nI kq), .int (nI al)])), (a, .inr (0, [.ref ka, .int (nI n)])), (ka, .inl (G.2.1, 24, .inl (nF k))), (oj, .inl (G.2.2, 1, .inr (.inl (va_up fo 0 ((nI (k (vN v))).toInt64)))))] := hD
    refine lv_goto (tgt := 15) hx hb dL_kind_9 (by decide) ?_
    refine lv_iconst (v := nI 0) hx hb dL_kind_15 (by decide +kernel) ?_
    exact cs_iret hx hb hr hlocks hK hP hD hS (v := nI 0) () (by rw [hc]) (by rw [hc]; rfl) dL_kind_16

set_option maxHeartbeats 4000000 in
set_option maxRecDepth 100000 in
theorem c_L_rule (l : Launch) (G : cG) (hl9 : l.stackTraces = false) (sa : Nat → Nat) (x a b t q q1 kq al : Nat) (nb sb rc : Nat) (ne sp : Nat → Nat) (hrc : rc ≤ 6) (hne : ∀ j, j < 6 → ne j < 65536) (hsp : ∀ j, j < 6 → sp j < 65536) (oj : Nat) (fo : Nat → Int64) : cWI l G sa yL_rule wsL_rule ({ frames := 7, cells := 1, slots := 6, locals := 110 }) [.ref x, .ref oj] [(x, .inr (4, [.ref a, .ref b, .ref t, .ref q, .ref q1, .int (nI kq), .int (nI al)])), (b, .inr (1, [.ref nb, .ref sb, .int (nI rc)])), (nb, .inl (G.2.1, 6, .inl (nF ne))), (sb, .inl (G.2.1, 6, .inl (nF sp))), (oj, .inl (G.2.2, 1, .inr (.inl fo)))] (fun (r_ : Int32) (_ : Unit) => r_ = nI (rlc rc)) (fun (_ : Unit) => [(x, .inr (4, [.ref a, .ref b, .ref t, .ref q, .ref q1, .int (nI kq), .int (nI al)])), (b, .inr (1, [.ref nb, .ref sb, .int (nI (if rlc rc = 0 then rc + 1 else rc))])), (nb, .inl (G.2.1, 6, .inl (nF ne))), (sb, .inl (G.2.1, 6, .inl (nF sp))), (oj, .inl (G.2.2, 1, .inr (.inl (if rlc rc = 0 then va_up fo 0 ((nI (rc)).toInt64) else fo))))]) := by
  refine cs_sW (own := RL) (cc := cL_rule) (maxL := 3) (ret := (some .int)) (hh := [(0, 8, 11, 15)]) (by decide) rfl rfl (Nat.le_of_ble_eq_true rfl) ?_
  intro p e s m below meth c A htbl hZ hNc hx hb hr hml hts hown hlocks hinit hA hK hP hD hS ls hl
  have hl : lv_has ls 3 [(0, .ref x), (1, .ref oj)] := hl
  refine lv_aload_n hx hb dL_rule_0 rfl (lv_at hl 1 rfl) ?_
  refine lv_iconst (v := nI 0) hx hb dL_rule_1 (by decide +kernel) ?_
  refine lv_aload_n hx hb dL_rule_2 rfl (lv_at hl 0 rfl) ?_
  refine cs_xi (As := []) (rest := [.int (nI 0), .ref oj]) (wr := [(oj, .inl (G.2.2, 1, .inr (.inl fo)))]) ⟨hx, hb, hml, hown, hts⟩ hK hP hD hS hA hZ (c_X4_rule l G (by first | assumption | omega) sa x a b t q q1 kq al nb sb rc ne sp (by first | assumption | omega) (by first | assumption | omega) (by first | assumption | omega)) (cwV 0 hts gL_rule_X4_rule rfl rfl rfl (by decide +kernel) ⟨Nat.le_of_ble_eq_true rfl, Nat.le_of_ble_eq_true rfl⟩) [0, 1, 2, 3] [4] ⟨rfl, rfl, by decide, by decide, by decide⟩ 0 4 rfl rfl rfl hl.1 rfl (Nat.le_of_ble_eq_true rfl) ⟨Nat.le_of_ble_eq_true rfl, Nat.le_of_ble_eq_true rfl⟩ dL_rule_3 (fun E ce q9 H locs hpx hP hD hS hce hcv hcl => ?_) (fun r u_1 H locs hw hP hD hS => ?_)
  · have hP : va_P G.1 vwCl [(x, .inr (4, [.ref a, .ref b, .ref t, .ref q, .ref q1, .int (nI kq), .int (nI al)])), (b, .inr (1, [.ref nb, .ref sb, .int (nI rc)])), (nb, .inl (G.2.1, 6, .inl (nF ne))), (sb, .inl (G.2.1, 6, .inl (nF sp))), (oj, .inl (G.2.2, 1, .inr (.inl fo)))] H := hP.sub [1, 2, 3, 4, 0] rfl
    have hD : va_D A [(x, .inr (4, [.ref a, .ref b, .ref t, .ref q, .ref q1, .int (nI kq), .int (nI al)])), (b, .inr (1, [.ref nb, .ref sb, .int (nI rc)])), (nb, .inl (G.2.1, 6, .inl (nF ne))), (sb, .inl (G.2.1, 6, .inl (nF sp))), (oj, .inl (G.2.2, 1, .inr (.inl fo)))] := hD.sub [1, 2, 3, 4, 0] (by decide) rfl
    obtain ⟨hc, rfl⟩ := hpx
    refine vx_catch (E := eIS) (name := eIS) hown [] ⟨0, 8, 11, 15⟩ [] htbl (fun z9 h9 => absurd h9 List.not_mem_nil) rfl (by decide) (hts (.classLink RL 15 "java/lang/IllegalStateException") (List.mem_of_getElem? (i := 1) rfl)) (va_Nw.use (exW_ot _ (List.mem_of_getElem? (i := 4) rfl)) (hZ.2.2.2 (.castable eIS eIS) (List.mem_of_getElem? (i := 4) rfl))) hce hcv hcl ?_
    refine lv_astore_n (lv' := [(2, .ref q9), (0, .ref x), (1, .ref oj)]) hx hb dL_rule_11 rfl hl (by decide) rfl (fun ls hl => ?_)
    refine lv_iconst (v := nI 1) hx hb dL_rule_12 (by decide +kernel) ?_
    exact cs_iret hx hb hr hlocks hK hP hD hS (v := nI 1) () (by rw [hc]) (by rw [hc]; rfl) dL_rule_13
  · have hP : va_P G.1 vwCl [(x, .inr (4, [.ref a, .ref b, .ref t, .ref q, .ref q1, .int (nI kq), .int (nI al)])), (b, .inr (1, [.ref nb, .ref sb, .int (nI (rc + 1))])), (nb, .inl (G.2.1, 6, .inl (nF ne))), (sb, .inl (G.2.1, 6, .inl (nF sp))), (oj, .inl (G.2.2, 1, .inr (.inl fo)))] H := hP.sub [1, 2, 3, 4, 0] rfl
    have hD : va_D A [(x, .inr (4, [.ref a, .ref b, .ref t, .ref q, .ref q1, .int (nI kq), .int (nI al)])), (b, .inr (1, [.ref nb, .ref sb, .int (nI (rc + 1))])), (nb, .inl (G.2.1, 6, .inl (nF ne))), (sb, .inl (G.2.1, 6, .inl (nF sp))), (oj, .inl (G.2.2, 1, .inr (.inl fo)))] := hD.sub [1, 2, 3, 4, 0] (by decide) rfl
    obtain ⟨rfl, hc⟩ := hw
    refine lv_i2l (v := (nI rc).toInt64) hx hb dL_rule_6 (rfl) ?_
    refine va_last hx hb hK hP hD hS 4 1 rfl rfl (vp_in_nI (by omega) (by omega)) dL_rule_7 (fun H locs hP hD hS => ?_)
    rw [jF_upd _ (by omega)] at hP hD
    have hP : va_P G.1 vwCl [(x, .inr (4, [.ref a, .ref b, .ref t, .ref q, .ref q1, .int (nI kq), .int (nI al)])), (b, .inr (1, [.ref nb, .ref sb, .int (nI (rc + 1))])), (nb, .inl (G.2.1, 6, .inl (nF ne))), (sb, .inl (G.2.1, 6, .inl (nF sp))), (oj, .inl (G.2.2, 1, .inr (.inl (va_up fo 0 ((nI rc).toInt64)))))] _ := hP
    have hD : va_D A [(x, .inr (4, [.ref a, .ref b, .ref t, .ref q, .ref q1, .int (nI kq), .int (nI al)])), (b, .inr (1, [.ref nb, .ref sb, .int (nI (rc + 1))])), (nb, .inl (G.2.1, 6, .inl (nF ne))), (sb, .inl (G.2.1, 6, .inl (nF sp))), (oj, .inl (G.2.2, 1, .inr (.inl (va_up fo 0 ((nI rc).toInt64)))))] := hD
    refine lv_goto (tgt := 14) hx hb dL_rule_8 (by decide) ?_
    refine lv_iconst (v := nI 0) hx hb dL_rule_14 (by decide +kernel) ?_
    exact cs_iret hx hb hr hlocks hK hP hD hS (v := nI 0) () (by rw [hc]) (by rw [hc]; rfl) dL_rule_15

set_option maxHeartbeats 4000000 in
set_option maxRecDepth 100000 in
theorem c_L_setNeeds (l : Launch) (G : cG) (hl9 : l.stackTraces = false) (sa : Nat → Nat) (x a b t q q1 kq al : Nat) (nb sb rc : Nat) (ne sp : Nat → Nat) (hrc : rc ≤ 6) (hne : ∀ j, j < 6 → ne j < 65536) (hsp : ∀ j, j < 6 → sp j < 65536) (x1 x2 : Int32) (ib : Bool) (oj : Nat) (fo : Nat → Int64) : cWI l G sa yL_setNeeds wsL_setNeeds ({ frames := 7, cells := 1, slots := 6, locals := 114 }) [.ref x, .int x1, .int x2, .int (bI ib), .ref oj] [(x, .inr (4, [.ref a, .ref b, .ref t, .ref q, .ref q1, .int (nI kq), .int (nI al)])), (b, .inr (1, [.ref nb, .ref sb, .int (nI rc)])), (nb, .inl (G.2.1, 6, .inl (nF ne))), (sb, .inl (G.2.1, 6, .inl (nF sp))), (oj, .inl (G.2.2, 1, .inr (.inl fo)))] (fun (r_ : Int32) (_ : Unit) => r_ = nI (stc x1 x2 ib rc sp)) (fun (_ : Unit) => [(x, .inr (4, [.ref a, .ref b, .ref t, .ref q, .ref q1, .int (nI kq), .int (nI al)])), (b, .inr (1, [.ref nb, .ref sb, .int (nI rc)])), (nb, .inl (G.2.1, 6, .inl (nF (if stc x1 x2 ib rc sp = 0 then va_up ne (vN x1) (wb (ne (vN x1)) (vN x2) ib) else ne)))), (sb, .inl (G.2.1, 6, .inl (nF sp))), (oj, .inl (G.2.2, 1, .inr (.inl (if stc x1 x2 ib rc sp = 0 then va_up fo 0 (bL ((ne (vN x1)).testBit (vN x2))) else fo))))]) := by
  refine cs_sW (own := RL) (cc := cL_setNeeds) (maxL := 6) (ret := (some .int)) (hh := [(0, 19, 22, 13), (0, 19, 26, 15)]) (by decide) rfl rfl (Nat.le_of_ble_eq_true rfl) ?_
  intro p e s m below meth c A htbl hZ hNc hx hb hr hml hts hown hlocks hinit hA hK hP hD hS ls hl
  have hl : lv_has ls 6 [(0, .ref x), (1, .int x1), (2, .int x2), (3, .int (bI ib)), (4, .ref oj)] := hl
  refine lv_aload hx hb dL_setNeeds_0 (lv_at hl 4 rfl) ?_
  refine lv_iconst (v := nI 0) hx hb dL_setNeeds_2 (by decide +kernel) ?_
  refine lv_aload_n hx hb dL_setNeeds_3 rfl (lv_at hl 0 rfl) ?_
  refine lv_iload_n hx hb dL_setNeeds_4 rfl (lv_at hl 1 rfl) ?_
  refine lv_iload_n hx hb dL_setNeeds_5 rfl (lv_at hl 2 rfl) ?_
  refine lv_iload_n hx hb dL_setNeeds_6 rfl (lv_at hl 3 rfl) ?_
  refine cs_xi (As := [.int x1, .int x2, .int (bI ib)]) (rest := [.int (nI 0), .ref oj]) (wr := [(oj, .inl (G.2.2, 1, .inr (.inl fo)))]) ⟨hx, hb, hml, hown, hts⟩ hK hP hD hS hA hZ (c_X4_setNeeds l G (by first | assumption | omega) sa x a b t q q1 kq al nb sb rc ne sp (by first | assumption | omega) (by first | assumption | omega) (by first | assumption | omega) x1 x2 ib) (cwV 3 hts gL_setNeeds_X4_setNeeds rfl rfl rfl (by decide +kernel) ⟨Nat.le_of_ble_eq_true rfl, Nat.le_of_ble_eq_true rfl⟩) [0, 1, 2, 3] [4] ⟨rfl, rfl, by decide, by decide, by decide⟩ 0 4 rfl rfl rfl hl.1 rfl (Nat.le_of_ble_eq_true rfl) ⟨Nat.le_of_ble_eq_true rfl, Nat.le_of_ble_eq_true rfl⟩ dL_setNeeds_7 (fun E ce q9 H locs hpx hP hD hS hce hcv hcl => ?_) (fun r u_1 H locs hw hP hD hS => ?_)
  · have hP : va_P G.1 vwCl [(x, .inr (4, [.ref a, .ref b, .ref t, .ref q, .ref q1, .int (nI kq), .int (nI al)])), (b, .inr (1, [.ref nb, .ref sb, .int (nI rc)])), (nb, .inl (G.2.1, 6, .inl (nF ne))), (sb, .inl (G.2.1, 6, .inl (nF sp))), (oj, .inl (G.2.2, 1, .inr (.inl fo)))] H := hP.sub [1, 2, 3, 4, 0] rfl
    have hD : va_D A [(x, .inr (4, [.ref a, .ref b, .ref t, .ref q, .ref q1, .int (nI kq), .int (nI al)])), (b, .inr (1, [.ref nb, .ref sb, .int (nI rc)])), (nb, .inl (G.2.1, 6, .inl (nF ne))), (sb, .inl (G.2.1, 6, .inl (nF sp))), (oj, .inl (G.2.2, 1, .inr (.inl fo)))] := hD.sub [1, 2, 3, 4, 0] (by decide) rfl
    rcases hpx with ⟨hc, rfl⟩ | ⟨hc, rfl⟩
    · refine vx_catch (E := eIO) (name := eIO) hown [] ⟨0, 19, 22, 13⟩ [⟨0, 19, 26, 15⟩] htbl (fun z9 h9 => absurd h9 List.not_mem_nil) rfl (by decide) (hts (.classLink RL 13 "java/lang/IndexOutOfBoundsException") (List.mem_of_getElem? (i := 1) rfl)) (va_Nw.use (exW_ot _ (List.mem_of_getElem? (i := 3) rfl)) (hZ.2.2.2 (.castable eIO eIO) (List.mem_of_getElem? (i := 3) rfl))) hce hcv hcl ?_
      refine lv_astore (lv' := [(5, .ref q9), (0, .ref x), (1, .int x1), (2, .int x2), (3, .int (bI ib)), (4, .ref oj)]) hx hb dL_setNeeds_22 hl (by decide) rfl (fun ls hl => ?_)
      refine lv_iconst (v := nI 1) hx hb dL_setNeeds_24 (by decide +kernel) ?_
      exact cs_iret hx hb hr hlocks hK hP hD hS (v := nI 1) () (by rw [hc]) (by rw [hc]; rfl) dL_setNeeds_25
    · refine vx_catch (E := eIS) (name := eIS) hown [⟨0, 19, 22, 13⟩] ⟨0, 19, 26, 15⟩ [] htbl (fun z9 h9 => by rw [List.mem_singleton.mp h9]; exact Or.inr ⟨by decide, eIO, hts (.classLink RL 13 "java/lang/IndexOutOfBoundsException") (List.mem_of_getElem? (i := 1) rfl), hNc⟩) rfl (by decide) (hts (.classLink RL 15 "java/lang/IllegalStateException") (List.mem_of_getElem? (i := 2) rfl)) (va_Nw.use (exW_ot _ (List.mem_of_getElem? (i := 4) rfl)) (hZ.2.2.2 (.castable eIS eIS) (List.mem_of_getElem? (i := 4) rfl))) hce hcv hcl ?_
      refine lv_astore (lv' := [(5, .ref q9), (0, .ref x), (1, .int x1), (2, .int x2), (3, .int (bI ib)), (4, .ref oj)]) hx hb dL_setNeeds_26 hl (by decide) rfl (fun ls hl => ?_)
      refine lv_iconst (v := nI 2) hx hb dL_setNeeds_28 (by decide +kernel) ?_
      exact cs_iret hx hb hr hlocks hK hP hD hS (v := nI 2) () (by rw [hc]) (by rw [hc]; rfl) dL_setNeeds_29
  · have hP : va_P G.1 vwCl [(x, .inr (4, [.ref a, .ref b, .ref t, .ref q, .ref q1, .int (nI kq), .int (nI al)])), (b, .inr (1, [.ref nb, .ref sb, .int (nI rc)])), (nb, .inl (G.2.1, 6, .inl (nF (va_up ne (vN x1) (wb (ne (vN x1)) (vN x2) ib))))), (sb, .inl (G.2.1, 6, .inl (nF sp))), (oj, .inl (G.2.2, 1, .inr (.inl fo)))] H := hP.sub [1, 2, 3, 4, 0] rfl
    have hD : va_D A [(x, .inr (4, [.ref a, .ref b, .ref t, .ref q, .ref q1, .int (nI kq), .int (nI al)])), (b, .inr (1, [.ref nb, .ref sb, .int (nI rc)])), (nb, .inl (G.2.1, 6, .inl (nF (va_up ne (vN x1) (wb (ne (vN x1)) (vN x2) ib))))), (sb, .inl (G.2.1, 6, .inl (nF sp))), (oj, .inl (G.2.2, 1, .inr (.inl fo)))] := hD.sub [1, 2, 3, 4, 0] (by decide) rfl
    obtain ⟨rfl, hc⟩ := hw
    refine lv_if_eq (tgt := 17) hx hb dL_setNeeds_10 (by decide) (fun c_10 => ?_) (fun c_10 => ?_)
    · have c_10 := bI_0 c_10
      refine lv_lconst (v := lN 0) hx hb dL_setNeeds_17 (by decide +kernel) ?_
      refine cs_l (y := bL ((ne (vN x1)).testBit (vN x2))) (by rw [c_10]; rfl) ?_
      refine va_last hx hb hK hP hD hS 4 1 rfl rfl (vp_in_nI (by omega) (by omega)) dL_setNeeds_18 (fun H locs hP hD hS => ?_)
      rw [jF_upd _ (by omega)] at hP hD
      have hP : va_P G.1 vwCl [(x, .inr (4, [.ref a, .ref b, .ref t, .ref q, .ref q1, .int (nI kq), .int (nI al)])), (b, .inr (1, [.ref nb, .ref sb, .int (nI rc)])), (nb, .inl (G.2.1, 6, .inl (nF (va_up ne (vN x1) (wb (ne (vN x1)) (vN x2) ib))))), (sb, .inl (G.2.1, 6, .inl (nF sp))), (oj, .inl (G.2.2, 1, .inr (.inl (va_up fo 0 (bL ((ne (vN x1)).testBit (vN x2)))))))] _ := hP
      have hD : va_D A [(x, .inr (4, [.ref a, .ref b, .ref t, .ref q, .ref q1, .int (nI kq), .int (nI al)])), (b, .inr (1, [.ref nb, .ref sb, .int (nI rc)])), (nb, .inl (G.2.1, 6, .inl (nF (va_up ne (vN x1) (wb (ne (vN x1)) (vN x2) ib))))), (sb, .inl (G.2.1, 6, .inl (nF sp))), (oj, .inl (G.2.2, 1, .inr (.inl (va_up fo 0 (bL ((ne (vN x1)).testBit (vN x2)))))))] := hD
      refine lv_goto (tgt := 30) hx hb dL_setNeeds_19 (by decide) ?_
      refine lv_iconst (v := nI 0) hx hb dL_setNeeds_30 (by decide +kernel) ?_
      exact cs_iret hx hb hr hlocks hK hP hD hS (v := nI 0) () (by rw [hc]) (by rw [hc]; rfl) dL_setNeeds_31
    · have c_10 := bI_n0 c_10
      refine lv_lconst (v := lN 1) hx hb dL_setNeeds_13 (by decide +kernel) ?_
      refine cs_l (y := bL ((ne (vN x1)).testBit (vN x2))) (by rw [c_10]; rfl) ?_
      refine lv_goto (tgt := 18) hx hb dL_setNeeds_14 (by decide) ?_
      refine va_last hx hb hK hP hD hS 4 1 rfl rfl (vp_in_nI (by omega) (by omega)) dL_setNeeds_18 (fun H locs hP hD hS => ?_)
      rw [jF_upd _ (by omega)] at hP hD
      have hP : va_P G.1 vwCl [(x, .inr (4, [.ref a, .ref b, .ref t, .ref q, .ref q1, .int (nI kq), .int (nI al)])), (b, .inr (1, [.ref nb, .ref sb, .int (nI rc)])), (nb, .inl (G.2.1, 6, .inl (nF (va_up ne (vN x1) (wb (ne (vN x1)) (vN x2) ib))))), (sb, .inl (G.2.1, 6, .inl (nF sp))), (oj, .inl (G.2.2, 1, .inr (.inl (va_up fo 0 (bL ((ne (vN x1)).testBit (vN x2)))))))] _ := hP
      have hD : va_D A [(x, .inr (4, [.ref a, .ref b, .ref t, .ref q, .ref q1, .int (nI kq), .int (nI al)])), (b, .inr (1, [.ref nb, .ref sb, .int (nI rc)])), (nb, .inl (G.2.1, 6, .inl (nF (va_up ne (vN x1) (wb (ne (vN x1)) (vN x2) ib))))), (sb, .inl (G.2.1, 6, .inl (nF sp))), (oj, .inl (G.2.2, 1, .inr (.inl (va_up fo 0 (bL ((ne (vN x1)).testBit (vN x2)))))))] := hD
      refine lv_goto (tgt := 30) hx hb dL_setNeeds_19 (by decide) ?_
      refine lv_iconst (v := nI 0) hx hb dL_setNeeds_30 (by decide +kernel) ?_
      exact cs_iret hx hb hr hlocks hK hP hD hS (v := nI 0) () (by rw [hc]) (by rw [hc]; rfl) dL_setNeeds_31

set_option maxHeartbeats 4000000 in
set_option maxRecDepth 100000 in
theorem c_L_setSpares (l : Launch) (G : cG) (hl9 : l.stackTraces = false) (sa : Nat → Nat) (x a b t q q1 kq al : Nat) (nb sb rc : Nat) (ne sp : Nat → Nat) (hrc : rc ≤ 6) (hne : ∀ j, j < 6 → ne j < 65536) (hsp : ∀ j, j < 6 → sp j < 65536) (x1 x2 : Int32) (ib : Bool) (oj : Nat) (fo : Nat → Int64) : cWI l G sa yL_setSpares wsL_setSpares ({ frames := 7, cells := 1, slots := 6, locals := 114 }) [.ref x, .int x1, .int x2, .int (bI ib), .ref oj] [(x, .inr (4, [.ref a, .ref b, .ref t, .ref q, .ref q1, .int (nI kq), .int (nI al)])), (b, .inr (1, [.ref nb, .ref sb, .int (nI rc)])), (nb, .inl (G.2.1, 6, .inl (nF ne))), (sb, .inl (G.2.1, 6, .inl (nF sp))), (oj, .inl (G.2.2, 1, .inr (.inl fo)))] (fun (r_ : Int32) (_ : Unit) => r_ = nI (stc x1 x2 ib rc ne)) (fun (_ : Unit) => [(x, .inr (4, [.ref a, .ref b, .ref t, .ref q, .ref q1, .int (nI kq), .int (nI al)])), (b, .inr (1, [.ref nb, .ref sb, .int (nI rc)])), (nb, .inl (G.2.1, 6, .inl (nF ne))), (sb, .inl (G.2.1, 6, .inl (nF (if stc x1 x2 ib rc ne = 0 then va_up sp (vN x1) (wb (sp (vN x1)) (vN x2) ib) else sp)))), (oj, .inl (G.2.2, 1, .inr (.inl (if stc x1 x2 ib rc ne = 0 then va_up fo 0 (bL ((sp (vN x1)).testBit (vN x2))) else fo))))]) := by
  refine cs_sW (own := RL) (cc := cL_setSpares) (maxL := 6) (ret := (some .int)) (hh := [(0, 19, 22, 13), (0, 19, 26, 15)]) (by decide) rfl rfl (Nat.le_of_ble_eq_true rfl) ?_
  intro p e s m below meth c A htbl hZ hNc hx hb hr hml hts hown hlocks hinit hA hK hP hD hS ls hl
  have hl : lv_has ls 6 [(0, .ref x), (1, .int x1), (2, .int x2), (3, .int (bI ib)), (4, .ref oj)] := hl
  refine lv_aload hx hb dL_setSpares_0 (lv_at hl 4 rfl) ?_
  refine lv_iconst (v := nI 0) hx hb dL_setSpares_2 (by decide +kernel) ?_
  refine lv_aload_n hx hb dL_setSpares_3 rfl (lv_at hl 0 rfl) ?_
  refine lv_iload_n hx hb dL_setSpares_4 rfl (lv_at hl 1 rfl) ?_
  refine lv_iload_n hx hb dL_setSpares_5 rfl (lv_at hl 2 rfl) ?_
  refine lv_iload_n hx hb dL_setSpares_6 rfl (lv_at hl 3 rfl) ?_
  refine cs_xi (As := [.int x1, .int x2, .int (bI ib)]) (rest := [.int (nI 0), .ref oj]) (wr := [(oj, .inl (G.2.2, 1, .inr (.inl fo)))]) ⟨hx, hb, hml, hown, hts⟩ hK hP hD hS hA hZ (c_X4_setSpares l G (by first | assumption | omega) sa x a b t q q1 kq al nb sb rc ne sp (by first | assumption | omega) (by first | assumption | omega) (by first | assumption | omega) x1 x2 ib) (cwV 3 hts gL_setSpares_X4_setSpares rfl rfl rfl (by decide +kernel) ⟨Nat.le_of_ble_eq_true rfl, Nat.le_of_ble_eq_true rfl⟩) [0, 1, 2, 3] [4] ⟨rfl, rfl, by decide, by decide, by decide⟩ 0 4 rfl rfl rfl hl.1 rfl (Nat.le_of_ble_eq_true rfl) ⟨Nat.le_of_ble_eq_true rfl, Nat.le_of_ble_eq_true rfl⟩ dL_setSpares_7 (fun E ce q9 H locs hpx hP hD hS hce hcv hcl => ?_) (fun r u_1 H locs hw hP hD hS => ?_)
  · have hP : va_P G.1 vwCl [(x, .inr (4, [.ref a, .ref b, .ref t, .ref q, .ref q1, .int (nI kq), .int (nI al)])), (b, .inr (1, [.ref nb, .ref sb, .int (nI rc)])), (nb, .inl (G.2.1, 6, .inl (nF ne))), (sb, .inl (G.2.1, 6, .inl (nF sp))), (oj, .inl (G.2.2, 1, .inr (.inl fo)))] H := hP.sub [1, 2, 3, 4, 0] rfl
    have hD : va_D A [(x, .inr (4, [.ref a, .ref b, .ref t, .ref q, .ref q1, .int (nI kq), .int (nI al)])), (b, .inr (1, [.ref nb, .ref sb, .int (nI rc)])), (nb, .inl (G.2.1, 6, .inl (nF ne))), (sb, .inl (G.2.1, 6, .inl (nF sp))), (oj, .inl (G.2.2, 1, .inr (.inl fo)))] := hD.sub [1, 2, 3, 4, 0] (by decide) rfl
    rcases hpx with ⟨hc, rfl⟩ | ⟨hc, rfl⟩
    · refine vx_catch (E := eIO) (name := eIO) hown [] ⟨0, 19, 22, 13⟩ [⟨0, 19, 26, 15⟩] htbl (fun z9 h9 => absurd h9 List.not_mem_nil) rfl (by decide) (hts (.classLink RL 13 "java/lang/IndexOutOfBoundsException") (List.mem_of_getElem? (i := 1) rfl)) (va_Nw.use (exW_ot _ (List.mem_of_getElem? (i := 3) rfl)) (hZ.2.2.2 (.castable eIO eIO) (List.mem_of_getElem? (i := 3) rfl))) hce hcv hcl ?_
      refine lv_astore (lv' := [(5, .ref q9), (0, .ref x), (1, .int x1), (2, .int x2), (3, .int (bI ib)), (4, .ref oj)]) hx hb dL_setSpares_22 hl (by decide) rfl (fun ls hl => ?_)
      refine lv_iconst (v := nI 1) hx hb dL_setSpares_24 (by decide +kernel) ?_
      exact cs_iret hx hb hr hlocks hK hP hD hS (v := nI 1) () (by rw [hc]) (by rw [hc]; rfl) dL_setSpares_25
    · refine vx_catch (E := eIS) (name := eIS) hown [⟨0, 19, 22, 13⟩] ⟨0, 19, 26, 15⟩ [] htbl (fun z9 h9 => by rw [List.mem_singleton.mp h9]; exact Or.inr ⟨by decide, eIO, hts (.classLink RL 13 "java/lang/IndexOutOfBoundsException") (List.mem_of_getElem? (i := 1) rfl), hNc⟩) rfl (by decide) (hts (.classLink RL 15 "java/lang/IllegalStateException") (List.mem_of_getElem? (i := 2) rfl)) (va_Nw.use (exW_ot _ (List.mem_of_getElem? (i := 4) rfl)) (hZ.2.2.2 (.castable eIS eIS) (List.mem_of_getElem? (i := 4) rfl))) hce hcv hcl ?_
      refine lv_astore (lv' := [(5, .ref q9), (0, .ref x), (1, .int x1), (2, .int x2), (3, .int (bI ib)), (4, .ref oj)]) hx hb dL_setSpares_26 hl (by decide) rfl (fun ls hl => ?_)
      refine lv_iconst (v := nI 2) hx hb dL_setSpares_28 (by decide +kernel) ?_
      exact cs_iret hx hb hr hlocks hK hP hD hS (v := nI 2) () (by rw [hc]) (by rw [hc]; rfl) dL_setSpares_29
  · have hP : va_P G.1 vwCl [(x, .inr (4, [.ref a, .ref b, .ref t, .ref q, .ref q1, .int (nI kq), .int (nI al)])), (b, .inr (1, [.ref nb, .ref sb, .int (nI rc)])), (nb, .inl (G.2.1, 6, .inl (nF ne))), (sb, .inl (G.2.1, 6, .inl (nF (va_up sp (vN x1) (wb (sp (vN x1)) (vN x2) ib))))), (oj, .inl (G.2.2, 1, .inr (.inl fo)))] H := hP.sub [1, 2, 3, 4, 0] rfl
    have hD : va_D A [(x, .inr (4, [.ref a, .ref b, .ref t, .ref q, .ref q1, .int (nI kq), .int (nI al)])), (b, .inr (1, [.ref nb, .ref sb, .int (nI rc)])), (nb, .inl (G.2.1, 6, .inl (nF ne))), (sb, .inl (G.2.1, 6, .inl (nF (va_up sp (vN x1) (wb (sp (vN x1)) (vN x2) ib))))), (oj, .inl (G.2.2, 1, .inr (.inl fo)))] := hD.sub [1, 2, 3, 4, 0] (by decide) rfl
    obtain ⟨rfl, hc⟩ := hw
    refine lv_if_eq (tgt := 17) hx hb dL_setSpares_10 (by decide) (fun c_10 => ?_) (fun c_10 => ?_)
    · have c_10 := bI_0 c_10
      refine lv_lconst (v := lN 0) hx hb dL_setSpares_17 (by decide +kernel) ?_
      refine cs_l (y := bL ((sp (vN x1)).testBit (vN x2))) (by rw [c_10]; rfl) ?_
      refine va_last hx hb hK hP hD hS 4 1 rfl rfl (vp_in_nI (by omega) (by omega)) dL_setSpares_18 (fun H locs hP hD hS => ?_)
      rw [jF_upd _ (by omega)] at hP hD
      have hP : va_P G.1 vwCl [(x, .inr (4, [.ref a, .ref b, .ref t, .ref q, .ref q1, .int (nI kq), .int (nI al)])), (b, .inr (1, [.ref nb, .ref sb, .int (nI rc)])), (nb, .inl (G.2.1, 6, .inl (nF ne))), (sb, .inl (G.2.1, 6, .inl (nF (va_up sp (vN x1) (wb (sp (vN x1)) (vN x2) ib))))), (oj, .inl (G.2.2, 1, .inr (.inl (va_up fo 0 (bL ((sp (vN x1)).testBit (vN x2)))))))] _ := hP
      have hD : va_D A [(x, .inr (4, [.ref a, .ref b, .ref t, .ref q, .ref q1, .int (nI kq), .int (nI al)])), (b, .inr (1, [.ref nb, .ref sb, .int (nI rc)])), (nb, .inl (G.2.1, 6, .inl (nF ne))), (sb, .inl (G.2.1, 6, .inl (nF (va_up sp (vN x1) (wb (sp (vN x1)) (vN x2) ib))))), (oj, .inl (G.2.2, 1, .inr (.inl (va_up fo 0 (bL ((sp (vN x1)).testBit (vN x2)))))))] := hD
      refine lv_goto (tgt := 30) hx hb dL_setSpares_19 (by decide) ?_
      refine lv_iconst (v := nI 0) hx hb dL_setSpares_30 (by decide +kernel) ?_
      exact cs_iret hx hb hr hlocks hK hP hD hS (v := nI 0) () (by rw [hc]) (by rw [hc]; rfl) dL_setSpares_31
    · have c_10 := bI_n0 c_10
      refine lv_lconst (v := lN 1) hx hb dL_setSpares_13 (by decide +kernel) ?_
      refine cs_l (y := bL ((sp (vN x1)).testBit (vN x2))) (by rw [c_10]; rfl) ?_
      refine lv_goto (tgt := 18) hx hb dL_setSpares_14 (by decide) ?_
      refine va_last hx hb hK hP hD hS 4 1 rfl rfl (vp_in_nI (by omega) (by omega)) dL_setSpares_18 (fun H locs hP hD hS => ?_)
      rw [jF_upd _ (by omega)] at hP hD
      have hP : va_P G.1 vwCl [(x, .inr (4, [.ref a, .ref b, .ref t, .ref q, .ref q1, .int (nI kq), .int (nI al)])), (b, .inr (1, [.ref nb, .ref sb, .int (nI rc)])), (nb, .inl (G.2.1, 6, .inl (nF ne))), (sb, .inl (G.2.1, 6, .inl (nF (va_up sp (vN x1) (wb (sp (vN x1)) (vN x2) ib))))), (oj, .inl (G.2.2, 1, .inr (.inl (va_up fo 0 (bL ((sp (vN x1)).testBit (vN x2)))))))] _ := hP
      have hD : va_D A [(x, .inr (4, [.ref a, .ref b, .ref t, .ref q, .ref q1, .int (nI kq), .int (nI al)])), (b, .inr (1, [.ref nb, .ref sb, .int (nI rc)])), (nb, .inl (G.2.1, 6, .inl (nF ne))), (sb, .inl (G.2.1, 6, .inl (nF (va_up sp (vN x1) (wb (sp (vN x1)) (vN x2) ib))))), (oj, .inl (G.2.2, 1, .inr (.inl (va_up fo 0 (bL ((sp (vN x1)).testBit (vN x2)))))))] := hD
      refine lv_goto (tgt := 30) hx hb dL_setSpares_19 (by decide) ?_
      refine lv_iconst (v := nI 0) hx hb dL_setSpares_30 (by decide +kernel) ?_
      exact cs_iret hx hb hr hlocks hK hP hD hS (v := nI 0) () (by rw [hc]) (by rw [hc]; rfl) dL_setSpares_31

set_option maxHeartbeats 4000000 in
set_option maxRecDepth 100000 in
theorem c_L_told (l : Launch) (G : cG) (hl9 : l.stackTraces = false) (sa : Nat → Nat) (x a b t q q1 kq al : Nat) (ka n : Nat) (k : Nat → Nat) (hn : n ≤ 24) (hk : ∀ j, j < n → k j < 16) (nb sb rc : Nat) (ne sp : Nat → Nat) (hrc : rc ≤ 6) (hne : ∀ j, j < 6 → ne j < 65536) (hsp : ∀ j, j < 6 → sp j < 65536) (hkq : kq < 65536) (x1 x2 : Int32) (oj : Nat) (fo : Nat → Int64) : cWI l G sa yL_told wsL_told ({ frames := 7, cells := 1, slots := 6, locals := 112 }) [.ref x, .int x1, .int x2, .ref oj] [(x, .inr (4, [.ref a, .ref b, .ref t, .ref q, .ref q1, .int (nI kq), .int (nI al)])), (a, .inr (0, [.ref ka, .int (nI n)])), (ka, .inl (G.2.1, 24, .inl (nF k))), (b, .inr (1, [.ref nb, .ref sb, .int (nI rc)])), (nb, .inl (G.2.1, 6, .inl (nF ne))), (sb, .inl (G.2.1, 6, .inl (nF sp))), (oj, .inl (G.2.2, 1, .inr (.inl fo)))] (fun (r_ : Int32) (_ : Unit) => r_ = nI (tw x1 x2 rc 5)) (fun (_ : Unit) => [(x, .inr (4, [.ref a, .ref b, .ref t, .ref q, .ref q1, .int (nI kq), .int (nI al)])), (a, .inr (0, [.ref ka, .int (nI n)])), (ka, .inl (G.2.1, 24, .inl (nF k))), (b, .inr (1, [.ref nb, .ref sb, .int (nI rc)])), (nb, .inl (G.2.1, 6, .inl (nF ne))), (sb, .inl (G.2.1, 6, .inl (nF sp))), (oj, .inl (G.2.2, 1, .inr (.inl (if tw x1 x2 rc 5 = 0 then va_up fo 0 ((nI (tld k ne sp n kq (vN x1) (vN x2))).toInt64) else fo))))]) := by
  refine cs_sW (own := RL) (cc := cL_told) (maxL := 5) (ret := (some .int)) (hh := [(0, 10, 13, 13)]) (by decide) rfl rfl (Nat.le_of_ble_eq_true rfl) ?_
  intro p e s m below meth c A htbl hZ hNc hx hb hr hml hts hown hlocks hinit hA hK hP hD hS ls hl
  have hl : lv_has ls 5 [(0, .ref x), (1, .int x1), (2, .int x2), (3, .ref oj)] := hl
  refine lv_aload_n hx hb dL_told_0 rfl (lv_at hl 3 rfl) ?_
  refine lv_iconst (v := nI 0) hx hb dL_told_1 (by decide +kernel) ?_
  refine lv_aload_n hx hb dL_told_2 rfl (lv_at hl 0 rfl) ?_
  refine lv_iload_n hx hb dL_told_3 rfl (lv_at hl 1 rfl) ?_
  refine lv_iload_n hx hb dL_told_4 rfl (lv_at hl 2 rfl) ?_
  refine cs_xi (As := [.int x1, .int x2]) (rest := [.int (nI 0), .ref oj]) (wr := [(oj, .inl (G.2.2, 1, .inr (.inl fo)))]) ⟨hx, hb, hml, hown, hts⟩ hK hP hD hS hA hZ (c_X4_told l G (by first | assumption | omega) sa x a b t q q1 kq al ka n k (by first | assumption | omega) (by first | assumption | omega) nb sb rc ne sp (by first | assumption | omega) (by first | assumption | omega) (by first | assumption | omega) (by first | assumption | omega) x1 x2) (cwV 2 hts gL_told_X4_told rfl rfl rfl (by decide +kernel) ⟨Nat.le_of_ble_eq_true rfl, Nat.le_of_ble_eq_true rfl⟩) [0, 1, 2, 3, 4, 5] [6] ⟨rfl, rfl, by decide, by decide, by decide⟩ 0 4 rfl rfl rfl hl.1 rfl (Nat.le_of_ble_eq_true rfl) ⟨Nat.le_of_ble_eq_true rfl, Nat.le_of_ble_eq_true rfl⟩ dL_told_5 (fun E ce q9 H locs hpx hP hD hS hce hcv hcl => ?_) (fun r u_1 H locs hw hP hD hS => ?_)
  · have hP : va_P G.1 vwCl [(x, .inr (4, [.ref a, .ref b, .ref t, .ref q, .ref q1, .int (nI kq), .int (nI al)])), (a, .inr (0, [.ref ka, .int (nI n)])), (ka, .inl (G.2.1, 24, .inl (nF k))), (b, .inr (1, [.ref nb, .ref sb, .int (nI rc)])), (nb, .inl (G.2.1, 6, .inl (nF ne))), (sb, .inl (G.2.1, 6, .inl (nF sp))), (oj, .inl (G.2.2, 1, .inr (.inl fo)))] H := hP.sub [1, 2, 3, 4, 5, 6, 0] rfl
    have hD : va_D A [(x, .inr (4, [.ref a, .ref b, .ref t, .ref q, .ref q1, .int (nI kq), .int (nI al)])), (a, .inr (0, [.ref ka, .int (nI n)])), (ka, .inl (G.2.1, 24, .inl (nF k))), (b, .inr (1, [.ref nb, .ref sb, .int (nI rc)])), (nb, .inl (G.2.1, 6, .inl (nF ne))), (sb, .inl (G.2.1, 6, .inl (nF sp))), (oj, .inl (G.2.2, 1, .inr (.inl fo)))] := hD.sub [1, 2, 3, 4, 5, 6, 0] (by decide) rfl
    obtain ⟨hc, rfl⟩ := hpx
    refine vx_catch (E := eIO) (name := eIO) hown [] ⟨0, 10, 13, 13⟩ [] htbl (fun z9 h9 => absurd h9 List.not_mem_nil) rfl (by decide) (hts (.classLink RL 13 "java/lang/IndexOutOfBoundsException") (List.mem_of_getElem? (i := 1) rfl)) (va_Nw.use (exW_ot _ (List.mem_of_getElem? (i := 3) rfl)) (hZ.2.2.2 (.castable eIO eIO) (List.mem_of_getElem? (i := 3) rfl))) hce hcv hcl ?_
    refine lv_astore (lv' := [(4, .ref q9), (0, .ref x), (1, .int x1), (2, .int x2), (3, .ref oj)]) hx hb dL_told_13 hl (by decide) rfl (fun ls hl => ?_)
    refine lv_iconst (v := nI 1) hx hb dL_told_15 (by decide +kernel) ?_
    exact cs_iret hx hb hr hlocks hK hP hD hS (v := nI 1) () (by rw [hc]) (by rw [hc]; rfl) dL_told_16
  · have hP : va_P G.1 vwCl [(x, .inr (4, [.ref a, .ref b, .ref t, .ref q, .ref q1, .int (nI kq), .int (nI al)])), (a, .inr (0, [.ref ka, .int (nI n)])), (ka, .inl (G.2.1, 24, .inl (nF k))), (b, .inr (1, [.ref nb, .ref sb, .int (nI rc)])), (nb, .inl (G.2.1, 6, .inl (nF ne))), (sb, .inl (G.2.1, 6, .inl (nF sp))), (oj, .inl (G.2.2, 1, .inr (.inl fo)))] H := hP.sub [1, 2, 3, 4, 5, 6, 0] rfl
    have hD : va_D A [(x, .inr (4, [.ref a, .ref b, .ref t, .ref q, .ref q1, .int (nI kq), .int (nI al)])), (a, .inr (0, [.ref ka, .int (nI n)])), (ka, .inl (G.2.1, 24, .inl (nF k))), (b, .inr (1, [.ref nb, .ref sb, .int (nI rc)])), (nb, .inl (G.2.1, 6, .inl (nF ne))), (sb, .inl (G.2.1, 6, .inl (nF sp))), (oj, .inl (G.2.2, 1, .inr (.inl fo)))] := hD.sub [1, 2, 3, 4, 5, 6, 0] (by decide) rfl
    obtain ⟨rfl, hc⟩ := hw
    refine lv_i2l (v := (nI (tld k ne sp n kq (vN x1) (vN x2))).toInt64) hx hb dL_told_8 (rfl) ?_
    refine va_last hx hb hK hP hD hS 6 1 rfl rfl (vp_in_nI (by omega) (by omega)) dL_told_9 (fun H locs hP hD hS => ?_)
    rw [jF_upd _ (by omega)] at hP hD
    have hP : va_P G.1 vwCl [(x, .inr (4, [.ref a, .ref b, .ref t, .ref q, .ref q1, .int (nI kq), .int (nI al)])), (a, .inr (0, [.ref ka, .int (nI n)])), (ka, .inl (G.2.1, 24, .inl (nF k))), (b, .inr (1, [.ref nb, .ref sb, .int (nI rc)])), (nb, .inl (G.2.1, 6, .inl (nF ne))), (sb, .inl (G.2.1, 6, .inl (nF sp))), (oj, .inl (G.2.2, 1, .inr (.inl (va_up fo 0 ((nI (tld k ne sp n kq (vN x1) (vN x2))).toInt64)))))] _ := hP
    have hD : va_D A [(x, .inr (4, [.ref a, .ref b, .ref t, .ref q, .ref q1, .int (nI kq), .int (nI al)])), (a, .inr (0, [.ref ka, .int (nI n)])), (ka, .inl (G.2.1, 24, .inl (nF k))), (b, .inr (1, [.ref nb, .ref sb, .int (nI rc)])), (nb, .inl (G.2.1, 6, .inl (nF ne))), (sb, .inl (G.2.1, 6, .inl (nF sp))), (oj, .inl (G.2.2, 1, .inr (.inl (va_up fo 0 ((nI (tld k ne sp n kq (vN x1) (vN x2))).toInt64)))))] := hD
    refine lv_goto (tgt := 17) hx hb dL_told_10 (by decide) ?_
    refine lv_iconst (v := nI 0) hx hb dL_told_17 (by decide +kernel) ?_
    exact cs_iret hx hb hr hlocks hK hP hD hS (v := nI 0) () (by rw [hc]) (by rw [hc]; rfl) dL_told_18

set_option maxHeartbeats 4000000 in
set_option maxRecDepth 100000 in
theorem c_L_spoils (l : Launch) (G : cG) (hl9 : l.stackTraces = false) (sa : Nat → Nat) (x a b t q q1 kq al : Nat) (ka n : Nat) (k : Nat → Nat) (hn : n ≤ 24) (hk : ∀ j, j < n → k j < 16) (nb sb rc : Nat) (ne sp : Nat → Nat) (hrc : rc ≤ 6) (hne : ∀ j, j < 6 → ne j < 65536) (hsp : ∀ j, j < 6 → sp j < 65536) (v : Int32) (oj : Nat) (fo : Nat → Int64) : cWI l G sa yL_spoils wsL_spoils ({ frames := 7, cells := 1, slots := 6, locals := 111 }) [.ref x, .int v, .ref oj] [(x, .inr (4, [.ref a, .ref b, .ref t, .ref q, .ref q1, .int (nI kq), .int (nI al)])), (a, .inr (0, [.ref ka, .int (nI n)])), (ka, .inl (G.2.1, 24, .inl (nF k))), (b, .inr (1, [.ref nb, .ref sb, .int (nI rc)])), (nb, .inl (G.2.1, 6, .inl (nF ne))), (sb, .inl (G.2.1, 6, .inl (nF sp))), (oj, .inl (G.2.2, 1, .inr (.inl fo)))] (fun (r_ : Int32) (_ : Unit) => r_ = nI (drc v (2 ^ n))) (fun (_ : Unit) => [(x, .inr (4, [.ref a, .ref b, .ref t, .ref q, .ref q1, .int (nI kq), .int (nI al)])), (a, .inr (0, [.ref ka, .int (nI n)])), (ka, .inl (G.2.1, 24, .inl (nF k))), (b, .inr (1, [.ref nb, .ref sb, .int (nI rc)])), (nb, .inl (G.2.1, 6, .inl (nF ne))), (sb, .inl (G.2.1, 6, .inl (nF sp))), (oj, .inl (G.2.2, 1, .inr (.inl (if drc v (2 ^ n) = 0 then va_up fo 0 (bL (spl k ne sp n rc (vN v))) else fo))))]) := by
  refine cs_sW (own := RL) (cc := cL_spoils) (maxL := 4) (ret := (some .int)) (hh := [(0, 16, 19, 42)]) (by decide) rfl rfl (Nat.le_of_ble_eq_true rfl) ?_
  intro p e s m below meth c A htbl hZ hNc hx hb hr hml hts hown hlocks hinit hA hK hP hD hS ls hl
  have hl : lv_has ls 4 [(0, .ref x), (1, .int v), (2, .ref oj)] := hl
  refine lv_aload_n hx hb dL_spoils_0 rfl (lv_at hl 2 rfl) ?_
  refine lv_iconst (v := nI 0) hx hb dL_spoils_1 (by decide +kernel) ?_
  refine lv_aload_n hx hb dL_spoils_2 rfl (lv_at hl 0 rfl) ?_
  refine lv_iload_n hx hb dL_spoils_3 rfl (lv_at hl 1 rfl) ?_
  refine cs_xi (As := [.int v]) (rest := [.int (nI 0), .ref oj]) (wr := [(oj, .inl (G.2.2, 1, .inr (.inl fo)))]) ⟨hx, hb, hml, hown, hts⟩ hK hP hD hS hA hZ (c_X4_spoils l G (by first | assumption | omega) sa x a b t q q1 kq al ka n k (by first | assumption | omega) (by first | assumption | omega) nb sb rc ne sp (by first | assumption | omega) (by first | assumption | omega) (by first | assumption | omega) v) (cwV 1 hts gL_spoils_X4_spoils rfl rfl rfl (by decide +kernel) ⟨Nat.le_of_ble_eq_true rfl, Nat.le_of_ble_eq_true rfl⟩) [0, 1, 2, 3, 4, 5] [6] ⟨rfl, rfl, by decide, by decide, by decide⟩ 0 4 rfl rfl rfl hl.1 rfl (Nat.le_of_ble_eq_true rfl) ⟨Nat.le_of_ble_eq_true rfl, Nat.le_of_ble_eq_true rfl⟩ dL_spoils_4 (fun E ce q9 H locs hpx hP hD hS hce hcv hcl => ?_) (fun r u_1 H locs hw hP hD hS => ?_)
  · have hP : va_P G.1 vwCl [(x, .inr (4, [.ref a, .ref b, .ref t, .ref q, .ref q1, .int (nI kq), .int (nI al)])), (a, .inr (0, [.ref ka, .int (nI n)])), (ka, .inl (G.2.1, 24, .inl (nF k))), (b, .inr (1, [.ref nb, .ref sb, .int (nI rc)])), (nb, .inl (G.2.1, 6, .inl (nF ne))), (sb, .inl (G.2.1, 6, .inl (nF sp))), (oj, .inl (G.2.2, 1, .inr (.inl fo)))] H := hP.sub [1, 2, 3, 4, 5, 6, 0] rfl
    have hD : va_D A [(x, .inr (4, [.ref a, .ref b, .ref t, .ref q, .ref q1, .int (nI kq), .int (nI al)])), (a, .inr (0, [.ref ka, .int (nI n)])), (ka, .inl (G.2.1, 24, .inl (nF k))), (b, .inr (1, [.ref nb, .ref sb, .int (nI rc)])), (nb, .inl (G.2.1, 6, .inl (nF ne))), (sb, .inl (G.2.1, 6, .inl (nF sp))), (oj, .inl (G.2.2, 1, .inr (.inl fo)))] := hD.sub [1, 2, 3, 4, 5, 6, 0] (by decide) rfl
    obtain ⟨hc, rfl⟩ := hpx
    refine vx_catch (E := eIA) (name := eIA) hown [] ⟨0, 16, 19, 42⟩ [] htbl (fun z9 h9 => absurd h9 List.not_mem_nil) rfl (by decide) (hts (.classLink RL 42 "java/lang/IllegalArgumentException") (List.mem_of_getElem? (i := 1) rfl)) (va_Nw.use (exW_ot _ (List.mem_of_getElem? (i := 5) rfl)) (hZ.2.2.2 (.castable eIA eIA) (List.mem_of_getElem? (i := 5) rfl))) hce hcv hcl ?_
    refine lv_astore_n (lv' := [(3, .ref q9), (0, .ref x), (1, .int v), (2, .ref oj)]) hx hb dL_spoils_19 rfl hl (by decide) rfl (fun ls hl => ?_)
    refine lv_iconst (v := nI 1) hx hb dL_spoils_20 (by decide +kernel) ?_
    exact cs_iret hx hb hr hlocks hK hP hD hS (v := nI 1) () (by rw [hc]) (by rw [hc]; rfl) dL_spoils_21
  · have hP : va_P G.1 vwCl [(x, .inr (4, [.ref a, .ref b, .ref t, .ref q, .ref q1, .int (nI kq), .int (nI al)])), (a, .inr (0, [.ref ka, .int (nI n)])), (ka, .inl (G.2.1, 24, .inl (nF k))), (b, .inr (1, [.ref nb, .ref sb, .int (nI rc)])), (nb, .inl (G.2.1, 6, .inl (nF ne))), (sb, .inl (G.2.1, 6, .inl (nF sp))), (oj, .inl (G.2.2, 1, .inr (.inl fo)))] H := hP.sub [1, 2, 3, 4, 5, 6, 0] rfl
    have hD : va_D A [(x, .inr (4, [.ref a, .ref b, .ref t, .ref q, .ref q1, .int (nI kq), .int (nI al)])), (a, .inr (0, [.ref ka, .int (nI n)])), (ka, .inl (G.2.1, 24, .inl (nF k))), (b, .inr (1, [.ref nb, .ref sb, .int (nI rc)])), (nb, .inl (G.2.1, 6, .inl (nF ne))), (sb, .inl (G.2.1, 6, .inl (nF sp))), (oj, .inl (G.2.2, 1, .inr (.inl fo)))] := hD.sub [1, 2, 3, 4, 5, 6, 0] (by decide) rfl
    obtain ⟨rfl, hc⟩ := hw
    refine lv_if_eq (tgt := 14) hx hb dL_spoils_7 (by decide) (fun c_7 => ?_) (fun c_7 => ?_)
    · have c_7 := bI_0 c_7
      refine lv_lconst (v := lN 0) hx hb dL_spoils_14 (by decide +kernel) ?_
      refine cs_l (y := bL (spl k ne sp n rc (vN v))) (by rw [c_7]; rfl) ?_
      refine va_last hx hb hK hP hD hS 6 1 rfl rfl (vp_in_nI (by omega) (by omega)) dL_spoils_15 (fun H locs hP hD hS => ?_)
      rw [jF_upd _ (by omega)] at hP hD
      have hP : va_P G.1 vwCl [(x, .inr (4, [.ref a, .ref b, .ref t, .ref q, .ref q1, .int (nI kq), .int (nI al)])), (a, .inr (0, [.ref ka, .int (nI n)])), (ka, .inl (G.2.1, 24, .inl (nF k))), (b, .inr (1, [.ref nb, .ref sb, .int (nI rc)])), (nb, .inl (G.2.1, 6, .inl (nF ne))), (sb, .inl (G.2.1, 6, .inl (nF sp))), (oj, .inl (G.2.2, 1, .inr (.inl (va_up fo 0 (bL (spl k ne sp n rc (vN v)))))))] _ := hP
      have hD : va_D A [(x, .inr (4, [.ref a, .ref b, .ref t, .ref q, .ref q1, .int (nI kq), .int (nI al)])), (a, .inr (0, [.ref ka, .int (nI n)])), (ka, .inl (G.2.1, 24, .inl (nF k))), (b, .inr (1, [.ref nb, .ref sb, .int (nI rc)])), (nb, .inl (G.2.1, 6, .inl (nF ne))), (sb, .inl (G.2.1, 6, .inl (nF sp))), (oj, .inl (G.2.2, 1, .inr (.inl (va_up fo 0 (bL (spl k ne sp n rc (vN v)))))))] := hD
      refine lv_goto (tgt := 22) hx hb dL_spoils_16 (by decide) ?_
      refine lv_iconst (v := nI 0) hx hb dL_spoils_22 (by decide +kernel) ?_
      exact cs_iret hx hb hr hlocks hK hP hD hS (v := nI 0) () (by rw [hc]) (by rw [hc]; rfl) dL_spoils_23
    · have c_7 := bI_n0 c_7
      refine lv_lconst (v := lN 1) hx hb dL_spoils_10 (by decide +kernel) ?_
      refine cs_l (y := bL (spl k ne sp n rc (vN v))) (by rw [c_7]; rfl) ?_
      refine lv_goto (tgt := 15) hx hb dL_spoils_11 (by decide) ?_
      refine va_last hx hb hK hP hD hS 6 1 rfl rfl (vp_in_nI (by omega) (by omega)) dL_spoils_15 (fun H locs hP hD hS => ?_)
      rw [jF_upd _ (by omega)] at hP hD
      have hP : va_P G.1 vwCl [(x, .inr (4, [.ref a, .ref b, .ref t, .ref q, .ref q1, .int (nI kq), .int (nI al)])), (a, .inr (0, [.ref ka, .int (nI n)])), (ka, .inl (G.2.1, 24, .inl (nF k))), (b, .inr (1, [.ref nb, .ref sb, .int (nI rc)])), (nb, .inl (G.2.1, 6, .inl (nF ne))), (sb, .inl (G.2.1, 6, .inl (nF sp))), (oj, .inl (G.2.2, 1, .inr (.inl (va_up fo 0 (bL (spl k ne sp n rc (vN v)))))))] _ := hP
      have hD : va_D A [(x, .inr (4, [.ref a, .ref b, .ref t, .ref q, .ref q1, .int (nI kq), .int (nI al)])), (a, .inr (0, [.ref ka, .int (nI n)])), (ka, .inl (G.2.1, 24, .inl (nF k))), (b, .inr (1, [.ref nb, .ref sb, .int (nI rc)])), (nb, .inl (G.2.1, 6, .inl (nF ne))), (sb, .inl (G.2.1, 6, .inl (nF sp))), (oj, .inl (G.2.2, 1, .inr (.inl (va_up fo 0 (bL (spl k ne sp n rc (vN v)))))))] := hD
      refine lv_goto (tgt := 22) hx hb dL_spoils_16 (by decide) ?_
      refine lv_iconst (v := nI 0) hx hb dL_spoils_22 (by decide +kernel) ?_
      exact cs_iret hx hb hr hlocks hK hP hD hS (v := nI 0) () (by rw [hc]) (by rw [hc]; rfl) dL_spoils_23

set_option maxHeartbeats 4000000 in
set_option maxRecDepth 100000 in
theorem c_L_kept (l : Launch) (G : cG) (hl9 : l.stackTraces = false) (sa : Nat → Nat) (x a b t q q1 kq al : Nat) (fa fp dd pp st ts : Nat) (fx : Nat → Int32) (g : Nat → Nat) (hdd : dd < 2 ^ 24) (v : Int32) (oj : Nat) (fo : Nat → Int64) : cWI l G sa yL_kept wsL_kept ({ frames := 7, cells := 1, slots := 6, locals := 111 }) [.ref x, .int v, .ref oj] [(x, .inr (4, [.ref a, .ref b, .ref t, .ref q, .ref q1, .int (nI kq), .int (nI al)])), (q, .inr (2, [.ref fa, .ref fp, .int (nI dd), .int (nI pp), .int (nI st), .int (nI ts)])), (fa, .inl (G.2.1, 640, .inl fx)), (fp, .inl (G.2.1, 25, .inl (nF g))), (oj, .inl (G.2.2, 1, .inr (.inl fo)))] (fun (r_ : Int32) (_ : Unit) => r_ = nI (drc v (cnt dd 24))) (fun (_ : Unit) => [(x, .inr (4, [.ref a, .ref b, .ref t, .ref q, .ref q1, .int (nI kq), .int (nI al)])), (q, .inr (2, [.ref fa, .ref fp, .int (nI dd), .int (nI pp), .int (nI st), .int (nI ts)])), (fa, .inl (G.2.1, 640, .inl fx)), (fp, .inl (G.2.1, 25, .inl (nF g))), (oj, .inl (G.2.2, 1, .inr (.inl (if drc v (cnt dd 24) = 0 then va_up fo 0 ((nI (plc dd (vN v))).toInt64) else fo))))]) := by
  refine cs_sW (own := RL) (cc := cL_kept) (maxL := 4) (ret := (some .int)) (hh := [(0, 9, 12, 13)]) (by decide) rfl rfl (Nat.le_of_ble_eq_true rfl) ?_
  intro p e s m below meth c A htbl hZ hNc hx hb hr hml hts hown hlocks hinit hA hK hP hD hS ls hl
  have hl : lv_has ls 4 [(0, .ref x), (1, .int v), (2, .ref oj)] := hl
  refine lv_aload_n hx hb dL_kept_0 rfl (lv_at hl 2 rfl) ?_
  refine lv_iconst (v := nI 0) hx hb dL_kept_1 (by decide +kernel) ?_
  refine lv_aload_n hx hb dL_kept_2 rfl (lv_at hl 0 rfl) ?_
  refine lv_iload_n hx hb dL_kept_3 rfl (lv_at hl 1 rfl) ?_
  refine cs_xi (As := [.int v]) (rest := [.int (nI 0), .ref oj]) (wr := [(oj, .inl (G.2.2, 1, .inr (.inl fo)))]) ⟨hx, hb, hml, hown, hts⟩ hK hP hD hS hA hZ (c_X4_kept l G (by first | assumption | omega) sa x a b t q q1 kq al fa fp dd pp st ts fx g (by first | assumption | omega) v) (cwV 1 hts gL_kept_X4_kept rfl rfl rfl (by decide +kernel) ⟨Nat.le_of_ble_eq_true rfl, Nat.le_of_ble_eq_true rfl⟩) [0, 1, 2, 3] [4] ⟨rfl, rfl, by decide, by decide, by decide⟩ 0 4 rfl rfl rfl hl.1 rfl (Nat.le_of_ble_eq_true rfl) ⟨Nat.le_of_ble_eq_true rfl, Nat.le_of_ble_eq_true rfl⟩ dL_kept_4 (fun E ce q9 H locs hpx hP hD hS hce hcv hcl => ?_) (fun r u_1 H locs hw hP hD hS => ?_)
  · have hP : va_P G.1 vwCl [(x, .inr (4, [.ref a, .ref b, .ref t, .ref q, .ref q1, .int (nI kq), .int (nI al)])), (q, .inr (2, [.ref fa, .ref fp, .int (nI dd), .int (nI pp), .int (nI st), .int (nI ts)])), (fa, .inl (G.2.1, 640, .inl fx)), (fp, .inl (G.2.1, 25, .inl (nF g))), (oj, .inl (G.2.2, 1, .inr (.inl fo)))] H := hP.sub [1, 2, 3, 4, 0] rfl
    have hD : va_D A [(x, .inr (4, [.ref a, .ref b, .ref t, .ref q, .ref q1, .int (nI kq), .int (nI al)])), (q, .inr (2, [.ref fa, .ref fp, .int (nI dd), .int (nI pp), .int (nI st), .int (nI ts)])), (fa, .inl (G.2.1, 640, .inl fx)), (fp, .inl (G.2.1, 25, .inl (nF g))), (oj, .inl (G.2.2, 1, .inr (.inl fo)))] := hD.sub [1, 2, 3, 4, 0] (by decide) rfl
    obtain ⟨hc, rfl⟩ := hpx
    refine vx_catch (E := eIO) (name := eIO) hown [] ⟨0, 9, 12, 13⟩ [] htbl (fun z9 h9 => absurd h9 List.not_mem_nil) rfl (by decide) (hts (.classLink RL 13 "java/lang/IndexOutOfBoundsException") (List.mem_of_getElem? (i := 1) rfl)) (va_Nw.use (exW_ot _ (List.mem_of_getElem? (i := 3) rfl)) (hZ.2.2.2 (.castable eIO eIO) (List.mem_of_getElem? (i := 3) rfl))) hce hcv hcl ?_
    refine lv_astore_n (lv' := [(3, .ref q9), (0, .ref x), (1, .int v), (2, .ref oj)]) hx hb dL_kept_12 rfl hl (by decide) rfl (fun ls hl => ?_)
    refine lv_iconst (v := nI 1) hx hb dL_kept_13 (by decide +kernel) ?_
    exact cs_iret hx hb hr hlocks hK hP hD hS (v := nI 1) () (by rw [hc]) (by rw [hc]; rfl) dL_kept_14
  · have hP : va_P G.1 vwCl [(x, .inr (4, [.ref a, .ref b, .ref t, .ref q, .ref q1, .int (nI kq), .int (nI al)])), (q, .inr (2, [.ref fa, .ref fp, .int (nI dd), .int (nI pp), .int (nI st), .int (nI ts)])), (fa, .inl (G.2.1, 640, .inl fx)), (fp, .inl (G.2.1, 25, .inl (nF g))), (oj, .inl (G.2.2, 1, .inr (.inl fo)))] H := hP.sub [1, 2, 3, 4, 0] rfl
    have hD : va_D A [(x, .inr (4, [.ref a, .ref b, .ref t, .ref q, .ref q1, .int (nI kq), .int (nI al)])), (q, .inr (2, [.ref fa, .ref fp, .int (nI dd), .int (nI pp), .int (nI st), .int (nI ts)])), (fa, .inl (G.2.1, 640, .inl fx)), (fp, .inl (G.2.1, 25, .inl (nF g))), (oj, .inl (G.2.2, 1, .inr (.inl fo)))] := hD.sub [1, 2, 3, 4, 0] (by decide) rfl
    obtain ⟨rfl, hc⟩ := hw
    refine lv_i2l (v := (nI (plc dd (vN v))).toInt64) hx hb dL_kept_7 (rfl) ?_
    refine va_last hx hb hK hP hD hS 4 1 rfl rfl (vp_in_nI (by omega) (by omega)) dL_kept_8 (fun H locs hP hD hS => ?_)
    rw [jF_upd _ (by omega)] at hP hD
    have hP : va_P G.1 vwCl [(x, .inr (4, [.ref a, .ref b, .ref t, .ref q, .ref q1, .int (nI kq), .int (nI al)])), (q, .inr (2, [.ref fa, .ref fp, .int (nI dd), .int (nI pp), .int (nI st), .int (nI ts)])), (fa, .inl (G.2.1, 640, .inl fx)), (fp, .inl (G.2.1, 25, .inl (nF g))), (oj, .inl (G.2.2, 1, .inr (.inl (va_up fo 0 ((nI (plc dd (vN v))).toInt64)))))] _ := hP
    have hD : va_D A [(x, .inr (4, [.ref a, .ref b, .ref t, .ref q, .ref q1, .int (nI kq), .int (nI al)])), (q, .inr (2, [.ref fa, .ref fp, .int (nI dd), .int (nI pp), .int (nI st), .int (nI ts)])), (fa, .inl (G.2.1, 640, .inl fx)), (fp, .inl (G.2.1, 25, .inl (nF g))), (oj, .inl (G.2.2, 1, .inr (.inl (va_up fo 0 ((nI (plc dd (vN v))).toInt64)))))] := hD
    refine lv_goto (tgt := 15) hx hb dL_kept_9 (by decide) ?_
    refine lv_iconst (v := nI 0) hx hb dL_kept_15 (by decide +kernel) ?_
    exact cs_iret hx hb hr hlocks hK hP hD hS (v := nI 0) () (by rw [hc]) (by rw [hc]; rfl) dL_kept_16

set_option maxHeartbeats 4000000 in
set_option maxRecDepth 100000 in
theorem c_L_step (l : Launch) (G : cG) (hl9 : l.stackTraces = false) (sa : Nat → Nat) (x a b t q q1 kq al : Nat) (fa fp dd pp st ts : Nat) (fx : Nat → Int32) (g : Nat → Nat) (hst : st ≤ 128) (x1 x2 : Int32) (oj : Nat) (fo : Nat → Int64) : cWI l G sa yL_step wsL_step ({ frames := 7, cells := 1, slots := 6, locals := 112 }) [.ref x, .int x1, .int x2, .ref oj] [(x, .inr (4, [.ref a, .ref b, .ref t, .ref q, .ref q1, .int (nI kq), .int (nI al)])), (q, .inr (2, [.ref fa, .ref fp, .int (nI dd), .int (nI pp), .int (nI st), .int (nI ts)])), (fa, .inl (G.2.1, 640, .inl fx)), (fp, .inl (G.2.1, 25, .inl (nF g))), (oj, .inl (G.2.2, 1, .inr (.inl fo)))] (fun (r_ : Int32) (_ : Unit) => r_ = nI (tw x1 x2 st 5)) (fun (_ : Unit) => [(x, .inr (4, [.ref a, .ref b, .ref t, .ref q, .ref q1, .int (nI kq), .int (nI al)])), (q, .inr (2, [.ref fa, .ref fp, .int (nI dd), .int (nI pp), .int (nI st), .int (nI ts)])), (fa, .inl (G.2.1, 640, .inl fx)), (fp, .inl (G.2.1, 25, .inl (nF g))), (oj, .inl (G.2.2, 1, .inr (.inl (if tw x1 x2 st 5 = 0 then va_up fo 0 ((fx (vN x1 * 5 + vN x2)).toInt64) else fo))))]) := by
  refine cs_sW (own := RL) (cc := cL_step) (maxL := 5) (ret := (some .int)) (hh := [(0, 10, 13, 13)]) (by decide) rfl rfl (Nat.le_of_ble_eq_true rfl) ?_
  intro p e s m below meth c A htbl hZ hNc hx hb hr hml hts hown hlocks hinit hA hK hP hD hS ls hl
  have hl : lv_has ls 5 [(0, .ref x), (1, .int x1), (2, .int x2), (3, .ref oj)] := hl
  refine lv_aload_n hx hb dL_step_0 rfl (lv_at hl 3 rfl) ?_
  refine lv_iconst (v := nI 0) hx hb dL_step_1 (by decide +kernel) ?_
  refine lv_aload_n hx hb dL_step_2 rfl (lv_at hl 0 rfl) ?_
  refine lv_iload_n hx hb dL_step_3 rfl (lv_at hl 1 rfl) ?_
  refine lv_iload_n hx hb dL_step_4 rfl (lv_at hl 2 rfl) ?_
  refine cs_xi (As := [.int x1, .int x2]) (rest := [.int (nI 0), .ref oj]) (wr := [(oj, .inl (G.2.2, 1, .inr (.inl fo)))]) ⟨hx, hb, hml, hown, hts⟩ hK hP hD hS hA hZ (c_X4_step l G (by first | assumption | omega) sa x a b t q q1 kq al fa fp dd pp st ts fx g (by first | assumption | omega) x1 x2) (cwV 2 hts gL_step_X4_step rfl rfl rfl (by decide +kernel) ⟨Nat.le_of_ble_eq_true rfl, Nat.le_of_ble_eq_true rfl⟩) [0, 1, 2, 3] [4] ⟨rfl, rfl, by decide, by decide, by decide⟩ 0 4 rfl rfl rfl hl.1 rfl (Nat.le_of_ble_eq_true rfl) ⟨Nat.le_of_ble_eq_true rfl, Nat.le_of_ble_eq_true rfl⟩ dL_step_5 (fun E ce q9 H locs hpx hP hD hS hce hcv hcl => ?_) (fun r u_1 H locs hw hP hD hS => ?_)
  · have hP : va_P G.1 vwCl [(x, .inr (4, [.ref a, .ref b, .ref t, .ref q, .ref q1, .int (nI kq), .int (nI al)])), (q, .inr (2, [.ref fa, .ref fp, .int (nI dd), .int (nI pp), .int (nI st), .int (nI ts)])), (fa, .inl (G.2.1, 640, .inl fx)), (fp, .inl (G.2.1, 25, .inl (nF g))), (oj, .inl (G.2.2, 1, .inr (.inl fo)))] H := hP.sub [1, 2, 3, 4, 0] rfl
    have hD : va_D A [(x, .inr (4, [.ref a, .ref b, .ref t, .ref q, .ref q1, .int (nI kq), .int (nI al)])), (q, .inr (2, [.ref fa, .ref fp, .int (nI dd), .int (nI pp), .int (nI st), .int (nI ts)])), (fa, .inl (G.2.1, 640, .inl fx)), (fp, .inl (G.2.1, 25, .inl (nF g))), (oj, .inl (G.2.2, 1, .inr (.inl fo)))] := hD.sub [1, 2, 3, 4, 0] (by decide) rfl
    obtain ⟨hc, rfl⟩ := hpx
    refine vx_catch (E := eIO) (name := eIO) hown [] ⟨0, 10, 13, 13⟩ [] htbl (fun z9 h9 => absurd h9 List.not_mem_nil) rfl (by decide) (hts (.classLink RL 13 "java/lang/IndexOutOfBoundsException") (List.mem_of_getElem? (i := 1) rfl)) (va_Nw.use (exW_ot _ (List.mem_of_getElem? (i := 3) rfl)) (hZ.2.2.2 (.castable eIO eIO) (List.mem_of_getElem? (i := 3) rfl))) hce hcv hcl ?_
    refine lv_astore (lv' := [(4, .ref q9), (0, .ref x), (1, .int x1), (2, .int x2), (3, .ref oj)]) hx hb dL_step_13 hl (by decide) rfl (fun ls hl => ?_)
    refine lv_iconst (v := nI 1) hx hb dL_step_15 (by decide +kernel) ?_
    exact cs_iret hx hb hr hlocks hK hP hD hS (v := nI 1) () (by rw [hc]) (by rw [hc]; rfl) dL_step_16
  · have hP : va_P G.1 vwCl [(x, .inr (4, [.ref a, .ref b, .ref t, .ref q, .ref q1, .int (nI kq), .int (nI al)])), (q, .inr (2, [.ref fa, .ref fp, .int (nI dd), .int (nI pp), .int (nI st), .int (nI ts)])), (fa, .inl (G.2.1, 640, .inl fx)), (fp, .inl (G.2.1, 25, .inl (nF g))), (oj, .inl (G.2.2, 1, .inr (.inl fo)))] H := hP.sub [1, 2, 3, 4, 0] rfl
    have hD : va_D A [(x, .inr (4, [.ref a, .ref b, .ref t, .ref q, .ref q1, .int (nI kq), .int (nI al)])), (q, .inr (2, [.ref fa, .ref fp, .int (nI dd), .int (nI pp), .int (nI st), .int (nI ts)])), (fa, .inl (G.2.1, 640, .inl fx)), (fp, .inl (G.2.1, 25, .inl (nF g))), (oj, .inl (G.2.2, 1, .inr (.inl fo)))] := hD.sub [1, 2, 3, 4, 0] (by decide) rfl
    obtain ⟨rfl, hc⟩ := hw
    refine lv_i2l (v := (fx (vN x1 * 5 + vN x2)).toInt64) hx hb dL_step_8 (rfl) ?_
    refine va_last hx hb hK hP hD hS 4 1 rfl rfl (vp_in_nI (by omega) (by omega)) dL_step_9 (fun H locs hP hD hS => ?_)
    rw [jF_upd _ (by omega)] at hP hD
    have hP : va_P G.1 vwCl [(x, .inr (4, [.ref a, .ref b, .ref t, .ref q, .ref q1, .int (nI kq), .int (nI al)])), (q, .inr (2, [.ref fa, .ref fp, .int (nI dd), .int (nI pp), .int (nI st), .int (nI ts)])), (fa, .inl (G.2.1, 640, .inl fx)), (fp, .inl (G.2.1, 25, .inl (nF g))), (oj, .inl (G.2.2, 1, .inr (.inl (va_up fo 0 ((fx (vN x1 * 5 + vN x2)).toInt64)))))] _ := hP
    have hD : va_D A [(x, .inr (4, [.ref a, .ref b, .ref t, .ref q, .ref q1, .int (nI kq), .int (nI al)])), (q, .inr (2, [.ref fa, .ref fp, .int (nI dd), .int (nI pp), .int (nI st), .int (nI ts)])), (fa, .inl (G.2.1, 640, .inl fx)), (fp, .inl (G.2.1, 25, .inl (nF g))), (oj, .inl (G.2.2, 1, .inr (.inl (va_up fo 0 ((fx (vN x1 * 5 + vN x2)).toInt64)))))] := hD
    refine lv_goto (tgt := 17) hx hb dL_step_10 (by decide) ?_
    refine lv_iconst (v := nI 0) hx hb dL_step_17 (by decide +kernel) ?_
    exact cs_iret hx hb hr hlocks hK hP hD hS (v := nI 0) () (by rw [hc]) (by rw [hc]; rfl) dL_step_18

set_option maxHeartbeats 4000000 in
set_option maxRecDepth 100000 in
theorem c_L_count (l : Launch) (G : cG) (hl9 : l.stackTraces = false) (sa : Nat → Nat) (x a b t q q1 kq al : Nat) (ka n : Nat) (k : Nat → Nat) (hn : n ≤ 24) (hk : ∀ j, j < n → k j < 16) (nb sb rc : Nat) (ne sp : Nat → Nat) (hrc : rc ≤ 6) (hne : ∀ j, j < 6 → ne j < 65536) (hsp : ∀ j, j < 6 → sp j < 65536) (fa fp dd pp st ts : Nat) (fx : Nat → Int32) (g : Nat → Nat) (hdd : dd < 2 ^ 24) (v : Int32) (oj : Nat) (fo : Nat → Int64) : cWI l G sa yL_count wsL_count ({ frames := 7, cells := 1, slots := 6, locals := 111 }) [.ref x, .int v, .ref oj] [(x, .inr (4, [.ref a, .ref b, .ref t, .ref q, .ref q1, .int (nI kq), .int (nI al)])), (a, .inr (0, [.ref ka, .int (nI n)])), (ka, .inl (G.2.1, 24, .inl (nF k))), (b, .inr (1, [.ref nb, .ref sb, .int (nI rc)])), (nb, .inl (G.2.1, 6, .inl (nF ne))), (sb, .inl (G.2.1, 6, .inl (nF sp))), (q, .inr (2, [.ref fa, .ref fp, .int (nI dd), .int (nI pp), .int (nI st), .int (nI ts)])), (fa, .inl (G.2.1, 640, .inl fx)), (fp, .inl (G.2.1, 25, .inl (nF g))), (oj, .inl (G.2.2, 1, .inr (.inl fo)))] (fun (r_ : Int32) (_ : Unit) => r_ = nI (drc v 7)) (fun (_ : Unit) => [(x, .inr (4, [.ref a, .ref b, .ref t, .ref q, .ref q1, .int (nI kq), .int (nI al)])), (a, .inr (0, [.ref ka, .int (nI n)])), (ka, .inl (G.2.1, 24, .inl (nF k))), (b, .inr (1, [.ref nb, .ref sb, .int (nI rc)])), (nb, .inl (G.2.1, 6, .inl (nF ne))), (sb, .inl (G.2.1, 6, .inl (nF sp))), (q, .inr (2, [.ref fa, .ref fp, .int (nI dd), .int (nI pp), .int (nI st), .int (nI ts)])), (fa, .inl (G.2.1, 640, .inl fx)), (fp, .inl (G.2.1, 25, .inl (nF g))), (oj, .inl (G.2.2, 1, .inr (.inl (if drc v 7 = 0 then va_up fo 0 ((nI (cfc k ne sp n rc dd st ts al (vN v))).toInt64) else fo))))]) := by
  refine cs_sW (own := RL) (cc := cL_count) (maxL := 4) (ret := (some .int)) (hh := [(0, 9, 12, 13)]) (by decide) rfl rfl (Nat.le_of_ble_eq_true rfl) ?_
  intro p e s m below meth c A htbl hZ hNc hx hb hr hml hts hown hlocks hinit hA hK hP hD hS ls hl
  have hl : lv_has ls 4 [(0, .ref x), (1, .int v), (2, .ref oj)] := hl
  refine lv_aload_n hx hb dL_count_0 rfl (lv_at hl 2 rfl) ?_
  refine lv_iconst (v := nI 0) hx hb dL_count_1 (by decide +kernel) ?_
  refine lv_aload_n hx hb dL_count_2 rfl (lv_at hl 0 rfl) ?_
  refine lv_iload_n hx hb dL_count_3 rfl (lv_at hl 1 rfl) ?_
  refine cs_xi (As := [.int v]) (rest := [.int (nI 0), .ref oj]) (wr := [(oj, .inl (G.2.2, 1, .inr (.inl fo)))]) ⟨hx, hb, hml, hown, hts⟩ hK hP hD hS hA hZ (c_X4_count l G (by first | assumption | omega) sa x a b t q q1 kq al ka n k (by first | assumption | omega) (by first | assumption | omega) nb sb rc ne sp (by first | assumption | omega) (by first | assumption | omega) (by first | assumption | omega) fa fp dd pp st ts fx g (by first | assumption | omega) v) (cwV 1 hts gL_count_X4_count rfl rfl rfl (by decide +kernel) ⟨Nat.le_of_ble_eq_true rfl, Nat.le_of_ble_eq_true rfl⟩) [0, 1, 2, 3, 4, 5, 6, 7, 8] [9] ⟨rfl, rfl, by decide, by decide, by decide⟩ 0 4 rfl rfl rfl hl.1 rfl (Nat.le_of_ble_eq_true rfl) ⟨Nat.le_of_ble_eq_true rfl, Nat.le_of_ble_eq_true rfl⟩ dL_count_4 (fun E ce q9 H locs hpx hP hD hS hce hcv hcl => ?_) (fun r u_1 H locs hw hP hD hS => ?_)
  · have hP : va_P G.1 vwCl [(x, .inr (4, [.ref a, .ref b, .ref t, .ref q, .ref q1, .int (nI kq), .int (nI al)])), (a, .inr (0, [.ref ka, .int (nI n)])), (ka, .inl (G.2.1, 24, .inl (nF k))), (b, .inr (1, [.ref nb, .ref sb, .int (nI rc)])), (nb, .inl (G.2.1, 6, .inl (nF ne))), (sb, .inl (G.2.1, 6, .inl (nF sp))), (q, .inr (2, [.ref fa, .ref fp, .int (nI dd), .int (nI pp), .int (nI st), .int (nI ts)])), (fa, .inl (G.2.1, 640, .inl fx)), (fp, .inl (G.2.1, 25, .inl (nF g))), (oj, .inl (G.2.2, 1, .inr (.inl fo)))] H := hP.sub [1, 2, 3, 4, 5, 6, 7, 8, 9, 0] rfl
    have hD : va_D A [(x, .inr (4, [.ref a, .ref b, .ref t, .ref q, .ref q1, .int (nI kq), .int (nI al)])), (a, .inr (0, [.ref ka, .int (nI n)])), (ka, .inl (G.2.1, 24, .inl (nF k))), (b, .inr (1, [.ref nb, .ref sb, .int (nI rc)])), (nb, .inl (G.2.1, 6, .inl (nF ne))), (sb, .inl (G.2.1, 6, .inl (nF sp))), (q, .inr (2, [.ref fa, .ref fp, .int (nI dd), .int (nI pp), .int (nI st), .int (nI ts)])), (fa, .inl (G.2.1, 640, .inl fx)), (fp, .inl (G.2.1, 25, .inl (nF g))), (oj, .inl (G.2.2, 1, .inr (.inl fo)))] := hD.sub [1, 2, 3, 4, 5, 6, 7, 8, 9, 0] (by decide) rfl
    obtain ⟨hc, rfl⟩ := hpx
    refine vx_catch (E := eIO) (name := eIO) hown [] ⟨0, 9, 12, 13⟩ [] htbl (fun z9 h9 => absurd h9 List.not_mem_nil) rfl (by decide) (hts (.classLink RL 13 "java/lang/IndexOutOfBoundsException") (List.mem_of_getElem? (i := 1) rfl)) (va_Nw.use (exW_ot _ (List.mem_of_getElem? (i := 3) rfl)) (hZ.2.2.2 (.castable eIO eIO) (List.mem_of_getElem? (i := 3) rfl))) hce hcv hcl ?_
    refine lv_astore_n (lv' := [(3, .ref q9), (0, .ref x), (1, .int v), (2, .ref oj)]) hx hb dL_count_12 rfl hl (by decide) rfl (fun ls hl => ?_)
    refine lv_iconst (v := nI 1) hx hb dL_count_13 (by decide +kernel) ?_
    exact cs_iret hx hb hr hlocks hK hP hD hS (v := nI 1) () (by rw [hc]) (by rw [hc]; rfl) dL_count_14
  · have hP : va_P G.1 vwCl [(x, .inr (4, [.ref a, .ref b, .ref t, .ref q, .ref q1, .int (nI kq), .int (nI al)])), (a, .inr (0, [.ref ka, .int (nI n)])), (ka, .inl (G.2.1, 24, .inl (nF k))), (b, .inr (1, [.ref nb, .ref sb, .int (nI rc)])), (nb, .inl (G.2.1, 6, .inl (nF ne))), (sb, .inl (G.2.1, 6, .inl (nF sp))), (q, .inr (2, [.ref fa, .ref fp, .int (nI dd), .int (nI pp), .int (nI st), .int (nI ts)])), (fa, .inl (G.2.1, 640, .inl fx)), (fp, .inl (G.2.1, 25, .inl (nF g))), (oj, .inl (G.2.2, 1, .inr (.inl fo)))] H := hP.sub [1, 2, 3, 4, 5, 6, 7, 8, 9, 0] rfl
    have hD : va_D A [(x, .inr (4, [.ref a, .ref b, .ref t, .ref q, .ref q1, .int (nI kq), .int (nI al)])), (a, .inr (0, [.ref ka, .int (nI n)])), (ka, .inl (G.2.1, 24, .inl (nF k))), (b, .inr (1, [.ref nb, .ref sb, .int (nI rc)])), (nb, .inl (G.2.1, 6, .inl (nF ne))), (sb, .inl (G.2.1, 6, .inl (nF sp))), (q, .inr (2, [.ref fa, .ref fp, .int (nI dd), .int (nI pp), .int (nI st), .int (nI ts)])), (fa, .inl (G.2.1, 640, .inl fx)), (fp, .inl (G.2.1, 25, .inl (nF g))), (oj, .inl (G.2.2, 1, .inr (.inl fo)))] := hD.sub [1, 2, 3, 4, 5, 6, 7, 8, 9, 0] (by decide) rfl
    obtain ⟨rfl, hc⟩ := hw
    refine lv_i2l (v := (nI (cfc k ne sp n rc dd st ts al (vN v))).toInt64) hx hb dL_count_7 (rfl) ?_
    refine va_last hx hb hK hP hD hS 9 1 rfl rfl (vp_in_nI (by omega) (by omega)) dL_count_8 (fun H locs hP hD hS => ?_)
    rw [jF_upd _ (by omega)] at hP hD
    have hP : va_P G.1 vwCl [(x, .inr (4, [.ref a, .ref b, .ref t, .ref q, .ref q1, .int (nI kq), .int (nI al)])), (a, .inr (0, [.ref ka, .int (nI n)])), (ka, .inl (G.2.1, 24, .inl (nF k))), (b, .inr (1, [.ref nb, .ref sb, .int (nI rc)])), (nb, .inl (G.2.1, 6, .inl (nF ne))), (sb, .inl (G.2.1, 6, .inl (nF sp))), (q, .inr (2, [.ref fa, .ref fp, .int (nI dd), .int (nI pp), .int (nI st), .int (nI ts)])), (fa, .inl (G.2.1, 640, .inl fx)), (fp, .inl (G.2.1, 25, .inl (nF g))), (oj, .inl (G.2.2, 1, .inr (.inl (va_up fo 0 ((nI (cfc k ne sp n rc dd st ts al (vN v))).toInt64)))))] _ := hP
    have hD : va_D A [(x, .inr (4, [.ref a, .ref b, .ref t, .ref q, .ref q1, .int (nI kq), .int (nI al)])), (a, .inr (0, [.ref ka, .int (nI n)])), (ka, .inl (G.2.1, 24, .inl (nF k))), (b, .inr (1, [.ref nb, .ref sb, .int (nI rc)])), (nb, .inl (G.2.1, 6, .inl (nF ne))), (sb, .inl (G.2.1, 6, .inl (nF sp))), (q, .inr (2, [.ref fa, .ref fp, .int (nI dd), .int (nI pp), .int (nI st), .int (nI ts)])), (fa, .inl (G.2.1, 640, .inl fx)), (fp, .inl (G.2.1, 25, .inl (nF g))), (oj, .inl (G.2.2, 1, .inr (.inl (va_up fo 0 ((nI (cfc k ne sp n rc dd st ts al (vN v))).toInt64)))))] := hD
    refine lv_goto (tgt := 15) hx hb dL_count_9 (by decide) ?_
    refine lv_iconst (v := nI 0) hx hb dL_count_15 (by decide +kernel) ?_
    exact cs_iret hx hb hr hlocks hK hP hD hS (v := nI 0) () (by rw [hc]) (by rw [hc]; rfl) dL_count_16

set_option maxHeartbeats 4000000 in
set_option maxRecDepth 100000 in
theorem c_L_would (l : Launch) (G : cG) (hl9 : l.stackTraces = false) (sa : Nat → Nat) (x a ka n b nb sb rc t kn sn ta q fa fp dd pp st ts q1 fa1 fp1 dd1 pp1 st1 ts1 kq al : Nat) (k ne sp : Nat → Nat) (T : Nat → Int64) (fx fx1 : Nat → Int32) (g g1 : Nat → Nat) (hn : n ≤ 24) (hk : ∀ j, j < n → k j < 16) (hrc : rc ≤ 6) (hne : ∀ j, j < 6 → ne j < 65536) (hsp : ∀ j, j < 6 → sp j < 65536) (hTB : TB T sn) (hsn : sn + 30 < 2 ^ 36) (hg1 : g1 0 = 0) (v : Int32) (oj : Nat) (fo : Nat → Int64) : cWI l G sa yL_would wsL_would ({ frames := 7, cells := 1, slots := 6, locals := 158 }) [.ref x, .int v, .ref oj] [(x, .inr (4, [.ref a, .ref b, .ref t, .ref q, .ref q1, .int (nI kq), .int (nI al)])), (a, .inr (0, [.ref ka, .int (nI n)])), (ka, .inl (G.2.1, 24, .inl (nF k))), (b, .inr (1, [.ref nb, .ref sb, .int (nI rc)])), (nb, .inl (G.2.1, 6, .inl (nF ne))), (sb, .inl (G.2.1, 6, .inl (nF sp))), (t, .inr (3, [.ref a, .ref b, .ref kn, .long (lN sn), .int (nI ta)])), (kn, .inl (G.2.2, 4096, .inr (.inl T))), (q1, .inr (2, [.ref fa1, .ref fp1, .int (nI dd1), .int (nI pp1), .int (nI st1), .int (nI ts1)])), (fa1, .inl (G.2.1, 640, .inl fx1)), (fp1, .inl (G.2.1, 25, .inl (nF g1))), (oj, .inl (G.2.2, 1, .inr (.inl fo)))] (fun (r_ : Int32) (u9 : Nat × Nat × (Nat × Nat × Nat × Nat) × (Nat → Int64) × (Nat → Int32) × (Nat → Nat)) => r_ = nI (drc v 5) ∧ TB u9.2.2.2.1 u9.1 ∧ u9.1 ≤ sn + 1 ∧ u9.2.2.2.2.2 0 = 0) (fun (u9 : Nat × Nat × (Nat × Nat × Nat × Nat) × (Nat → Int64) × (Nat → Int32) × (Nat → Nat)) => [(x, .inr (4, [.ref a, .ref b, .ref t, .ref q, .ref q1, .int (nI kq), .int (nI al)])), (a, .inr (0, [.ref ka, .int (nI n)])), (ka, .inl (G.2.1, 24, .inl (nF k))), (b, .inr (1, [.ref nb, .ref sb, .int (nI rc)])), (nb, .inl (G.2.1, 6, .inl (nF ne))), (sb, .inl (G.2.1, 6, .inl (nF sp))), (t, .inr (3, [.ref a, .ref b, .ref kn, .long (lN u9.1), .int (nI u9.2.1)])), (kn, .inl (G.2.2, 4096, .inr (.inl u9.2.2.2.1))), (q1, .inr (2, [.ref fa1, .ref fp1, .int (nI u9.2.2.1.1), .int (nI u9.2.2.1.2.1), .int (nI u9.2.2.1.2.2.1), .int (nI u9.2.2.1.2.2.2)])), (fa1, .inl (G.2.1, 640, .inl u9.2.2.2.2.1)), (fp1, .inl (G.2.1, 25, .inl (nF u9.2.2.2.2.2))), (oj, .inl (G.2.2, 1, .inr (.inl (if drc v 5 = 0 then va_up fo 0 ((nI (wld (spl k ne sp n rc) (2 ^ n - 1) (vN v))).toInt64) else fo))))]) := by
  refine cs_sW (own := RL) (cc := cL_would) (maxL := 4) (ret := (some .int)) (hh := [(0, 9, 12, 13)]) (by decide) rfl rfl (Nat.le_of_ble_eq_true rfl) ?_
  intro p e s m below meth c A htbl hZ hNc hx hb hr hml hts hown hlocks hinit hA hK hP hD hS ls hl
  have hl : lv_has ls 4 [(0, .ref x), (1, .int v), (2, .ref oj)] := hl
  refine lv_aload_n hx hb dL_would_0 rfl (lv_at hl 2 rfl) ?_
  refine lv_iconst (v := nI 0) hx hb dL_would_1 (by decide +kernel) ?_
  refine lv_aload_n hx hb dL_would_2 rfl (lv_at hl 0 rfl) ?_
  refine lv_iload_n hx hb dL_would_3 rfl (lv_at hl 1 rfl) ?_
  refine cs_xi (As := [.int v]) (rest := [.int (nI 0), .ref oj]) (wr := [(oj, .inl (G.2.2, 1, .inr (.inl fo)))]) ⟨hx, hb, hml, hown, hts⟩ hK hP hD hS hA hZ (c_X4_would l G (by first | assumption | omega) sa x a ka n b nb sb rc t kn sn ta q 0 0 0 0 0 0 q1 fa1 fp1 dd1 pp1 st1 ts1 kq al k ne sp T (fun _ => 0) fx1 (fun _ => 0) g1 (by first | assumption | omega) (by first | assumption | omega) (by first | assumption | omega) (by first | assumption | omega) (by first | assumption | omega) (by first | assumption | omega) (by first | assumption | omega) (by first | assumption | omega) v) (cwV 1 hts gL_would_X4_would rfl rfl rfl (by decide +kernel) ⟨Nat.le_of_ble_eq_true rfl, Nat.le_of_ble_eq_true rfl⟩) [0, 1, 2, 3, 4, 5, 6, 7, 8, 9, 10] [11] ⟨rfl, rfl, by decide, by decide, by decide⟩ 0 4 rfl rfl rfl hl.1 rfl (Nat.le_of_ble_eq_true rfl) ⟨Nat.le_of_ble_eq_true rfl, Nat.le_of_ble_eq_true rfl⟩ dL_would_4 (fun E ce q9 H locs hpx hP hD hS hce hcv hcl => ?_) (fun r u_1 H locs hw hP hD hS => ?_)
  · have hP : va_P G.1 vwCl [(x, .inr (4, [.ref a, .ref b, .ref t, .ref q, .ref q1, .int (nI kq), .int (nI al)])), (a, .inr (0, [.ref ka, .int (nI n)])), (ka, .inl (G.2.1, 24, .inl (nF k))), (b, .inr (1, [.ref nb, .ref sb, .int (nI rc)])), (nb, .inl (G.2.1, 6, .inl (nF ne))), (sb, .inl (G.2.1, 6, .inl (nF sp))), (t, .inr (3, [.ref a, .ref b, .ref kn, .long (lN sn), .int (nI ta)])), (kn, .inl (G.2.2, 4096, .inr (.inl T))), (q1, .inr (2, [.ref fa1, .ref fp1, .int (nI dd1), .int (nI pp1), .int (nI st1), .int (nI ts1)])), (fa1, .inl (G.2.1, 640, .inl fx1)), (fp1, .inl (G.2.1, 25, .inl (nF g1))), (oj, .inl (G.2.2, 1, .inr (.inl fo)))] H := hP.sub [1, 2, 3, 4, 5, 6, 7, 8, 9, 10, 11, 0] rfl
    have hD : va_D A [(x, .inr (4, [.ref a, .ref b, .ref t, .ref q, .ref q1, .int (nI kq), .int (nI al)])), (a, .inr (0, [.ref ka, .int (nI n)])), (ka, .inl (G.2.1, 24, .inl (nF k))), (b, .inr (1, [.ref nb, .ref sb, .int (nI rc)])), (nb, .inl (G.2.1, 6, .inl (nF ne))), (sb, .inl (G.2.1, 6, .inl (nF sp))), (t, .inr (3, [.ref a, .ref b, .ref kn, .long (lN sn), .int (nI ta)])), (kn, .inl (G.2.2, 4096, .inr (.inl T))), (q1, .inr (2, [.ref fa1, .ref fp1, .int (nI dd1), .int (nI pp1), .int (nI st1), .int (nI ts1)])), (fa1, .inl (G.2.1, 640, .inl fx1)), (fp1, .inl (G.2.1, 25, .inl (nF g1))), (oj, .inl (G.2.2, 1, .inr (.inl fo)))] := hD.sub [1, 2, 3, 4, 5, 6, 7, 8, 9, 10, 11, 0] (by decide) rfl
    obtain ⟨hc, rfl⟩ := hpx
    refine vx_catch (E := eIO) (name := eIO) hown [] ⟨0, 9, 12, 13⟩ [] htbl (fun z9 h9 => absurd h9 List.not_mem_nil) rfl (by decide) (hts (.classLink RL 13 "java/lang/IndexOutOfBoundsException") (List.mem_of_getElem? (i := 1) rfl)) (va_Nw.use (exW_ot _ (List.mem_of_getElem? (i := 3) rfl)) (hZ.2.2.2 (.castable eIO eIO) (List.mem_of_getElem? (i := 3) rfl))) hce hcv hcl ?_
    refine lv_astore_n (lv' := [(3, .ref q9), (0, .ref x), (1, .int v), (2, .ref oj)]) hx hb dL_would_12 rfl hl (by decide) rfl (fun ls hl => ?_)
    refine lv_iconst (v := nI 1) hx hb dL_would_13 (by decide +kernel) ?_
    exact cs_iret hx hb hr hlocks hK hP hD hS (v := nI 1) (sn, ta, (dd1, pp1, st1, ts1), T, fx1, g1) (⟨by rw [hc], by first | exact hTB9 | exact hTB, by first | exact hsn9 | exact Nat.le_succ sn, by first | exact hg9 | exact hg1⟩) (by rw [hc]; rfl) dL_would_14
  · have hP : va_P G.1 vwCl [(x, .inr (4, [.ref a, .ref b, .ref t, .ref q, .ref q1, .int (nI kq), .int (nI al)])), (a, .inr (0, [.ref ka, .int (nI n)])), (ka, .inl (G.2.1, 24, .inl (nF k))), (b, .inr (1, [.ref nb, .ref sb, .int (nI rc)])), (nb, .inl (G.2.1, 6, .inl (nF ne))), (sb, .inl (G.2.1, 6, .inl (nF sp))), (t, .inr (3, [.ref a, .ref b, .ref kn, .long (lN u_1.1), .int (nI u_1.2.1)])), (kn, .inl (G.2.2, 4096, .inr (.inl u_1.2.2.2.1))), (q1, .inr (2, [.ref fa1, .ref fp1, .int (nI u_1.2.2.1.1), .int (nI u_1.2.2.1.2.1), .int (nI u_1.2.2.1.2.2.1), .int (nI u_1.2.2.1.2.2.2)])), (fa1, .inl (G.2.1, 640, .inl u_1.2.2.2.2.1)), (fp1, .inl (G.2.1, 25, .inl (nF u_1.2.2.2.2.2))), (oj, .inl (G.2.2, 1, .inr (.inl fo)))] H := hP.sub [1, 2, 3, 4, 5, 6, 7, 8, 9, 10, 11, 0] rfl
    have hD : va_D A [(x, .inr (4, [.ref a, .ref b, .ref t, .ref q, .ref q1, .int (nI kq), .int (nI al)])), (a, .inr (0, [.ref ka, .int (nI n)])), (ka, .inl (G.2.1, 24, .inl (nF k))), (b, .inr (1, [.ref nb, .ref sb, .int (nI rc)])), (nb, .inl (G.2.1, 6, .inl (nF ne))), (sb, .inl (G.2.1, 6, .inl (nF sp))), (t, .inr (3, [.ref a, .ref b, .ref kn, .long (lN u_1.1), .int (nI u_1.2.1)])), (kn, .inl (G.2.2, 4096, .inr (.inl u_1.2.2.2.1))), (q1, .inr (2, [.ref fa1, .ref fp1, .int (nI u_1.2.2.1.1), .int (nI u_1.2.2.1.2.1), .int (nI u_1.2.2.1.2.2.1), .int (nI u_1.2.2.1.2.2.2)])), (fa1, .inl (G.2.1, 640, .inl u_1.2.2.2.2.1)), (fp1, .inl (G.2.1, 25, .inl (nF u_1.2.2.2.2.2))), (oj, .inl (G.2.2, 1, .inr (.inl fo)))] := hD.sub [1, 2, 3, 4, 5, 6, 7, 8, 9, 10, 11, 0] (by decide) rfl
    obtain ⟨⟨rfl, hc⟩, hTB9, hsn9, hg9⟩ := hw
    refine lv_i2l (v := (nI (wld (spl k ne sp n rc) (2 ^ n - 1) (vN v))).toInt64) hx hb dL_would_7 (rfl) ?_
    refine va_last hx hb hK hP hD hS 11 1 rfl rfl (vp_in_nI (by omega) (by omega)) dL_would_8 (fun H locs hP hD hS => ?_)
    rw [jF_upd _ (by omega)] at hP hD
    have hP : va_P G.1 vwCl [(x, .inr (4, [.ref a, .ref b, .ref t, .ref q, .ref q1, .int (nI kq), .int (nI al)])), (a, .inr (0, [.ref ka, .int (nI n)])), (ka, .inl (G.2.1, 24, .inl (nF k))), (b, .inr (1, [.ref nb, .ref sb, .int (nI rc)])), (nb, .inl (G.2.1, 6, .inl (nF ne))), (sb, .inl (G.2.1, 6, .inl (nF sp))), (t, .inr (3, [.ref a, .ref b, .ref kn, .long (lN u_1.1), .int (nI u_1.2.1)])), (kn, .inl (G.2.2, 4096, .inr (.inl u_1.2.2.2.1))), (q1, .inr (2, [.ref fa1, .ref fp1, .int (nI u_1.2.2.1.1), .int (nI u_1.2.2.1.2.1), .int (nI u_1.2.2.1.2.2.1), .int (nI u_1.2.2.1.2.2.2)])), (fa1, .inl (G.2.1, 640, .inl u_1.2.2.2.2.1)), (fp1, .inl (G.2.1, 25, .inl (nF u_1.2.2.2.2.2))), (oj, .inl (G.2.2, 1, .inr (.inl (va_up fo 0 ((nI (wld (spl k ne sp n rc) (2 ^ n - 1) (vN v))).toInt64)))))] _ := hP
    have hD : va_D A [(x, .inr (4, [.ref a, .ref b, .ref t, .ref q, .ref q1, .int (nI kq), .int (nI al)])), (a, .inr (0, [.ref ka, .int (nI n)])), (ka, .inl (G.2.1, 24, .inl (nF k))), (b, .inr (1, [.ref nb, .ref sb, .int (nI rc)])), (nb, .inl (G.2.1, 6, .inl (nF ne))), (sb, .inl (G.2.1, 6, .inl (nF sp))), (t, .inr (3, [.ref a, .ref b, .ref kn, .long (lN u_1.1), .int (nI u_1.2.1)])), (kn, .inl (G.2.2, 4096, .inr (.inl u_1.2.2.2.1))), (q1, .inr (2, [.ref fa1, .ref fp1, .int (nI u_1.2.2.1.1), .int (nI u_1.2.2.1.2.1), .int (nI u_1.2.2.1.2.2.1), .int (nI u_1.2.2.1.2.2.2)])), (fa1, .inl (G.2.1, 640, .inl u_1.2.2.2.2.1)), (fp1, .inl (G.2.1, 25, .inl (nF u_1.2.2.2.2.2))), (oj, .inl (G.2.2, 1, .inr (.inl (va_up fo 0 ((nI (wld (spl k ne sp n rc) (2 ^ n - 1) (vN v))).toInt64)))))] := hD
    refine lv_goto (tgt := 15) hx hb dL_would_9 (by decide) ?_
    refine lv_iconst (v := nI 0) hx hb dL_would_15 (by decide +kernel) ?_
    exact cs_iret hx hb hr hlocks hK hP hD hS (v := nI 0) (u_1.1, u_1.2.1, (u_1.2.2.1.1, u_1.2.2.1.2.1, u_1.2.2.1.2.2.1, u_1.2.2.1.2.2.2), u_1.2.2.2.1, u_1.2.2.2.2.1, u_1.2.2.2.2.2) (⟨by rw [hc], by first | exact hTB9 | exact hTB, by first | exact hsn9 | exact Nat.le_succ sn, by first | exact hg9 | exact hg1⟩) (by rw [hc]; rfl) dL_would_16

set_option maxHeartbeats 4000000 in
set_option maxRecDepth 100000 in
theorem c_L_isTight (l : Launch) (G : cG) (hl9 : l.stackTraces = false) (sa : Nat → Nat) (x a b t q q1 kq al : Nat) (ka n : Nat) (k : Nat → Nat) (hn : n ≤ 24) (hk : ∀ j, j < n → k j < 16) (nb sb rc : Nat) (ne sp : Nat → Nat) (hrc : rc ≤ 6) (hne : ∀ j, j < 6 → ne j < 65536) (hsp : ∀ j, j < 6 → sp j < 65536) (v : Int32) (oj : Nat) (fo : Nat → Int64) : cWI l G sa yL_isTight wsL_isTight ({ frames := 7, cells := 1, slots := 6, locals := 112 }) [.ref x, .int v, .ref oj] [(x, .inr (4, [.ref a, .ref b, .ref t, .ref q, .ref q1, .int (nI kq), .int (nI al)])), (a, .inr (0, [.ref ka, .int (nI n)])), (ka, .inl (G.2.1, 24, .inl (nF k))), (b, .inr (1, [.ref nb, .ref sb, .int (nI rc)])), (nb, .inl (G.2.1, 6, .inl (nF ne))), (sb, .inl (G.2.1, 6, .inl (nF sp))), (oj, .inl (G.2.2, 1, .inr (.inl fo)))] (fun (r_ : Int32) (_ : Unit) => r_ = nI (drc v (2 ^ n))) (fun (_ : Unit) => [(x, .inr (4, [.ref a, .ref b, .ref t, .ref q, .ref q1, .int (nI kq), .int (nI al)])), (a, .inr (0, [.ref ka, .int (nI n)])), (ka, .inl (G.2.1, 24, .inl (nF k))), (b, .inr (1, [.ref nb, .ref sb, .int (nI rc)])), (nb, .inl (G.2.1, 6, .inl (nF ne))), (sb, .inl (G.2.1, 6, .inl (nF sp))), (oj, .inl (G.2.2, 1, .inr (.inl (if drc v (2 ^ n) = 0 then va_up fo 0 (bL (tig (spl k ne sp n rc) (vN v))) else fo))))]) := by
  refine cs_sW (own := RL) (cc := cL_isTight) (maxL := 4) (ret := (some .int)) (hh := [(0, 16, 19, 42)]) (by decide) rfl rfl (Nat.le_of_ble_eq_true rfl) ?_
  intro p e s m below meth c A htbl hZ hNc hx hb hr hml hts hown hlocks hinit hA hK hP hD hS ls hl
  have hl : lv_has ls 4 [(0, .ref x), (1, .int v), (2, .ref oj)] := hl
  refine lv_aload_n hx hb dL_isTight_0 rfl (lv_at hl 2 rfl) ?_
  refine lv_iconst (v := nI 0) hx hb dL_isTight_1 (by decide +kernel) ?_
  refine lv_aload_n hx hb dL_isTight_2 rfl (lv_at hl 0 rfl) ?_
  refine lv_iload_n hx hb dL_isTight_3 rfl (lv_at hl 1 rfl) ?_
  refine cs_xi (As := [.int v]) (rest := [.int (nI 0), .ref oj]) (wr := [(oj, .inl (G.2.2, 1, .inr (.inl fo)))]) ⟨hx, hb, hml, hown, hts⟩ hK hP hD hS hA hZ (c_X4_isTight l G (by first | assumption | omega) sa x a b t q q1 kq al ka n k (by first | assumption | omega) (by first | assumption | omega) nb sb rc ne sp (by first | assumption | omega) (by first | assumption | omega) (by first | assumption | omega) v) (cwV 1 hts gL_isTight_X4_isTight rfl rfl rfl (by decide +kernel) ⟨Nat.le_of_ble_eq_true rfl, Nat.le_of_ble_eq_true rfl⟩) [0, 1, 2, 3, 4, 5] [6] ⟨rfl, rfl, by decide, by decide, by decide⟩ 0 4 rfl rfl rfl hl.1 rfl (Nat.le_of_ble_eq_true rfl) ⟨Nat.le_of_ble_eq_true rfl, Nat.le_of_ble_eq_true rfl⟩ dL_isTight_4 (fun E ce q9 H locs hpx hP hD hS hce hcv hcl => ?_) (fun r u_1 H locs hw hP hD hS => ?_)
  · have hP : va_P G.1 vwCl [(x, .inr (4, [.ref a, .ref b, .ref t, .ref q, .ref q1, .int (nI kq), .int (nI al)])), (a, .inr (0, [.ref ka, .int (nI n)])), (ka, .inl (G.2.1, 24, .inl (nF k))), (b, .inr (1, [.ref nb, .ref sb, .int (nI rc)])), (nb, .inl (G.2.1, 6, .inl (nF ne))), (sb, .inl (G.2.1, 6, .inl (nF sp))), (oj, .inl (G.2.2, 1, .inr (.inl fo)))] H := hP.sub [1, 2, 3, 4, 5, 6, 0] rfl
    have hD : va_D A [(x, .inr (4, [.ref a, .ref b, .ref t, .ref q, .ref q1, .int (nI kq), .int (nI al)])), (a, .inr (0, [.ref ka, .int (nI n)])), (ka, .inl (G.2.1, 24, .inl (nF k))), (b, .inr (1, [.ref nb, .ref sb, .int (nI rc)])), (nb, .inl (G.2.1, 6, .inl (nF ne))), (sb, .inl (G.2.1, 6, .inl (nF sp))), (oj, .inl (G.2.2, 1, .inr (.inl fo)))] := hD.sub [1, 2, 3, 4, 5, 6, 0] (by decide) rfl
    obtain ⟨hc, rfl⟩ := hpx
    refine vx_catch (E := eIA) (name := eIA) hown [] ⟨0, 16, 19, 42⟩ [] htbl (fun z9 h9 => absurd h9 List.not_mem_nil) rfl (by decide) (hts (.classLink RL 42 "java/lang/IllegalArgumentException") (List.mem_of_getElem? (i := 1) rfl)) (va_Nw.use (exW_ot _ (List.mem_of_getElem? (i := 5) rfl)) (hZ.2.2.2 (.castable eIA eIA) (List.mem_of_getElem? (i := 5) rfl))) hce hcv hcl ?_
    refine lv_astore_n (lv' := [(3, .ref q9), (0, .ref x), (1, .int v), (2, .ref oj)]) hx hb dL_isTight_19 rfl hl (by decide) rfl (fun ls hl => ?_)
    refine lv_iconst (v := nI 1) hx hb dL_isTight_20 (by decide +kernel) ?_
    exact cs_iret hx hb hr hlocks hK hP hD hS (v := nI 1) () (by rw [hc]) (by rw [hc]; rfl) dL_isTight_21
  · have hP : va_P G.1 vwCl [(x, .inr (4, [.ref a, .ref b, .ref t, .ref q, .ref q1, .int (nI kq), .int (nI al)])), (a, .inr (0, [.ref ka, .int (nI n)])), (ka, .inl (G.2.1, 24, .inl (nF k))), (b, .inr (1, [.ref nb, .ref sb, .int (nI rc)])), (nb, .inl (G.2.1, 6, .inl (nF ne))), (sb, .inl (G.2.1, 6, .inl (nF sp))), (oj, .inl (G.2.2, 1, .inr (.inl fo)))] H := hP.sub [1, 2, 3, 4, 5, 6, 0] rfl
    have hD : va_D A [(x, .inr (4, [.ref a, .ref b, .ref t, .ref q, .ref q1, .int (nI kq), .int (nI al)])), (a, .inr (0, [.ref ka, .int (nI n)])), (ka, .inl (G.2.1, 24, .inl (nF k))), (b, .inr (1, [.ref nb, .ref sb, .int (nI rc)])), (nb, .inl (G.2.1, 6, .inl (nF ne))), (sb, .inl (G.2.1, 6, .inl (nF sp))), (oj, .inl (G.2.2, 1, .inr (.inl fo)))] := hD.sub [1, 2, 3, 4, 5, 6, 0] (by decide) rfl
    obtain ⟨rfl, hc⟩ := hw
    refine lv_if_eq (tgt := 14) hx hb dL_isTight_7 (by decide) (fun c_7 => ?_) (fun c_7 => ?_)
    · have c_7 := bI_0 c_7
      refine lv_lconst (v := lN 0) hx hb dL_isTight_14 (by decide +kernel) ?_
      refine cs_l (y := bL (tig (spl k ne sp n rc) (vN v))) (by rw [c_7]; rfl) ?_
      refine va_last hx hb hK hP hD hS 6 1 rfl rfl (vp_in_nI (by omega) (by omega)) dL_isTight_15 (fun H locs hP hD hS => ?_)
      rw [jF_upd _ (by omega)] at hP hD
      have hP : va_P G.1 vwCl [(x, .inr (4, [.ref a, .ref b, .ref t, .ref q, .ref q1, .int (nI kq), .int (nI al)])), (a, .inr (0, [.ref ka, .int (nI n)])), (ka, .inl (G.2.1, 24, .inl (nF k))), (b, .inr (1, [.ref nb, .ref sb, .int (nI rc)])), (nb, .inl (G.2.1, 6, .inl (nF ne))), (sb, .inl (G.2.1, 6, .inl (nF sp))), (oj, .inl (G.2.2, 1, .inr (.inl (va_up fo 0 (bL (tig (spl k ne sp n rc) (vN v)))))))] _ := hP
      have hD : va_D A [(x, .inr (4, [.ref a, .ref b, .ref t, .ref q, .ref q1, .int (nI kq), .int (nI al)])), (a, .inr (0, [.ref ka, .int (nI n)])), (ka, .inl (G.2.1, 24, .inl (nF k))), (b, .inr (1, [.ref nb, .ref sb, .int (nI rc)])), (nb, .inl (G.2.1, 6, .inl (nF ne))), (sb, .inl (G.2.1, 6, .inl (nF sp))), (oj, .inl (G.2.2, 1, .inr (.inl (va_up fo 0 (bL (tig (spl k ne sp n rc) (vN v)))))))] := hD
      refine lv_goto (tgt := 22) hx hb dL_isTight_16 (by decide) ?_
      refine lv_iconst (v := nI 0) hx hb dL_isTight_22 (by decide +kernel) ?_
      exact cs_iret hx hb hr hlocks hK hP hD hS (v := nI 0) () (by rw [hc]) (by rw [hc]; rfl) dL_isTight_23
    · have c_7 := bI_n0 c_7
      refine lv_lconst (v := lN 1) hx hb dL_isTight_10 (by decide +kernel) ?_
      refine cs_l (y := bL (tig (spl k ne sp n rc) (vN v))) (by rw [c_7]; rfl) ?_
      refine lv_goto (tgt := 15) hx hb dL_isTight_11 (by decide) ?_
      refine va_last hx hb hK hP hD hS 6 1 rfl rfl (vp_in_nI (by omega) (by omega)) dL_isTight_15 (fun H locs hP hD hS => ?_)
      rw [jF_upd _ (by omega)] at hP hD
      have hP : va_P G.1 vwCl [(x, .inr (4, [.ref a, .ref b, .ref t, .ref q, .ref q1, .int (nI kq), .int (nI al)])), (a, .inr (0, [.ref ka, .int (nI n)])), (ka, .inl (G.2.1, 24, .inl (nF k))), (b, .inr (1, [.ref nb, .ref sb, .int (nI rc)])), (nb, .inl (G.2.1, 6, .inl (nF ne))), (sb, .inl (G.2.1, 6, .inl (nF sp))), (oj, .inl (G.2.2, 1, .inr (.inl (va_up fo 0 (bL (tig (spl k ne sp n rc) (vN v)))))))] _ := hP
      have hD : va_D A [(x, .inr (4, [.ref a, .ref b, .ref t, .ref q, .ref q1, .int (nI kq), .int (nI al)])), (a, .inr (0, [.ref ka, .int (nI n)])), (ka, .inl (G.2.1, 24, .inl (nF k))), (b, .inr (1, [.ref nb, .ref sb, .int (nI rc)])), (nb, .inl (G.2.1, 6, .inl (nF ne))), (sb, .inl (G.2.1, 6, .inl (nF sp))), (oj, .inl (G.2.2, 1, .inr (.inl (va_up fo 0 (bL (tig (spl k ne sp n rc) (vN v)))))))] := hD
      refine lv_goto (tgt := 22) hx hb dL_isTight_16 (by decide) ?_
      refine lv_iconst (v := nI 0) hx hb dL_isTight_22 (by decide +kernel) ?_
      exact cs_iret hx hb hr hlocks hK hP hD hS (v := nI 0) () (by rw [hc]) (by rw [hc]; rfl) dL_isTight_23
