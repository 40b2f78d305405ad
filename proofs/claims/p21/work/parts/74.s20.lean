set_option maxHeartbeats 4000000 in
set_option maxRecDepth 100000 in
theorem c_X5_more (l : Launch) (G : cG) (gr : ClassId) (sa : Nat → Nat) (R L : List Nat) (f : Nat → va_E) (a b q nb : Nat) (rr : Nat → Nat) (gb : Nat → Int32) (hq : q < 100000) (hra : fR gr L f a q rr) (hall : ∀ j, j < q → ∃ n9 g9, fI G (R ++ L) f (rr j) n9 g9) (hib : fI G (R ++ L) f b nb gb) : pMR l G gr sa yX5_more wsX5_more ({ frames := 0, cells := 1, slots := q + 1, locals := 0 }) [.ref a, .ref b] (([] : va_W) ++ va_pl (R ++ L) f) (fun (r_ : Nat) (u : List Nat × (Nat → va_E)) => pX R L f u.1 u.2 ∧ fR gr u.1 u.2 r_ (q + 1) (fun j => if j < q then rr j else b)) (fun (u : List Nat × (Nat → va_E)) => (([] : va_W) ++ va_pl (R ++ u.1) u.2)) := by
  refine ps_R (own := RX5) (cc := cX5_more) (maxL := 4) (ret := (some (.array (.array .int)))) (by decide) rfl rfl (Nat.le_of_ble_eq_true rfl) ?_
  intro p e s m below meth c A hZ hN hQ hx hb hr hml hts hown hlocks hinit hA hK hP hD hS ls hl
  have hl : lv_has ls 4 [(0, .ref a), (1, .ref b)] := hl
  refine lv_aload_n hx hb dX5_more_0 rfl (lv_at hl 0 rfl) ?_
  refine p_rlen hx hb hQ hP (hra.l R) dX5_more_1 ?_
  refine lv_iconst (v := nI 1) hx hb dX5_more_2 (by decide +kernel) ?_
  refine lv_iadd hx hb dX5_more_3 ?_
  refine cs_i (y := nI (q + 1)) (nI_add _ _) ?_
  refine p_newR hx hb hown (hts (.classLink RX5 13 "[I") (List.mem_of_getElem? (i := 1) rfl)) hQ hP hD hS hA (N' := q + 1) rfl (by omega) (by first | omega | (dsimp only; omega)) (by first | omega | (dsimp only; omega)) dX5_more_4 (fun q4 H hP hD hS => ?_)
  have hP : va_P G.1 vwCl ([(q4, .inl (gr, q + 1, .inr (.inr (.inr (.inr (fun _ => none))))))] ++ va_pl (R ++ L) f) _ := hP
  have hD : va_D A ([(q4, .inl (gr, q + 1, .inr (.inr (.inr (.inr (fun _ => none))))))] ++ va_pl (R ++ L) f) := hD
  refine lv_astore_n (lv' := [(2, .ref q4), (0, .ref a), (1, .ref b)]) hx hb dX5_more_7 rfl hl (by decide) rfl (fun ls hl => ?_)
  have e8 : (fun _ => none) = fa_fill (fun j9 => some (rr j9)) (fun _ => (none : Option Nat)) 0 := (fa_fill_0 _ _).symm
  rw [e8] at hP hD
  have hP : va_P G.1 vwCl ([(q4, .inl (gr, q + 1, .inr (.inr (.inr (.inr (fa_fill (fun j9 => some (rr j9)) (fun _ => none) 0))))))] ++ va_pl (R ++ L) f) _ := hP
  have hD : va_D A ([(q4, .inl (gr, q + 1, .inr (.inr (.inr (.inr (fa_fill (fun j9 => some (rr j9)) (fun _ => none) 0))))))] ++ va_pl (R ++ L) f) := hD
  refine lv_iconst (v := nI 0) hx hb dX5_more_8 (by decide +kernel) ?_
  refine lv_istore_n (lv' := [(3, .int (nI 0)), (2, .ref q4), (0, .ref a), (1, .ref b)]) hx hb dX5_more_9 rfl hl (by decide) rfl (fun ls hl => ?_)
  refine cs_loop (G := G) (nL := 4) (σ := Nat) (fun (i : Nat) => q - i) (fun (i : Nat) => i ≤ q) (fun (i : Nat) => ([(q4, .inl (gr, q + 1, .inr (.inr (.inr (.inr (fa_fill (fun j9 => some (rr j9)) (fun _ => none) i))))))] ++ va_pl (R ++ L) f)) (fun (i : Nat) => [(0, .ref a), (1, .ref b), (2, .ref q4), (3, .int (nI i))]) ?_ (0) (by show 0 ≤ q; omega) hP hD hS (lv_sub (l' := [(0, .ref a), (1, .ref b), (2, .ref q4), (3, .int (nI 0))]) hl [2, 3, 1, 0] rfl)
  rintro i hinv ih H locs ls hP hD hS hl
  have hP : va_P G.1 vwCl ([(q4, .inl (gr, q + 1, .inr (.inr (.inr (.inr (fa_fill (fun j9 => some (rr j9)) (fun _ => none) i))))))] ++ va_pl (R ++ L) f) _ := hP
  have hD : va_D A ([(q4, .inl (gr, q + 1, .inr (.inr (.inr (.inr (fa_fill (fun j9 => some (rr j9)) (fun _ => none) i))))))] ++ va_pl (R ++ L) f) := hD
  have hl : lv_has ls 4 [(0, .ref a), (1, .ref b), (2, .ref q4), (3, .int (nI i))] := hl
  have hinv : i ≤ q := hinv
  refine lv_iload_n hx hb dX5_more_10 rfl (lv_at hl 3 rfl) ?_
  refine lv_aload_n hx hb dX5_more_11 rfl (lv_at hl 0 rfl) ?_
  refine p_rlen hx hb hQ hP (hra.l R) dX5_more_12 ?_
  refine lv_icmp_ge (tgt := 28) hx hb dX5_more_13 (by decide) (fun c_13 => ?_) (fun c_13 => ?_)
  · have c_13 := (nI_leI (by omega) (by omega)).mp c_13
    have e7 : i = q := by omega
    rw [e7] at hP hD
    refine lv_aload_n hx hb dX5_more_28 rfl (lv_at hl 2 rfl) ?_
    refine lv_aload_n hx hb dX5_more_29 rfl (lv_at hl 0 rfl) ?_
    refine p_rlen hx hb hQ hP (hra.l R) dX5_more_30 ?_
    refine lv_aload_n hx hb dX5_more_31 rfl (lv_at hl 1 rfl) ?_
    refine p_aast hx hb hK hQ hP hD hS 0 rfl hib (j := q) rfl (by omega) (by omega) dX5_more_32 (fun H locs hP hD hS => ?_)
    have hP : va_P G.1 vwCl ([(q4, .inl (gr, q + 1, .inr (.inr (.inr (.inr (va_up (fa_fill (fun j9 => some (rr j9)) (fun _ => none) q) q (some b)))))))] ++ va_pl (R ++ L) f) _ := hP
    have hD : va_D A ([(q4, .inl (gr, q + 1, .inr (.inr (.inr (.inr (va_up (fa_fill (fun j9 => some (rr j9)) (fun _ => none) q) q (some b)))))))] ++ va_pl (R ++ L) f) := hD
    refine lv_aload_n hx hb dX5_more_33 rfl (lv_at hl 2 rfl) ?_
    obtain ⟨hP, hD, hx_1, hmF, heF⟩ := p_frz (X := ([] : va_W)) (RR := R) (L := L) (f := f) hP hD
    obtain ⟨L_1, f_1, hLF, hfF⟩ : ∃ L9 f9, L9 = L ++ [q4] ∧ f9 = va_up f q4 (.inl (gr, q + 1, .inr (.inr (.inr (.inr (va_up (fa_fill (fun j9 => some (rr j9)) (fun _ => none) q) q (some b))))))) := ⟨_, _, rfl, rfl⟩
    rw [← hLF, ← hfF] at hP hD hx_1
    rw [← hLF] at hmF
    rw [← hfF] at heF
    have hnew : fR gr L_1 f_1 q4 (q + 1) (fun j => if j < q then rr j else b) := ⟨hmF, _, heF, (fun j hj => mor_e (by omega))⟩
    clear hmF heF hLF hfF
    have hra := hra.mono hx_1
    have hib := hib.monoP hx_1
    have hP : va_P G.1 vwCl (([] : va_W) ++ va_pl (R ++ L_1) f_1) _ := hP
    have hD : va_D A (([] : va_W) ++ va_pl (R ++ L_1) f_1) := hD
    refine W.widen (k := 1) (n := q + 1) (by first | omega | (dsimp only; omega)) (by first | omega | (dsimp only; omega)) ?_
    exact p_aret (rt := .array (.array .int)) hx hb hr ⟨(.array .int), rfl⟩ hlocks hK hP hD hS (v := q4) (L_1, f_1) (⟨hx_1, hnew⟩) (rfl) dX5_more_34
  · have c_13 := mt (nI_leI (by omega) (by omega)).mpr c_13
    obtain ⟨n9, g9, hI9⟩ := hall i (by omega)
    refine lv_aload_n hx hb dX5_more_16 rfl (lv_at hl 2 rfl) ?_
    refine lv_iload_n hx hb dX5_more_17 rfl (lv_at hl 3 rfl) ?_
    refine lv_aload_n hx hb dX5_more_18 rfl (lv_at hl 0 rfl) ?_
    refine lv_iload_n hx hb dX5_more_19 rfl (lv_at hl 3 rfl) ?_
    refine p_aald hx hb hQ hP (hra.l R) (j := i) (v := rr i) rfl (by omega) (by omega) rfl dX5_more_20 ?_
    refine p_aast hx hb hK hQ hP hD hS 0 rfl hI9 (j := i) rfl (by omega) (by omega) dX5_more_21 (fun H locs hP hD hS => ?_)
    have hP : va_P G.1 vwCl ([(q4, .inl (gr, q + 1, .inr (.inr (.inr (.inr (va_up (fa_fill (fun j9 => some (rr j9)) (fun _ => none) i) i (some (rr i))))))))] ++ va_pl (R ++ L) f) _ := hP
    have hD : va_D A ([(q4, .inl (gr, q + 1, .inr (.inr (.inr (.inr (va_up (fa_fill (fun j9 => some (rr j9)) (fun _ => none) i) i (some (rr i))))))))] ++ va_pl (R ++ L) f) := hD
    have e9 : (va_up (fa_fill (fun j9 => some (rr j9)) (fun _ => none) i) i (some (rr i))) = (fa_fill (fun j9 => some (rr j9)) (fun _ => none) (i + 1)) := fil_s _ _ i
    rw [e9] at hP hD
    have hP : va_P G.1 vwCl ([(q4, .inl (gr, q + 1, .inr (.inr (.inr (.inr (fa_fill (fun j9 => some (rr j9)) (fun _ => none) (i + 1)))))))] ++ va_pl (R ++ L) f) _ := hP
    have hD : va_D A ([(q4, .inl (gr, q + 1, .inr (.inr (.inr (.inr (fa_fill (fun j9 => some (rr j9)) (fun _ => none) (i + 1)))))))] ++ va_pl (R ++ L) f) := hD
    refine lv_iinc (v := nI (i + 1)) (lv' := [(3, .int (nI (i + 1))), (0, .ref a), (1, .ref b), (2, .ref q4)]) hx hb dX5_more_22 hl (k := 3) rfl ((nI_succ i).symm) (by decide) rfl (fun ls hl => ?_)
    refine lv_goto (tgt := 10) hx hb dX5_more_25 (by decide) ?_
    exact ih (i + 1) (by show q - (i + 1) < q - i; omega) (by show (i + 1) ≤ q; omega) _ _ _ hP hD hS (lv_sub (l' := [(0, .ref a), (1, .ref b), (2, .ref q4), (3, .int (nI (i + 1)))]) hl [1, 2, 3, 0] rfl)

set_option maxHeartbeats 4000000 in
set_option maxRecDepth 100000 in
theorem c_X5_has (l : Launch) (G : cG) (gr : ClassId) (sa : Nat → Nat) (R L : List Nat) (f : Nat → va_E) (a n : Nat) (g : Nat → Int32) (v : Int32) (hn9 : n < 100000) (hia : fI G (R ++ L) f a n g) : pMI l G gr sa yX5_has wsX5_has ({ frames := 0, cells := 0, slots := 0, locals := 0 }) [.ref a, .int v] (([] : va_W) ++ va_pl (R ++ L) f) (fun (r_ : Int32) (_ : Unit) => r_ = bI (hsn g v n)) (fun (u : Unit) => (([] : va_W) ++ va_pl (R ++ L) f)) := by
  refine ps_I (own := RX5) (cc := cX5_has) (maxL := 6) (ret := (some .boolean)) (by decide) rfl rfl (Nat.le_of_ble_eq_true rfl) ?_
  intro p e s m below meth c A hZ hN hQ hx hb hr hml hts hown hlocks hinit hA hK hP hD hS ls hl
  have hl : lv_has ls 6 [(0, .ref a), (1, .int v)] := hl
  refine lv_aload_n hx hb dX5_has_0 rfl (lv_at hl 0 rfl) ?_
  refine lv_astore_n (lv' := [(2, .ref a), (0, .ref a), (1, .int v)]) hx hb dX5_has_1 rfl hl (by decide) rfl (fun ls hl => ?_)
  refine lv_aload_n hx hb dX5_has_2 rfl (lv_at hl 0 rfl) ?_
  refine p_ilen hx hb hK hP hia dX5_has_3 ?_
  refine lv_istore_n (lv' := [(3, .int (nI n)), (2, .ref a), (0, .ref a), (1, .int v)]) hx hb dX5_has_4 rfl hl (by decide) rfl (fun ls hl => ?_)
  refine lv_iconst (v := nI 0) hx hb dX5_has_5 (by decide +kernel) ?_
  refine lv_istore (lv' := [(4, .int (nI 0)), (3, .int (nI n)), (2, .ref a), (0, .ref a), (1, .int v)]) hx hb dX5_has_6 hl (by decide) rfl (fun ls hl => ?_)
  refine cs_loop (G := G) (nL := 6) (σ := Nat) (fun (i : Nat) => n - i) (fun (i : Nat) => i ≤ n ∧ hsn g v i = false) (fun (i : Nat) => (([] : va_W) ++ va_pl (R ++ L) f)) (fun (i : Nat) => [(0, .ref a), (1, .int v), (2, .ref a), (3, .int (nI n)), (4, .int (nI i))]) ?_ (0) (⟨Nat.zero_le _, rfl⟩) hP hD hS (lv_sub (l' := [(0, .ref a), (1, .int v), (2, .ref a), (3, .int (nI n)), (4, .int (nI 0))]) hl [3, 4, 2, 1, 0] rfl)
  rintro i hinv ih H locs ls hP hD hS hl
  have hP : va_P G.1 vwCl (([] : va_W) ++ va_pl (R ++ L) f) _ := hP
  have hD : va_D A (([] : va_W) ++ va_pl (R ++ L) f) := hD
  have hl : lv_has ls 6 [(0, .ref a), (1, .int v), (2, .ref a), (3, .int (nI n)), (4, .int (nI i))] := hl
  have hinv : i ≤ n ∧ hsn g v i = false := hinv
  obtain ⟨hi, hf⟩ := hinv
  refine lv_iload hx hb dX5_has_8 (lv_at hl 4 rfl) ?_
  refine lv_iload_n hx hb dX5_has_10 rfl (lv_at hl 3 rfl) ?_
  refine lv_icmp_ge (tgt := 34) hx hb dX5_has_11 (by decide) (fun c_11 => ?_) (fun c_11 => ?_)
  · have c_11 := (nI_leI (by omega) (by omega)).mp c_11
    have e7 : i = n := by omega
    subst e7
    refine lv_iconst (v := nI 0) hx hb dX5_has_34 (by decide +kernel) ?_
    refine W.widen (k := 0) (n := 0) (by first | omega | (dsimp only; omega)) (by first | omega | (dsimp only; omega)) ?_
    exact cs_zret hx hb hr hlocks hK hP hD hS (v := nI 0) (rfl) () (by rw [hf]; rfl) (rfl) dX5_has_35
  · have c_11 := mt (nI_leI (by omega) (by omega)).mpr c_11
    refine lv_aload_n hx hb dX5_has_14 rfl (lv_at hl 2 rfl) ?_
    refine lv_iload hx hb dX5_has_15 (lv_at hl 4 rfl) ?_
    refine p_iald hx hb hK hP hia (j := i) (v := g i) rfl (by omega) (by omega) (rfl) dX5_has_17 ?_
    refine lv_istore (lv' := [(5, .int (g i)), (0, .ref a), (1, .int v), (2, .ref a), (3, .int (nI n)), (4, .int (nI i))]) hx hb dX5_has_18 hl (by decide) rfl (fun ls hl => ?_)
    refine lv_iload hx hb dX5_has_20 (lv_at hl 0 rfl) ?_
    refine lv_iload_n hx hb dX5_has_22 rfl (lv_at hl 2 rfl) ?_
    refine lv_icmp_ne (tgt := 28) hx hb dX5_has_23 (by decide) (fun c_23 => ?_) (fun c_23 => ?_)
    · refine lv_iinc (v := nI (i + 1)) (lv' := [(4, .int (nI (i + 1))), (5, .int (g i)), (0, .ref a), (1, .int v), (2, .ref a), (3, .int (nI n))]) hx hb dX5_has_28 hl (k := 5) rfl ((nI_succ i).symm) (by decide) rfl (fun ls hl => ?_)
      refine lv_goto (tgt := 8) hx hb dX5_has_31 (by decide) ?_
      exact ih (i + 1) (by show n - (i + 1) < n - i; omega) (⟨by omega, by rw [hsn_f c_23]; exact hf⟩) _ _ _ hP hD hS (lv_sub (l' := [(0, .ref a), (1, .int v), (2, .ref a), (3, .int (nI n)), (4, .int (nI (i + 1)))]) hl [2, 3, 4, 5, 0] rfl)
    · refine lv_iconst (v := nI 1) hx hb dX5_has_26 (by decide +kernel) ?_
      refine W.widen (k := 0) (n := 0) (by first | omega | (dsimp only; omega)) (by first | omega | (dsimp only; omega)) ?_
      exact cs_zret hx hb hr hlocks hK hP hD hS (v := nI 1) (rfl) () (by rw [hsn_t c_23 n (by omega)]; rfl) (rfl) dX5_has_27

set_option maxHeartbeats 4000000 in
set_option maxRecDepth 100000 in
theorem c_X5_isSame (l : Launch) (G : cG) (gr : ClassId) (sa : Nat → Nat) (R L : List Nat) (f : Nat → va_E) (a b d e9 : Nat) (hd : d < 2 ^ 24) (he : e9 < 2 ^ 24) (hia : dI G L f a d) (hib : dI G L f b e9) : pMI l G gr sa yX5_isSame wsX5_isSame ({ frames := 0, cells := 0, slots := 0, locals := 0 }) [.ref a, .ref b] (([] : va_W) ++ va_pl (R ++ L) f) (fun (r_ : Int32) (_ : Unit) => r_ = bI (decide (d = e9))) (fun (u : Unit) => (([] : va_W) ++ va_pl (R ++ L) f)) := by
  refine ps_I (own := RX5) (cc := cX5_isSame) (maxL := 3) (ret := (some .boolean)) (by decide) rfl rfl (Nat.le_of_ble_eq_true rfl) ?_
  intro p e s m below meth c A hZ hN hQ hx hb hr hml hts hown hlocks hinit hA hK hP hD hS ls hl
  have hl : lv_has ls 3 [(0, .ref a), (1, .ref b)] := hl
  have hc1 := cnt_le d 24
  have hc2 := cnt_le e9 24
  refine lv_aload_n hx hb dX5_isSame_0 rfl (lv_at hl 0 rfl) ?_
  refine p_ilen hx hb hK hP (hia.l R) dX5_isSame_1 ?_
  refine lv_aload_n hx hb dX5_isSame_2 rfl (lv_at hl 1 rfl) ?_
  refine p_ilen hx hb hK hP (hib.l R) dX5_isSame_3 ?_
  refine lv_icmp_eq (tgt := 9) hx hb dX5_isSame_4 (by decide) (fun c_4 => ?_) (fun c_4 => ?_)
  · have c_4 := (nI_eq (by omega) (by omega)).mp c_4
    refine lv_iconst (v := nI 0) hx hb dX5_isSame_9 (by decide +kernel) ?_
    refine lv_istore_n (lv' := [(2, .int (nI 0)), (0, .ref a), (1, .ref b)]) hx hb dX5_isSame_10 rfl hl (by decide) rfl (fun ls hl => ?_)
    refine cs_loop (G := G) (nL := 3) (σ := Nat) (fun (i : Nat) => cnt d 24 - i) (fun (i : Nat) => i ≤ cnt d 24 ∧ ∀ j, j < i → nI (plc d j) = nI (plc e9 j)) (fun (i : Nat) => (([] : va_W) ++ va_pl (R ++ L) f)) (fun (i : Nat) => [(0, .ref a), (1, .ref b), (2, .int (nI i))]) ?_ (0) (⟨Nat.zero_le _, fun j h => absurd h (Nat.not_lt_zero j)⟩) hP hD hS (lv_sub (l' := [(0, .ref a), (1, .ref b), (2, .int (nI 0))]) hl [1, 2, 0] rfl)
    rintro i hinv ih H locs ls hP hD hS hl
    have hP : va_P G.1 vwCl (([] : va_W) ++ va_pl (R ++ L) f) _ := hP
    have hD : va_D A (([] : va_W) ++ va_pl (R ++ L) f) := hD
    have hl : lv_has ls 3 [(0, .ref a), (1, .ref b), (2, .int (nI i))] := hl
    have hinv : i ≤ cnt d 24 ∧ ∀ j, j < i → nI (plc d j) = nI (plc e9 j) := hinv
    obtain ⟨hi, hf⟩ := hinv
    refine lv_iload_n hx hb dX5_isSame_11 rfl (lv_at hl 2 rfl) ?_
    refine lv_aload_n hx hb dX5_isSame_12 rfl (lv_at hl 0 rfl) ?_
    refine p_ilen hx hb hK hP (hia.l R) dX5_isSame_13 ?_
    refine lv_icmp_ge (tgt := 34) hx hb dX5_isSame_14 (by decide) (fun c_14 => ?_) (fun c_14 => ?_)
    · have c_14 := (nI_leI (by omega) (by omega)).mp c_14
      have e7 : i = cnt d 24 := by omega
      subst e7
      refine lv_iconst (v := nI 1) hx hb dX5_isSame_34 (by decide +kernel) ?_
      refine W.widen (k := 0) (n := 0) (by first | omega | (dsimp only; omega)) (by first | omega | (dsimp only; omega)) ?_
      exact cs_zret hx hb hr hlocks hK hP hD hS (v := nI 1) (rfl) () (congrArg bI (dI_eq (b := true) hd he (fun _ => ⟨c_4, hf⟩) (fun z => by cases z))) (rfl) dX5_isSame_35
    · have c_14 := mt (nI_leI (by omega) (by omega)).mpr c_14
      refine lv_aload_n hx hb dX5_isSame_17 rfl (lv_at hl 0 rfl) ?_
      refine lv_iload_n hx hb dX5_isSame_18 rfl (lv_at hl 2 rfl) ?_
      refine p_iald hx hb hK hP (hia.l R) (j := i) (v := nI (plc d i)) rfl (by omega) (by omega) (rfl) dX5_isSame_19 ?_
      refine lv_aload_n hx hb dX5_isSame_20 rfl (lv_at hl 1 rfl) ?_
      refine lv_iload_n hx hb dX5_isSame_21 rfl (lv_at hl 2 rfl) ?_
      refine p_iald hx hb hK hP (hib.l R) (j := i) (v := nI (plc e9 i)) rfl (by omega) (by omega) (rfl) dX5_isSame_22 ?_
      refine lv_icmp_eq (tgt := 28) hx hb dX5_isSame_23 (by decide) (fun c_23 => ?_) (fun c_23 => ?_)
      · refine lv_iinc (v := nI (i + 1)) (lv' := [(2, .int (nI (i + 1))), (0, .ref a), (1, .ref b)]) hx hb dX5_isSame_28 hl (k := 2) rfl ((nI_succ i).symm) (by decide) rfl (fun ls hl => ?_)
        refine lv_goto (tgt := 11) hx hb dX5_isSame_31 (by decide) ?_
        exact ih (i + 1) (by show cnt d 24 - (i + 1) < cnt d 24 - i; omega) (⟨by omega, fun j hj => by rcases Nat.lt_or_ge j i with z | z <;> first | exact hf j z | (have e8 : j = i := (by omega); subst e8; exact c_23)⟩) _ _ _ hP hD hS (lv_sub (l' := [(0, .ref a), (1, .ref b), (2, .int (nI (i + 1)))]) hl [1, 2, 0] rfl)
      · refine lv_iconst (v := nI 0) hx hb dX5_isSame_26 (by decide +kernel) ?_
        refine W.widen (k := 0) (n := 0) (by first | omega | (dsimp only; omega)) (by first | omega | (dsimp only; omega)) ?_
        exact cs_zret hx hb hr hlocks hK hP hD hS (v := nI 0) (rfl) () (congrArg bI (dI_eq (b := false) hd he (fun z => by cases z) (fun _ => Or.inr ⟨c_4, i, by omega, c_23⟩))) (rfl) dX5_isSame_27
  · have c_4 := mt (nI_eq (by omega) (by omega)).mpr c_4
    refine lv_iconst (v := nI 0) hx hb dX5_isSame_7 (by decide +kernel) ?_
    refine W.widen (k := 0) (n := 0) (by first | omega | (dsimp only; omega)) (by first | omega | (dsimp only; omega)) ?_
    exact cs_zret hx hb hr hlocks hK hP hD hS (v := nI 0) (rfl) () (congrArg bI (dI_eq (b := false) hd he (fun z => by cases z) (fun _ => Or.inl c_4))) (rfl) dX5_isSame_8

set_option maxRecDepth 100000 in
theorem in5_X5_kindsOf : ∀ w ∈ wsX50, w ∈ wsX5_kindsOf := by decide +kernel
set_option maxHeartbeats 4000000 in
set_option maxRecDepth 100000 in
theorem c_X5_kindsOf (l : Launch) (G : cG) (gr : ClassId) (sa : Nat → Nat) (R L : List Nat) (f : Nat → va_E) (z ak ar al alk ast asn amd td aa : Nat) (n rc : Nat) (k ne sp : Nat → Nat) (hn : n ≤ 24) (hk : ∀ j, j < n → k j < 16) (hrc : rc ≤ 6) (hne : ∀ j, j < 6 → ne j < 65536) (hsp : ∀ j, j < 6 → sp j < 65536) (hdj : ∀ j, j < 6 → ne j &&& sp j = 0) (hsim : simK G gr R L f ak ar n k rc ne sp) (b d : Nat) (hd : d < 2 ^ n) (hib : dI G L f b d) : pMR l G gr sa yX5_kindsOf wsX5_kindsOf ({ frames := 0, cells := 1, slots := cnt d 24, locals := 0 }) [.ref z, .ref b] ([(z, .inr (5, [.ref ak, .ref ar, .ref al, .ref alk, .int (nI td), .ref ast, .int (nI aa), .ref asn, .ref amd]))] ++ va_pl (R ++ L) f) (fun (r_ : Nat) (u : List Nat × (Nat → va_E)) => pX R L f u.1 u.2 ∧ fI G u.1 u.2 r_ (cnt d 24) (fun j => nI (k (plc d j)))) (fun (u : List Nat × (Nat → va_E)) => ([(z, .inr (5, [.ref ak, .ref ar, .ref al, .ref alk, .int (nI td), .ref ast, .int (nI aa), .ref asn, .ref amd]))] ++ va_pl (R ++ u.1) u.2)) := by
  refine ps_R (own := RX5) (cc := cX5_kindsOf) (maxL := 4) (ret := (some (.array .int))) (by decide) rfl rfl (Nat.le_of_ble_eq_true rfl) ?_
  intro p e s m below meth c A hZ hN hQ hx hb hr hml hts hown hlocks hinit hA hK hP hD hS ls hl
  have hin5 := in5_X5_kindsOf
  have hl : lv_has ls 4 [(0, .ref z), (1, .ref b)] := hl
  have hc1 := cnt_le d 24
  have hsim0 := hsim
  obtain ⟨hkI, hRl, hrR, hrI⟩ := hsim0
  refine lv_aload_n hx hb dX5_kindsOf_0 rfl (lv_at hl 1 rfl) ?_
  refine p_ilen hx hb hK hP (hib.l R) dX5_kindsOf_1 ?_
  refine p_newI hx hb (hts (.arrayClass .int) (List.mem_of_getElem? (i := 1) rfl)) hK hP hD hS hA (N' := cnt d 24) rfl (by omega) (by first | omega | (dsimp only; omega)) (by first | omega | (dsimp only; omega)) dX5_kindsOf_2 (fun q2 H hP hD hS => ?_)
  have hP : va_P G.1 vwCl ([(z, .inr (5, [.ref ak, .ref ar, .ref al, .ref alk, .int (nI td), .ref ast, .int (nI aa), .ref asn, .ref amd])), (q2, .inl (G.2.1, cnt d 24, .inl (nF (fun _ => 0))))] ++ va_pl (R ++ L) f) _ := hP
  have hD : va_D A ([(z, .inr (5, [.ref ak, .ref ar, .ref al, .ref alk, .int (nI td), .ref ast, .int (nI aa), .ref asn, .ref amd])), (q2, .inl (G.2.1, cnt d 24, .inl (nF (fun _ => 0))))] ++ va_pl (R ++ L) f) := hD
  refine lv_astore_n (lv' := [(2, .ref q2), (0, .ref z), (1, .ref b)]) hx hb dX5_kindsOf_4 rfl hl (by decide) rfl (fun ls hl => ?_)
  have e8 : nF (fun _ => 0) = fa_fill (fun j9 => nI (k (plc d j9))) (nF (fun _ => 0)) 0 := (fa_fill_0 _ _).symm
  rw [e8] at hP hD
  have hP : va_P G.1 vwCl ([(z, .inr (5, [.ref ak, .ref ar, .ref al, .ref alk, .int (nI td), .ref ast, .int (nI aa), .ref asn, .ref amd])), (q2, .inl (G.2.1, cnt d 24, .inl (fa_fill (fun j9 => nI (k (plc d j9))) (nF (fun _ => 0)) 0)))] ++ va_pl (R ++ L) f) _ := hP
  have hD : va_D A ([(z, .inr (5, [.ref ak, .ref ar, .ref al, .ref alk, .int (nI td), .ref ast, .int (nI aa), .ref asn, .ref amd])), (q2, .inl (G.2.1, cnt d 24, .inl (fa_fill (fun j9 => nI (k (plc d j9))) (nF (fun _ => 0)) 0)))] ++ va_pl (R ++ L) f) := hD
  refine lv_iconst (v := nI 0) hx hb dX5_kindsOf_5 (by decide +kernel) ?_
  refine lv_istore_n (lv' := [(3, .int (nI 0)), (2, .ref q2), (0, .ref z), (1, .ref b)]) hx hb dX5_kindsOf_6 rfl hl (by decide) rfl (fun ls hl => ?_)
  refine cs_loop (G := G) (nL := 4) (σ := Nat) (fun (i : Nat) => cnt d 24 - i) (fun (i : Nat) => i ≤ cnt d 24) (fun (i : Nat) => ([(z, .inr (5, [.ref ak, .ref ar, .ref al, .ref alk, .int (nI td), .ref ast, .int (nI aa), .ref asn, .ref amd])), (q2, .inl (G.2.1, cnt d 24, .inl (fa_fill (fun j9 => nI (k (plc d j9))) (nF (fun _ => 0)) i)))] ++ va_pl (R ++ L) f)) (fun (i : Nat) => [(0, .ref z), (1, .ref b), (2, .ref q2), (3, .int (nI i))]) ?_ (0) (by show 0 ≤ cnt d 24; omega) hP hD hS (lv_sub (l' := [(0, .ref z), (1, .ref b), (2, .ref q2), (3, .int (nI 0))]) hl [2, 3, 1, 0] rfl)
  rintro i hinv ih H locs ls hP hD hS hl
  have hP : va_P G.1 vwCl ([(z, .inr (5, [.ref ak, .ref ar, .ref al, .ref alk, .int (nI td), .ref ast, .int (nI aa), .ref asn, .ref amd])), (q2, .inl (G.2.1, cnt d 24, .inl (fa_fill (fun j9 => nI (k (plc d j9))) (nF (fun _ => 0)) i)))] ++ va_pl (R ++ L) f) _ := hP
  have hD : va_D A ([(z, .inr (5, [.ref ak, .ref ar, .ref al, .ref alk, .int (nI td), .ref ast, .int (nI aa), .ref asn, .ref amd])), (q2, .inl (G.2.1, cnt d 24, .inl (fa_fill (fun j9 => nI (k (plc d j9))) (nF (fun _ => 0)) i)))] ++ va_pl (R ++ L) f) := hD
  have hl : lv_has ls 4 [(0, .ref z), (1, .ref b), (2, .ref q2), (3, .int (nI i))] := hl
  have hinv : i ≤ cnt d 24 := hinv
  refine lv_iload_n hx hb dX5_kindsOf_7 rfl (lv_at hl 3 rfl) ?_
  refine lv_aload_n hx hb dX5_kindsOf_8 rfl (lv_at hl 1 rfl) ?_
  refine p_ilen hx hb hK hP (hib.l R) dX5_kindsOf_9 ?_
  refine lv_icmp_ge (tgt := 30) hx hb dX5_kindsOf_10 (by decide) (fun c_10 => ?_) (fun c_10 => ?_)
  · have c_10 := (nI_leI (by omega) (by omega)).mp c_10
    have e7 : i = cnt d 24 := by omega
    subst e7
    refine lv_aload_n hx hb dX5_kindsOf_30 rfl (lv_at hl 2 rfl) ?_
    obtain ⟨hP, hD, hx_1, hmF, heF⟩ := p_frz (X := [(z, .inr (5, [.ref ak, .ref ar, .ref al, .ref alk, .int (nI td), .ref ast, .int (nI aa), .ref asn, .ref amd]))]) (RR := R) (L := L) (f := f) hP hD
    obtain ⟨L_1, f_1, hLF, hfF⟩ : ∃ L9 f9, L9 = L ++ [q2] ∧ f9 = va_up f q2 (.inl (G.2.1, cnt d 24, .inl (fa_fill (fun j9 => nI (k (plc d j9))) (nF (fun _ => 0)) (cnt d 24)))) := ⟨_, _, rfl, rfl⟩
    rw [← hLF, ← hfF] at hP hD hx_1
    rw [← hLF] at hmF
    rw [← hfF] at heF
    have hnew : fI G L_1 f_1 q2 (cnt d 24) (fun j => nI (k (plc d j))) := ⟨hmF, _, heF, (fun j hj => fa_fill_in hj)⟩
    clear hmF heF hLF hfF
    have hkI := hkI.mono hx_1
    have hrR := hrR.mono hx_1
    have hib := hib.mono hx_1
    have hP : va_P G.1 vwCl ([(z, .inr (5, [.ref ak, .ref ar, .ref al, .ref alk, .int (nI td), .ref ast, .int (nI aa), .ref asn, .ref amd]))] ++ va_pl (R ++ L_1) f_1) _ := hP
    have hD : va_D A ([(z, .inr (5, [.ref ak, .ref ar, .ref al, .ref alk, .int (nI td), .ref ast, .int (nI aa), .ref asn, .ref amd]))] ++ va_pl (R ++ L_1) f_1) := hD
    refine W.widen (k := 1) (n := cnt d 24) (by first | omega | (dsimp only; omega)) (by first | omega | (dsimp only; omega)) ?_
    exact p_aret (rt := .array .int) hx hb hr ⟨.int, rfl⟩ hlocks hK hP hD hS (v := q2) (L_1, f_1) (⟨hx_1, hnew⟩) (rfl) dX5_kindsOf_31
  · have c_10 := mt (nI_leI (by omega) (by omega)).mpr c_10
    have hpl := plc_lt (j := i) hd (by omega)
    refine lv_aload_n hx hb dX5_kindsOf_13 rfl (lv_at hl 2 rfl) ?_
    refine lv_iload_n hx hb dX5_kindsOf_14 rfl (lv_at hl 3 rfl) ?_
    refine lv_aload_n hx hb dX5_kindsOf_15 rfl (lv_at hl 0 rfl) ?_
    refine va_get (D := G.1) (ci := 5) (v := .ref ak) (C := RX5) (T := TX5) (N := 9) hx hb hts hin5 hown hK hP 0 rfl rfl 0 (by decide) (hts (.fieldLink RX5 7 "FaultShrinkerLaw$Sim" "kinds" "[I") (List.mem_of_getElem? (i := 2) rfl)) (fun _ h9 => h9) rfl dX5_kindsOf_16 ?_
    refine lv_aload_n hx hb dX5_kindsOf_19 rfl (lv_at hl 1 rfl) ?_
    refine lv_iload_n hx hb dX5_kindsOf_20 rfl (lv_at hl 3 rfl) ?_
    refine p_iald hx hb hK hP (hib.l R) (j := i) (v := nI (plc d i)) rfl (by omega) (by omega) (rfl) dX5_kindsOf_21 ?_
    refine p_iald hx hb hK hP (hkI.l R) (j := plc d i) (v := nI (k (plc d i))) rfl (by omega) (by omega) (rfl) dX5_kindsOf_22 ?_
    refine va_iast hx hb hK hP hD hS 1 0 rfl rfl (vp_in_nI (by omega) (by omega)) dX5_kindsOf_23 (fun H locs hP hD hS => ?_)
    rw [aF_upd _ (by omega)] at hP hD
    have hP : va_P G.1 vwCl ([(z, .inr (5, [.ref ak, .ref ar, .ref al, .ref alk, .int (nI td), .ref ast, .int (nI aa), .ref asn, .ref amd])), (q2, .inl (G.2.1, cnt d 24, .inl (va_up (fa_fill (fun j9 => nI (k (plc d j9))) (nF (fun _ => 0)) i) i (nI (k (plc d i))))))] ++ va_pl (R ++ L) f) _ := hP
    have hD : va_D A ([(z, .inr (5, [.ref ak, .ref ar, .ref al, .ref alk, .int (nI td), .ref ast, .int (nI aa), .ref asn, .ref amd])), (q2, .inl (G.2.1, cnt d 24, .inl (va_up (fa_fill (fun j9 => nI (k (plc d j9))) (nF (fun _ => 0)) i) i (nI (k (plc d i))))))] ++ va_pl (R ++ L) f) := hD
    have e9 : (va_up (fa_fill (fun j9 => nI (k (plc d j9))) (nF (fun _ => 0)) i) i (nI (k (plc d i)))) = (fa_fill (fun j9 => nI (k (plc d j9))) (nF (fun _ => 0)) (i + 1)) := fil_s _ _ i
    rw [e9] at hP hD
    have hP : va_P G.1 vwCl ([(z, .inr (5, [.ref ak, .ref ar, .ref al, .ref alk, .int (nI td), .ref ast, .int (nI aa), .ref asn, .ref amd])), (q2, .inl (G.2.1, cnt d 24, .inl (fa_fill (fun j9 => nI (k (plc d j9))) (nF (fun _ => 0)) (i + 1))))] ++ va_pl (R ++ L) f) _ := hP
    have hD : va_D A ([(z, .inr (5, [.ref ak, .ref ar, .ref al, .ref alk, .int (nI td), .ref ast, .int (nI aa), .ref asn, .ref amd])), (q2, .inl (G.2.1, cnt d 24, .inl (fa_fill (fun j9 => nI (k (plc d j9))) (nF (fun _ => 0)) (i + 1))))] ++ va_pl (R ++ L) f) := hD
    refine lv_iinc (v := nI (i + 1)) (lv' := [(3, .int (nI (i + 1))), (0, .ref z), (1, .ref b), (2, .ref q2)]) hx hb dX5_kindsOf_24 hl (k := 3) rfl ((nI_succ i).symm) (by decide) rfl (fun ls hl => ?_)
    refine lv_goto (tgt := 7) hx hb dX5_kindsOf_27 (by decide) ?_
    exact ih (i + 1) (by show cnt d 24 - (i + 1) < cnt d 24 - i; omega) (by show (i + 1) ≤ cnt d 24; omega) _ _ _ hP hD hS (lv_sub (l' := [(0, .ref z), (1, .ref b), (2, .ref q2), (3, .int (nI (i + 1)))]) hl [1, 2, 3, 0] rfl)

set_option maxRecDepth 100000 in
theorem in5_X5_holds : ∀ w ∈ wsX50, w ∈ wsX5_holds := by decide +kernel
set_option maxHeartbeats 4000000 in
set_option maxRecDepth 100000 in
theorem c_X5_holds (l : Launch) (G : cG) (gr : ClassId) (sa : Nat → Nat) (R L : List Nat) (f : Nat → va_E) (z ak ar al alk ast asn amd td aa : Nat) (n rc : Nat) (k ne sp : Nat → Nat) (hn : n ≤ 24) (hk : ∀ j, j < n → k j < 16) (hrc : rc ≤ 6) (hne : ∀ j, j < 6 → ne j < 65536) (hsp : ∀ j, j < 6 → sp j < 65536) (hdj : ∀ j, j < 6 → ne j &&& sp j = 0) (hsim : simK G gr R L f ak ar n k rc ne sp) (r m9 kq c9 : Nat) (g : Nat → Int32) (hr9 : r < rc) (hm9 : m9 < 1000) (hic : fI G (R ++ L) f c9 m9 g) (hkr : kR g m9 kq) : pMI l G gr sa yX5_holds wsX5_holds ({ frames := 1, cells := 0, slots := 0, locals := 25 }) [.ref z, .int (nI r), .ref c9] ([(z, .inr (5, [.ref ak, .ref ar, .ref al, .ref alk, .int (nI td), .ref ast, .int (nI aa), .ref asn, .ref amd]))] ++ va_pl (R ++ L) f) (fun (r_ : Int32) (_ : Unit) => r_ = bI (hld (ne r) (sp r) kq)) (fun (u : Unit) => ([(z, .inr (5, [.ref ak, .ref ar, .ref al, .ref alk, .int (nI td), .ref ast, .int (nI aa), .ref asn, .ref amd]))] ++ va_pl (R ++ L) f)) := by
  refine ps_I (own := RX5) (cc := cX5_holds) (maxL := 6) (ret := (some .boolean)) (by decide) rfl rfl (Nat.le_of_ble_eq_true rfl) ?_
  intro p e s m below meth c A hZ hN hQ hx hb hr hml hts hown hlocks hinit hA hK hP hD hS ls hl
  have hin5 := in5_X5_holds
  have hl : lv_has ls 6 [(0, .ref z), (1, .int (nI r)), (2, .ref c9)] := hl
  have hsim0 := hsim
  obtain ⟨hkI, hRl, hrR, hrI⟩ := hsim0
  have hrr := hrI r hr9
  have hdr := hdj r (by omega)
  refine lv_iconst (v := nI 0) hx hb dX5_holds_0 (by decide +kernel) ?_
  refine lv_istore_n (lv' := [(3, .int (nI 0)), (0, .ref z), (1, .int (nI r)), (2, .ref c9)]) hx hb dX5_holds_1 rfl hl (by decide) rfl (fun ls hl => ?_)
  have e8 : nI 0 = bI (anh (ne r) 0) := by unfold anh; rw [decide_eq_false (fun ⟨j, h1, _⟩ => absurd h1 (Nat.not_lt_zero j))]; rfl
  have hl : lv_has ls 6 [(3, .int (bI (anh (ne r) 0))), (0, .ref z), (1, .int (nI r)), (2, .ref c9)] := by rw [← e8]; exact hl
  refine lv_iconst (v := nI 0) hx hb dX5_holds_2 (by decide +kernel) ?_
  refine lv_istore (lv' := [(4, .int (nI 0)), (3, .int (bI (anh (ne r) 0))), (0, .ref z), (1, .int (nI r)), (2, .ref c9)]) hx hb dX5_holds_3 hl (by decide) rfl (fun ls hl => ?_)
  refine cs_loop (G := G) (nL := 6) (σ := Nat) (fun (i : Nat) => 16 - i) (fun (i : Nat) => i ≤ 16 ∧ okh (ne r) (sp r) kq i) (fun (i : Nat) => ([(z, .inr (5, [.ref ak, .ref ar, .ref al, .ref alk, .int (nI td), .ref ast, .int (nI aa), .ref asn, .ref amd]))] ++ va_pl (R ++ L) f)) (fun (i : Nat) => [(0, .ref z), (1, .int (nI r)), (2, .ref c9), (3, .int (bI (anh (ne r) i))), (4, .int (nI i))]) ?_ (0) (⟨Nat.zero_le _, fun j h => absurd h (Nat.not_lt_zero j)⟩) hP hD hS (lv_sub (l' := [(0, .ref z), (1, .int (nI r)), (2, .ref c9), (3, .int (bI (anh (ne r) 0))), (4, .int (nI 0))]) hl [2, 3, 4, 1, 0] rfl)
  rintro i hinv ih H locs ls hP hD hS hl
  have hP : va_P G.1 vwCl ([(z, .inr (5, [.ref ak, .ref ar, .ref al, .ref alk, .int (nI td), .ref ast, .int (nI aa), .ref asn, .ref amd]))] ++ va_pl (R ++ L) f) _ := hP
  have hD : va_D A ([(z, .inr (5, [.ref ak, .ref ar, .ref al, .ref alk, .int (nI td), .ref ast, .int (nI aa), .ref asn, .ref amd]))] ++ va_pl (R ++ L) f) := hD
  have hl : lv_has ls 6 [(0, .ref z), (1, .int (nI r)), (2, .ref c9), (3, .int (bI (anh (ne r) i))), (4, .int (nI i))] := hl
  have hinv : i ≤ 16 ∧ okh (ne r) (sp r) kq i := hinv
  obtain ⟨hi, hok⟩ := hinv
  refine lv_iload hx hb dX5_holds_5 (lv_at hl 4 rfl) ?_
  refine lv_bipush (v := nI 16) hx hb dX5_holds_7 (by decide +kernel) ?_
  refine lv_icmp_ge (tgt := 85) hx hb dX5_holds_9 (by decide) (fun c_9 => ?_) (fun c_9 => ?_)
  · have c_9 := (nI_leI (by omega) (by omega)).mp c_9
    have e7 : i = 16 := by omega
    subst e7
    refine lv_iload_n hx hb dX5_holds_85 rfl (lv_at hl 3 rfl) ?_
    refine W.widen (k := 0) (n := 0) (by first | omega | (dsimp only; omega)) (by first | omega | (dsimp only; omega)) ?_
    exact cs_zret hx hb hr hlocks hK hP hD hS (v := bI (anh (ne r) 16)) (bI_nar _) () (by rw [okh_hld (hne r (by omega)) (hsp r (by omega)) hok]) (rfl) dX5_holds_86
  · have c_9 := mt (nI_leI (by omega) (by omega)).mpr c_9
    refine lv_aload_n hx hb dX5_holds_12 rfl (lv_at hl 2 rfl) ?_
    refine lv_iload hx hb dX5_holds_13 (lv_at hl 4 rfl) ?_
    refine p_si (X := [(z, .inr (5, [.ref ak, .ref ar, .ref al, .ref alk, .int (nI td), .ref ast, .int (nI aa), .ref asn, .ref amd]))]) (cx := ([] : va_W)) (As := [.ref c9, .int (nI i)]) (rest := []) (wr := [(z, .inr (5, [.ref ak, .ref ar, .ref al, .ref alk, .int (nI td), .ref ast, .int (nI aa), .ref asn, .ref amd]))]) ⟨hx, hb, hml, hown, hts⟩ hK hQ hP hD hS hA hZ hN (c_X5_has l G gr sa R L f c9 m9 g (nI i) (by first | assumption | omega) (by first | assumption | omega)) (va_cwS 2 hts gX5_holds_X5_has rfl rfl rfl (by decide +kernel) ⟨Nat.le_of_ble_eq_true rfl, Nat.le_of_ble_eq_true rfl⟩) [] [0] ⟨rfl, rfl, by decide, by decide, by decide⟩ rfl hl.1 rfl (Nat.le_of_ble_eq_true rfl) ⟨by first | omega | (dsimp only; omega), by first | omega | (dsimp only; omega)⟩ dX5_holds_15 (fun r u_1 H locs hw hP hD hS => ?_)
    try dsimp only at hw
    have hP : va_P G.1 vwCl ([(z, .inr (5, [.ref ak, .ref ar, .ref al, .ref alk, .int (nI td), .ref ast, .int (nI aa), .ref asn, .ref amd]))] ++ va_pl (R ++ L) f) H := hP
    have hD : va_D A ([(z, .inr (5, [.ref ak, .ref ar, .ref al, .ref alk, .int (nI td), .ref ast, .int (nI aa), .ref asn, .ref amd]))] ++ va_pl (R ++ L) f) := hD
    subst hw
    rw [hkr i (by omega)]
    refine lv_istore (lv' := [(5, .int (bI (kq.testBit i))), (0, .ref z), (1, .int (nI r)), (2, .ref c9), (3, .int (bI (anh (ne r) i))), (4, .int (nI i))]) hx hb dX5_holds_18 hl (by decide) rfl (fun ls hl => ?_)
    refine lv_iload_n hx hb dX5_holds_20 rfl (lv_at hl 4 rfl) ?_
    refine lv_aload_n hx hb dX5_holds_21 rfl (lv_at hl 1 rfl) ?_
    refine va_get (D := G.1) (ci := 5) (v := .ref ar) (C := RX5) (T := TX5) (N := 9) hx hb hts hin5 hown hK hP 0 rfl rfl 1 (by decide) (hts (.fieldLink RX5 14 "FaultShrinkerLaw$Sim" "rules" "[[I") (List.mem_of_getElem? (i := 1) rfl)) (fun _ h9 => h9) rfl dX5_holds_22 ?_
    refine lv_iload_n hx hb dX5_holds_25 rfl (lv_at hl 2 rfl) ?_
    refine p_aald hx hb hQ hP (hrR.l R) (j := r) (v := R.getD r 0) rfl (by omega) (by omega) rfl dX5_holds_26 ?_
    refine lv_iload hx hb dX5_holds_27 (lv_at hl 5 rfl) ?_
    refine p_iald hx hb hK hP (hrr.r L) (j := i) (v := rwv (ne r) (sp r) i) rfl (by omega) (by omega) (rfl) dX5_holds_29 ?_
    refine lv_iconst (v := nI 1) hx hb dX5_holds_30 (by decide +kernel) ?_
    refine lv_icmp_ne (tgt := 38) hx hb dX5_holds_31 (by decide) (fun c_31 => ?_) (fun c_31 => ?_)
    · have c_31 : (ne r).testBit i = false := by cases h9 : (ne r).testBit i <;> first | rfl | exact absurd (rwv_1.mpr h9) c_31
      refine lv_iconst (v := nI 0) hx hb dX5_holds_38 (by decide +kernel) ?_
      refine lv_ior hx hb dX5_holds_39 ?_
      refine cs_i (y := bI (anh (ne r) (i + 1))) (by rw [anh_s, c_31]; exact bI_or _ false) ?_
      refine lv_istore_n (lv' := [(3, .int (bI (anh (ne r) (i + 1)))), (5, .int (bI (kq.testBit i))), (0, .ref z), (1, .int (nI r)), (2, .ref c9), (4, .int (nI i))]) hx hb dX5_holds_40 rfl hl (by decide) rfl (fun ls hl => ?_)
      refine lv_aload_n hx hb dX5_holds_41 rfl (lv_at hl 2 rfl) ?_
      refine va_get (D := G.1) (ci := 5) (v := .ref ar) (C := RX5) (T := TX5) (N := 9) hx hb hts hin5 hown hK hP 0 rfl rfl 1 (by decide) (hts (.fieldLink RX5 14 "FaultShrinkerLaw$Sim" "rules" "[[I") (List.mem_of_getElem? (i := 1) rfl)) (fun _ h9 => h9) rfl dX5_holds_42 ?_
      refine lv_iload_n hx hb dX5_holds_45 rfl (lv_at hl 3 rfl) ?_
      refine p_aald hx hb hQ hP (hrR.l R) (j := r) (v := R.getD r 0) rfl (by omega) (by omega) rfl dX5_holds_46 ?_
      refine lv_iload hx hb dX5_holds_47 (lv_at hl 5 rfl) ?_
      refine p_iald hx hb hK hP (hrr.r L) (j := i) (v := rwv (ne r) (sp r) i) rfl (by omega) (by omega) (rfl) dX5_holds_49 ?_
      refine lv_iconst (v := nI 1) hx hb dX5_holds_50 (by decide +kernel) ?_
      refine lv_icmp_ne (tgt := 59) hx hb dX5_holds_51 (by decide) (fun c_51 => ?_) (fun c_51 => ?_)
      · have c_51 : ¬ (ne r).testBit i = true := fun h9 => c_51 (rwv_1.mpr h9)
        refine lv_aload_n hx hb dX5_holds_59 rfl (lv_at hl 2 rfl) ?_
        refine va_get (D := G.1) (ci := 5) (v := .ref ar) (C := RX5) (T := TX5) (N := 9) hx hb hts hin5 hown hK hP 0 rfl rfl 1 (by decide) (hts (.fieldLink RX5 14 "FaultShrinkerLaw$Sim" "rules" "[[I") (List.mem_of_getElem? (i := 1) rfl)) (fun _ h9 => h9) rfl dX5_holds_60 ?_
        refine lv_iload_n hx hb dX5_holds_63 rfl (lv_at hl 3 rfl) ?_
        refine p_aald hx hb hQ hP (hrR.l R) (j := r) (v := R.getD r 0) rfl (by omega) (by omega) rfl dX5_holds_64 ?_
        refine lv_iload hx hb dX5_holds_65 (lv_at hl 5 rfl) ?_
        refine p_iald hx hb hK hP (hrr.r L) (j := i) (v := rwv (ne r) (sp r) i) rfl (by omega) (by omega) (rfl) dX5_holds_67 ?_
        refine lv_iconst (v := (-1)) hx hb dX5_holds_68 (by decide +kernel) ?_
        refine lv_icmp_ne (tgt := 79) hx hb dX5_holds_69 (by decide) (fun c_69 => ?_) (fun c_69 => ?_)
        · have c_69 : ¬ (sp r).testBit i = true := fun h9 => c_69 ((rwv_m hdr).mpr h9)
          refine lv_iinc (v := nI (i + 1)) (lv' := [(4, .int (nI (i + 1))), (3, .int (bI (anh (ne r) (i + 1)))), (5, .int (bI (kq.testBit i))), (0, .ref z), (1, .int (nI r)), (2, .ref c9)]) hx hb dX5_holds_79 hl (k := 5) rfl ((nI_succ i).symm) (by decide) rfl (fun ls hl => ?_)
          refine lv_goto (tgt := 5) hx hb dX5_holds_82 (by decide) ?_
          exact ih (i + 1) (by show 16 - (i + 1) < 16 - i; omega) (⟨by omega, okh_s hok (fun z9 => by first | exact c_51 z9.1 | (rw [c_56] at z9; exact absurd z9.2 (by decide))) (fun z9 => by first | exact c_69 z9.1 | (rw [c_74] at z9; exact absurd z9.2 (by decide)))⟩) _ _ _ hP hD hS (lv_sub (l' := [(0, .ref z), (1, .int (nI r)), (2, .ref c9), (3, .int (bI (anh (ne r) (i + 1)))), (4, .int (nI (i + 1)))]) hl [3, 4, 5, 1, 0] rfl)
        · have c_69 := (rwv_m hdr).mp c_69
          refine lv_iload hx hb dX5_holds_72 (lv_at hl 1 rfl) ?_
          refine lv_if_eq (tgt := 79) hx hb dX5_holds_74 (by decide) (fun c_74 => ?_) (fun c_74 => ?_)
          · have c_74 := bI_0 c_74
            refine lv_iinc (v := nI (i + 1)) (lv' := [(4, .int (nI (i + 1))), (3, .int (bI (anh (ne r) (i + 1)))), (5, .int (bI (kq.testBit i))), (0, .ref z), (1, .int (nI r)), (2, .ref c9)]) hx hb dX5_holds_79 hl (k := 5) rfl ((nI_succ i).symm) (by decide) rfl (fun ls hl => ?_)
            refine lv_goto (tgt := 5) hx hb dX5_holds_82 (by decide) ?_
            exact ih (i + 1) (by show 16 - (i + 1) < 16 - i; omega) (⟨by omega, okh_s hok (fun z9 => by first | exact c_51 z9.1 | (rw [c_56] at z9; exact absurd z9.2 (by decide))) (fun z9 => by first | exact c_69 z9.1 | (rw [c_74] at z9; exact absurd z9.2 (by decide)))⟩) _ _ _ hP hD hS (lv_sub (l' := [(0, .ref z), (1, .int (nI r)), (2, .ref c9), (3, .int (bI (anh (ne r) (i + 1)))), (4, .int (nI (i + 1)))]) hl [3, 4, 5, 1, 0] rfl)
          · have c_74 := bI_n0 c_74
            refine lv_iconst (v := nI 0) hx hb dX5_holds_77 (by decide +kernel) ?_
            refine W.widen (k := 0) (n := 0) (by first | omega | (dsimp only; omega)) (by first | omega | (dsimp only; omega)) ?_
            exact cs_zret hx hb hr hlocks hK hP hD hS (v := nI 0) (rfl) () (by first | (rw [hld_lack c_51 c_56]; rfl) | (rw [hld_spare c_69 c_74]; rfl)) (rfl) dX5_holds_78
      · have c_51 := rwv_1.mp c_51
        refine lv_iload hx hb dX5_holds_54 (lv_at hl 1 rfl) ?_
        refine lv_if_eq (tgt := 77) hx hb dX5_holds_56 (by decide) (fun c_56 => ?_) (fun c_56 => ?_)
        · have c_56 := bI_0 c_56
          refine lv_iconst (v := nI 0) hx hb dX5_holds_77 (by decide +kernel) ?_
          refine W.widen (k := 0) (n := 0) (by first | omega | (dsimp only; omega)) (by first | omega | (dsimp only; omega)) ?_
          exact cs_zret hx hb hr hlocks hK hP hD hS (v := nI 0) (rfl) () (by first | (rw [hld_lack c_51 c_56]; rfl) | (rw [hld_spare c_69 c_74]; rfl)) (rfl) dX5_holds_78
        · have c_56 := bI_n0 c_56
          refine lv_aload_n hx hb dX5_holds_59 rfl (lv_at hl 2 rfl) ?_
          refine va_get (D := G.1) (ci := 5) (v := .ref ar) (C := RX5) (T := TX5) (N := 9) hx hb hts hin5 hown hK hP 0 rfl rfl 1 (by decide) (hts (.fieldLink RX5 14 "FaultShrinkerLaw$Sim" "rules" "[[I") (List.mem_of_getElem? (i := 1) rfl)) (fun _ h9 => h9) rfl dX5_holds_60 ?_
          refine lv_iload_n hx hb dX5_holds_63 rfl (lv_at hl 3 rfl) ?_
          refine p_aald hx hb hQ hP (hrR.l R) (j := r) (v := R.getD r 0) rfl (by omega) (by omega) rfl dX5_holds_64 ?_
          refine lv_iload hx hb dX5_holds_65 (lv_at hl 5 rfl) ?_
          refine p_iald hx hb hK hP (hrr.r L) (j := i) (v := rwv (ne r) (sp r) i) rfl (by omega) (by omega) (rfl) dX5_holds_67 ?_
          refine lv_iconst (v := (-1)) hx hb dX5_holds_68 (by decide +kernel) ?_
          refine lv_icmp_ne (tgt := 79) hx hb dX5_holds_69 (by decide) (fun c_69 => ?_) (fun c_69 => ?_)
          · have c_69 : ¬ (sp r).testBit i = true := fun h9 => c_69 ((rwv_m hdr).mpr h9)
            refine lv_iinc (v := nI (i + 1)) (lv' := [(4, .int (nI (i + 1))), (3, .int (bI (anh (ne r) (i + 1)))), (5, .int (bI (kq.testBit i))), (0, .ref z), (1, .int (nI r)), (2, .ref c9)]) hx hb dX5_holds_79 hl (k := 5) rfl ((nI_succ i).symm) (by decide) rfl (fun ls hl => ?_)
            refine lv_goto (tgt := 5) hx hb dX5_holds_82 (by decide) ?_
            exact ih (i + 1) (by show 16 - (i + 1) < 16 - i; omega) (⟨by omega, okh_s hok (fun z9 => by first | exact c_51 z9.1 | (rw [c_56] at z9; exact absurd z9.2 (by decide))) (fun z9 => by first | exact c_69 z9.1 | (rw [c_74] at z9; exact absurd z9.2 (by decide)))⟩) _ _ _ hP hD hS (lv_sub (l' := [(0, .ref z), (1, .int (nI r)), (2, .ref c9), (3, .int (bI (anh (ne r) (i + 1)))), (4, .int (nI (i + 1)))]) hl [3, 4, 5, 1, 0] rfl)
          · have c_69 := (rwv_m hdr).mp c_69
            refine lv_iload hx hb dX5_holds_72 (lv_at hl 1 rfl) ?_
            refine lv_if_eq (tgt := 79) hx hb dX5_holds_74 (by decide) (fun c_74 => ?_) (fun c_74 => ?_)
            · have c_74 := bI_0 c_74
              refine lv_iinc (v := nI (i + 1)) (lv' := [(4, .int (nI (i + 1))), (3, .int (bI (anh (ne r) (i + 1)))), (5, .int (bI (kq.testBit i))), (0, .ref z), (1, .int (nI r)), (2, .ref c9)]) hx hb dX5_holds_79 hl (k := 5) rfl ((nI_succ i).symm) (by decide) rfl (fun ls hl => ?_)
              refine lv_goto (tgt := 5) hx hb dX5_holds_82 (by decide) ?_
              exact ih (i + 1) (by show 16 - (i + 1) < 16 - i; omega) (⟨by omega, okh_s hok (fun z9 => by first | exact c_51 z9.1 | (rw [c_56] at z9; exact absurd z9.2 (by decide))) (fun z9 => by first | exact c_69 z9.1 | (rw [c_74] at z9; exact absurd z9.2 (by decide)))⟩) _ _ _ hP hD hS (lv_sub (l' := [(0, .ref z), (1, .int (nI r)), (2, .ref c9), (3, .int (bI (anh (ne r) (i + 1)))), (4, .int (nI (i + 1)))]) hl [3, 4, 5, 1, 0] rfl)
            · have c_74 := bI_n0 c_74
              refine lv_iconst (v := nI 0) hx hb dX5_holds_77 (by decide +kernel) ?_
              refine W.widen (k := 0) (n := 0) (by first | omega | (dsimp only; omega)) (by first | omega | (dsimp only; omega)) ?_
              exact cs_zret hx hb hr hlocks hK hP hD hS (v := nI 0) (rfl) () (by first | (rw [hld_lack c_51 c_56]; rfl) | (rw [hld_spare c_69 c_74]; rfl)) (rfl) dX5_holds_78
    · have c_31 := rwv_1.mp c_31
      refine lv_iconst (v := nI 1) hx hb dX5_holds_34 (by decide +kernel) ?_
      refine lv_goto (tgt := 39) hx hb dX5_holds_35 (by decide) ?_
      refine lv_ior hx hb dX5_holds_39 ?_
      refine cs_i (y := bI (anh (ne r) (i + 1))) (by rw [anh_s, c_31]; exact bI_or _ true) ?_
      refine lv_istore_n (lv' := [(3, .int (bI (anh (ne r) (i + 1)))), (5, .int (bI (kq.testBit i))), (0, .ref z), (1, .int (nI r)), (2, .ref c9), (4, .int (nI i))]) hx hb dX5_holds_40 rfl hl (by decide) rfl (fun ls hl => ?_)
      refine lv_aload_n hx hb dX5_holds_41 rfl (lv_at hl 2 rfl) ?_
      refine va_get (D := G.1) (ci := 5) (v := .ref ar) (C := RX5) (T := TX5) (N := 9) hx hb hts hin5 hown hK hP 0 rfl rfl 1 (by decide) (hts (.fieldLink RX5 14 "FaultShrinkerLaw$Sim" "rules" "[[I") (List.mem_of_getElem? (i := 1) rfl)) (fun _ h9 => h9) rfl dX5_holds_42 ?_
      refine lv_iload_n hx hb dX5_holds_45 rfl (lv_at hl 3 rfl) ?_
      refine p_aald hx hb hQ hP (hrR.l R) (j := r) (v := R.getD r 0) rfl (by omega) (by omega) rfl dX5_holds_46 ?_
      refine lv_iload hx hb dX5_holds_47 (lv_at hl 5 rfl) ?_
      refine p_iald hx hb hK hP (hrr.r L) (j := i) (v := rwv (ne r) (sp r) i) rfl (by omega) (by omega) (rfl) dX5_holds_49 ?_
      refine lv_iconst (v := nI 1) hx hb dX5_holds_50 (by decide +kernel) ?_
      refine lv_icmp_ne (tgt := 59) hx hb dX5_holds_51 (by decide) (fun c_51 => ?_) (fun c_51 => ?_)
      · have c_51 : ¬ (ne r).testBit i = true := fun h9 => c_51 (rwv_1.mpr h9)
        refine lv_aload_n hx hb dX5_holds_59 rfl (lv_at hl 2 rfl) ?_
        refine va_get (D := G.1) (ci := 5) (v := .ref ar) (C := RX5) (T := TX5) (N := 9) hx hb hts hin5 hown hK hP 0 rfl rfl 1 (by decide) (hts (.fieldLink RX5 14 "FaultShrinkerLaw$Sim" "rules" "[[I") (List.mem_of_getElem? (i := 1) rfl)) (fun _ h9 => h9) rfl dX5_holds_60 ?_
        refine lv_iload_n hx hb dX5_holds_63 rfl (lv_at hl 3 rfl) ?_
        refine p_aald hx hb hQ hP (hrR.l R) (j := r) (v := R.getD r 0) rfl (by omega) (by omega) rfl dX5_holds_64 ?_
        refine lv_iload hx hb dX5_holds_65 (lv_at hl 5 rfl) ?_
        refine p_iald hx hb hK hP (hrr.r L) (j := i) (v := rwv (ne r) (sp r) i) rfl (by omega) (by omega) (rfl) dX5_holds_67 ?_
        refine lv_iconst (v := (-1)) hx hb dX5_holds_68 (by decide +kernel) ?_
        refine lv_icmp_ne (tgt := 79) hx hb dX5_holds_69 (by decide) (fun c_69 => ?_) (fun c_69 => ?_)
        · have c_69 : ¬ (sp r).testBit i = true := fun h9 => c_69 ((rwv_m hdr).mpr h9)
          refine lv_iinc (v := nI (i + 1)) (lv' := [(4, .int (nI (i + 1))), (3, .int (bI (anh (ne r) (i + 1)))), (5, .int (bI (kq.testBit i))), (0, .ref z), (1, .int (nI r)), (2, .ref c9)]) hx hb dX5_holds_79 hl (k := 5) rfl ((nI_succ i).symm) (by decide) rfl (fun ls hl => ?_)
          refine lv_goto (tgt := 5) hx hb dX5_holds_82 (by decide) ?_
          exact ih (i + 1) (by show 16 - (i + 1) < 16 - i; omega) (⟨by omega, okh_s hok (fun z9 => by first | exact c_51 z9.1 | (rw [c_56] at z9; exact absurd z9.2 (by decide))) (fun z9 => by first | exact c_69 z9.1 | (rw [c_74] at z9; exact absurd z9.2 (by decide)))⟩) _ _ _ hP hD hS (lv_sub (l' := [(0, .ref z), (1, .int (nI r)), (2, .ref c9), (3, .int (bI (anh (ne r) (i + 1)))), (4, .int (nI (i + 1)))]) hl [3, 4, 5, 1, 0] rfl)
        · have c_69 := (rwv_m hdr).mp c_69
          refine lv_iload hx hb dX5_holds_72 (lv_at hl 1 rfl) ?_
          refine lv_if_eq (tgt := 79) hx hb dX5_holds_74 (by decide) (fun c_74 => ?_) (fun c_74 => ?_)
          · have c_74 := bI_0 c_74
            refine lv_iinc (v := nI (i + 1)) (lv' := [(4, .int (nI (i + 1))), (3, .int (bI (anh (ne r) (i + 1)))), (5, .int (bI (kq.testBit i))), (0, .ref z), (1, .int (nI r)), (2, .ref c9)]) hx hb dX5_holds_79 hl (k := 5) rfl ((nI_succ i).symm) (by decide) rfl (fun ls hl => ?_)
            refine lv_goto (tgt := 5) hx hb dX5_holds_82 (by decide) ?_
            exact ih (i + 1) (by show 16 - (i + 1) < 16 - i; omega) (⟨by omega, okh_s hok (fun z9 => by first | exact c_51 z9.1 | (rw [c_56] at z9; exact absurd z9.2 (by decide))) (fun z9 => by first | exact c_69 z9.1 | (rw [c_74] at z9; exact absurd z9.2 (by decide)))⟩) _ _ _ hP hD hS (lv_sub (l' := [(0, .ref z), (1, .int (nI r)), (2, .ref c9), (3, .int (bI (anh (ne r) (i + 1)))), (4, .int (nI (i + 1)))]) hl [3, 4, 5, 1, 0] rfl)
          · have c_74 := bI_n0 c_74
            refine lv_iconst (v := nI 0) hx hb dX5_holds_77 (by decide +kernel) ?_
            refine W.widen (k := 0) (n := 0) (by first | omega | (dsimp only; omega)) (by first | omega | (dsimp only; omega)) ?_
            exact cs_zret hx hb hr hlocks hK hP hD hS (v := nI 0) (rfl) () (by first | (rw [hld_lack c_51 c_56]; rfl) | (rw [hld_spare c_69 c_74]; rfl)) (rfl) dX5_holds_78
      · have c_51 := rwv_1.mp c_51
        refine lv_iload hx hb dX5_holds_54 (lv_at hl 1 rfl) ?_
        refine lv_if_eq (tgt := 77) hx hb dX5_holds_56 (by decide) (fun c_56 => ?_) (fun c_56 => ?_)
        · have c_56 := bI_0 c_56
          refine lv_iconst (v := nI 0) hx hb dX5_holds_77 (by decide +kernel) ?_
          refine W.widen (k := 0) (n := 0) (by first | omega | (dsimp only; omega)) (by first | omega | (dsimp only; omega)) ?_
          exact cs_zret hx hb hr hlocks hK hP hD hS (v := nI 0) (rfl) () (by first | (rw [hld_lack c_51 c_56]; rfl) | (rw [hld_spare c_69 c_74]; rfl)) (rfl) dX5_holds_78
        · have c_56 := bI_n0 c_56
          refine lv_aload_n hx hb dX5_holds_59 rfl (lv_at hl 2 rfl) ?_
          refine va_get (D := G.1) (ci := 5) (v := .ref ar) (C := RX5) (T := TX5) (N := 9) hx hb hts hin5 hown hK hP 0 rfl rfl 1 (by decide) (hts (.fieldLink RX5 14 "FaultShrinkerLaw$Sim" "rules" "[[I") (List.mem_of_getElem? (i := 1) rfl)) (fun _ h9 => h9) rfl dX5_holds_60 ?_
          refine lv_iload_n hx hb dX5_holds_63 rfl (lv_at hl 3 rfl) ?_
          refine p_aald hx hb hQ hP (hrR.l R) (j := r) (v := R.getD r 0) rfl (by omega) (by omega) rfl dX5_holds_64 ?_
          refine lv_iload hx hb dX5_holds_65 (lv_at hl 5 rfl) ?_
          refine p_iald hx hb hK hP (hrr.r L) (j := i) (v := rwv (ne r) (sp r) i) rfl (by omega) (by omega) (rfl) dX5_holds_67 ?_
          refine lv_iconst (v := (-1)) hx hb dX5_holds_68 (by decide +kernel) ?_
          refine lv_icmp_ne (tgt := 79) hx hb dX5_holds_69 (by decide) (fun c_69 => ?_) (fun c_69 => ?_)
          · have c_69 : ¬ (sp r).testBit i = true := fun h9 => c_69 ((rwv_m hdr).mpr h9)
            refine lv_iinc (v := nI (i + 1)) (lv' := [(4, .int (nI (i + 1))), (3, .int (bI (anh (ne r) (i + 1)))), (5, .int (bI (kq.testBit i))), (0, .ref z), (1, .int (nI r)), (2, .ref c9)]) hx hb dX5_holds_79 hl (k := 5) rfl ((nI_succ i).symm) (by decide) rfl (fun ls hl => ?_)
            refine lv_goto (tgt := 5) hx hb dX5_holds_82 (by decide) ?_
            exact ih (i + 1) (by show 16 - (i + 1) < 16 - i; omega) (⟨by omega, okh_s hok (fun z9 => by first | exact c_51 z9.1 | (rw [c_56] at z9; exact absurd z9.2 (by decide))) (fun z9 => by first | exact c_69 z9.1 | (rw [c_74] at z9; exact absurd z9.2 (by decide)))⟩) _ _ _ hP hD hS (lv_sub (l' := [(0, .ref z), (1, .int (nI r)), (2, .ref c9), (3, .int (bI (anh (ne r) (i + 1)))), (4, .int (nI (i + 1)))]) hl [3, 4, 5, 1, 0] rfl)
          · have c_69 := (rwv_m hdr).mp c_69
            refine lv_iload hx hb dX5_holds_72 (lv_at hl 1 rfl) ?_
            refine lv_if_eq (tgt := 79) hx hb dX5_holds_74 (by decide) (fun c_74 => ?_) (fun c_74 => ?_)
            · have c_74 := bI_0 c_74
              refine lv_iinc (v := nI (i + 1)) (lv' := [(4, .int (nI (i + 1))), (3, .int (bI (anh (ne r) (i + 1)))), (5, .int (bI (kq.testBit i))), (0, .ref z), (1, .int (nI r)), (2, .ref c9)]) hx hb dX5_holds_79 hl (k := 5) rfl ((nI_succ i).symm) (by decide) rfl (fun ls hl => ?_)
              refine lv_goto (tgt := 5) hx hb dX5_holds_82 (by decide) ?_
              exact ih (i + 1) (by show 16 - (i + 1) < 16 - i; omega) (⟨by omega, okh_s hok (fun z9 => by first | exact c_51 z9.1 | (rw [c_56] at z9; exact absurd z9.2 (by decide))) (fun z9 => by first | exact c_69 z9.1 | (rw [c_74] at z9; exact absurd z9.2 (by decide)))⟩) _ _ _ hP hD hS (lv_sub (l' := [(0, .ref z), (1, .int (nI r)), (2, .ref c9), (3, .int (bI (anh (ne r) (i + 1)))), (4, .int (nI (i + 1)))]) hl [3, 4, 5, 1, 0] rfl)
            · have c_74 := bI_n0 c_74
              refine lv_iconst (v := nI 0) hx hb dX5_holds_77 (by decide +kernel) ?_
              refine W.widen (k := 0) (n := 0) (by first | omega | (dsimp only; omega)) (by first | omega | (dsimp only; omega)) ?_
              exact cs_zret hx hb hr hlocks hK hP hD hS (v := nI 0) (rfl) () (by first | (rw [hld_lack c_51 c_56]; rfl) | (rw [hld_spare c_69 c_74]; rfl)) (rfl) dX5_holds_78

set_option maxRecDepth 100000 in
theorem in5_X5_spoils : ∀ w ∈ wsX50, w ∈ wsX5_spoils := by decide +kernel
set_option maxHeartbeats 4000000 in
set_option maxRecDepth 100000 in
theorem c_X5_spoils (l : Launch) (G : cG) (gr : ClassId) (sa : Nat → Nat) (R L : List Nat) (f : Nat → va_E) (z ak ar al alk ast asn amd td aa : Nat) (n rc : Nat) (k ne sp : Nat → Nat) (hn : n ≤ 24) (hk : ∀ j, j < n → k j < 16) (hrc : rc ≤ 6) (hne : ∀ j, j < 6 → ne j < 65536) (hsp : ∀ j, j < 6 → sp j < 65536) (hdj : ∀ j, j < 6 → ne j &&& sp j = 0) (hsim : simK G gr R L f ak ar n k rc ne sp) (b d : Nat) (hd : d < 2 ^ n) (hib : dI G L f b d) : pMI l G gr sa yX5_spoils wsX5_spoils ({ frames := 2, cells := 1, slots := cnt d 24, locals := 50 }) [.ref z, .ref b] ([(z, .inr (5, [.ref ak, .ref ar, .ref al, .ref alk, .int (nI td), .ref ast, .int (nI aa), .ref asn, .ref amd]))] ++ va_pl (R ++ L) f) (fun (r_ : Int32) (u : List Nat × (Nat → va_E)) => pX R L f u.1 u.2 ∧ r_ = bI (spl k ne sp n rc d)) (fun (u : List Nat × (Nat → va_E)) => ([(z, .inr (5, [.ref ak, .ref ar, .ref al, .ref alk, .int (nI td), .ref ast, .int (nI aa), .ref asn, .ref amd]))] ++ va_pl (R ++ u.1) u.2)) := by
  refine ps_I (own := RX5) (cc := cX5_spoils) (maxL := 4) (ret := (some .boolean)) (by decide) rfl rfl (Nat.le_of_ble_eq_true rfl) ?_
  intro p e s m below meth c A hZ hN hQ hx hb hr hml hts hown hlocks hinit hA hK hP hD hS ls hl
  have hin5 := in5_X5_spoils
  have hl : lv_has ls 4 [(0, .ref z), (1, .ref b)] := hl
  have hc1 := cnt_le d 24
  have hsim0 := hsim
  obtain ⟨hkI, hRl, hrR, hrI⟩ := hsim0
  refine lv_aload_n hx hb dX5_spoils_0 rfl (lv_at hl 0 rfl) ?_
  refine lv_aload_n hx hb dX5_spoils_1 rfl (lv_at hl 1 rfl) ?_
  refine p_vr (X := [(z, .inr (5, [.ref ak, .ref ar, .ref al, .ref alk, .int (nI td), .ref ast, .int (nI aa), .ref asn, .ref amd]))]) (cx := [(z, .inr (5, [.ref ak, .ref ar, .ref al, .ref alk, .int (nI td), .ref ast, .int (nI aa), .ref asn, .ref amd]))]) (As := [.ref b]) (rest := []) (wr := ([] : va_W)) ⟨hx, hb, hml, hown, hts⟩ hK hQ hP hD hS hA hZ hN (c_X5_kindsOf l G gr sa R L f z ak ar al alk ast asn amd td aa n rc k ne sp (by first | assumption | omega) (by first | assumption | omega) (by first | assumption | omega) (by first | assumption | omega) (by first | assumption | omega) (by first | assumption | omega) (by first | assumption | omega) b d (by first | assumption | omega) (by first | assumption | omega)) (cwV 1 hts gX5_spoils_X5_kindsOf rfl rfl rfl (by decide +kernel) ⟨Nat.le_of_ble_eq_true rfl, Nat.le_of_ble_eq_true rfl⟩) [0] [] ⟨rfl, rfl, by decide, by decide, by decide⟩ 0 5 rfl rfl rfl hl.1 rfl (Nat.le_of_ble_eq_true rfl) ⟨by first | omega | (dsimp only; omega), by first | omega | (dsimp only; omega)⟩ dX5_spoils_2 (fun c1 u_1 H locs hw hP hD hS => ?_)
  obtain ⟨L_1, f_1⟩ := u_1
  try dsimp only at hw
  have hP : va_P G.1 vwCl ([(z, .inr (5, [.ref ak, .ref ar, .ref al, .ref alk, .int (nI td), .ref ast, .int (nI aa), .ref asn, .ref amd]))] ++ va_pl (R ++ L_1) f_1) H := hP
  have hD : va_D A ([(z, .inr (5, [.ref ak, .ref ar, .ref al, .ref alk, .int (nI td), .ref ast, .int (nI aa), .ref asn, .ref amd]))] ++ va_pl (R ++ L_1) f_1) := hD
  obtain ⟨hx_1, hr_1⟩ := hw
  have hsim := hsim.mono hx_1
  have hrR := hrR.mono hx_1
  have hib := hib.mono hx_1
  refine lv_astore_n (lv' := [(2, .ref c1), (0, .ref z), (1, .ref b)]) hx hb dX5_spoils_5 rfl hl (by decide) rfl (fun ls hl => ?_)
  refine lv_iconst (v := nI 0) hx hb dX5_spoils_6 (by decide +kernel) ?_
  refine lv_istore_n (lv' := [(3, .int (nI 0)), (2, .ref c1), (0, .ref z), (1, .ref b)]) hx hb dX5_spoils_7 rfl hl (by decide) rfl (fun ls hl => ?_)
  refine cs_loop (G := G) (nL := 4) (σ := Nat) (fun (i : Nat) => rc - i) (fun (i : Nat) => i ≤ rc ∧ ∀ j, j < i → hld (ne j) (sp j) (kds k d n) = false) (fun (i : Nat) => ([(z, .inr (5, [.ref ak, .ref ar, .ref al, .ref alk, .int (nI td), .ref ast, .int (nI aa), .ref asn, .ref amd]))] ++ va_pl (R ++ L_1) f_1)) (fun (i : Nat) => [(0, .ref z), (1, .ref b), (2, .ref c1), (3, .int (nI i))]) ?_ (0) (⟨Nat.zero_le _, fun j h => absurd h (Nat.not_lt_zero j)⟩) hP hD hS (lv_sub (l' := [(0, .ref z), (1, .ref b), (2, .ref c1), (3, .int (nI 0))]) hl [2, 3, 1, 0] rfl)
  rintro i hinv ih H locs ls hP hD hS hl
  have hP : va_P G.1 vwCl ([(z, .inr (5, [.ref ak, .ref ar, .ref al, .ref alk, .int (nI td), .ref ast, .int (nI aa), .ref asn, .ref amd]))] ++ va_pl (R ++ L_1) f_1) _ := hP
  have hD : va_D A ([(z, .inr (5, [.ref ak, .ref ar, .ref al, .ref alk, .int (nI td), .ref ast, .int (nI aa), .ref asn, .ref amd]))] ++ va_pl (R ++ L_1) f_1) := hD
  have hl : lv_has ls 4 [(0, .ref z), (1, .ref b), (2, .ref c1), (3, .int (nI i))] := hl
  have hinv : i ≤ rc ∧ ∀ j, j < i → hld (ne j) (sp j) (kds k d n) = false := hinv
  obtain ⟨hi, hf⟩ := hinv
  refine lv_iload_n hx hb dX5_spoils_8 rfl (lv_at hl 3 rfl) ?_
  refine lv_aload_n hx hb dX5_spoils_9 rfl (lv_at hl 0 rfl) ?_
  refine va_get (D := G.1) (ci := 5) (v := .ref ar) (C := RX5) (T := TX5) (N := 9) hx hb hts hin5 hown hK hP 0 rfl rfl 1 (by decide) (hts (.fieldLink RX5 14 "FaultShrinkerLaw$Sim" "rules" "[[I") (List.mem_of_getElem? (i := 1) rfl)) (fun _ h9 => h9) rfl dX5_spoils_10 ?_
  refine p_rlen hx hb hQ hP (hrR.l R) dX5_spoils_13 ?_
  refine lv_icmp_ge (tgt := 34) hx hb dX5_spoils_14 (by decide) (fun c_14 => ?_) (fun c_14 => ?_)
  · have c_14 := (nI_leI (by omega) (by omega)).mp c_14
    have e7 : i = rc := by omega
    rw [e7] at hf
    refine lv_iconst (v := nI 0) hx hb dX5_spoils_34 (by decide +kernel) ?_
    refine W.widen (k := 1) (n := cnt d 24) (by first | omega | (dsimp only; omega)) (by first | omega | (dsimp only; omega)) ?_
    exact cs_zret hx hb hr hlocks hK hP hD hS (v := nI 0) (rfl) (L_1, f_1) (⟨hx_1, by rw [spl_i hf]; rfl⟩) (rfl) dX5_spoils_35
  · have c_14 := mt (nI_leI (by omega) (by omega)).mpr c_14
    refine lv_aload_n hx hb dX5_spoils_17 rfl (lv_at hl 0 rfl) ?_
    refine lv_iload_n hx hb dX5_spoils_18 rfl (lv_at hl 3 rfl) ?_
    refine lv_aload_n hx hb dX5_spoils_19 rfl (lv_at hl 2 rfl) ?_
    refine p_vi (X := [(z, .inr (5, [.ref ak, .ref ar, .ref al, .ref alk, .int (nI td), .ref ast, .int (nI aa), .ref asn, .ref amd]))]) (cx := [(z, .inr (5, [.ref ak, .ref ar, .ref al, .ref alk, .int (nI td), .ref ast, .int (nI aa), .ref asn, .ref amd]))]) (As := [.int (nI i), .ref c1]) (rest := []) (wr := ([] : va_W)) ⟨hx, hb, hml, hown, hts⟩ hK hQ hP hD hS hA hZ hN (c_X5_holds l G gr sa R L_1 f_1 z ak ar al alk ast asn amd td aa n rc k ne sp (by first | assumption | omega) (by first | assumption | omega) (by first | assumption | omega) (by first | assumption | omega) (by first | assumption | omega) (by first | assumption | omega) (by first | assumption | omega) i (cnt d 24) (kds k d n) c1 (fun j => nI (k (plc d j))) (by first | assumption | omega) (by first | assumption | omega) (hr_1.l R) (kR_dish hn hd hk)) (cwV 2 hts gX5_spoils_X5_holds rfl rfl rfl (by decide +kernel) ⟨Nat.le_of_ble_eq_true rfl, Nat.le_of_ble_eq_true rfl⟩) [0] [] ⟨rfl, rfl, by decide, by decide, by decide⟩ 0 5 rfl rfl rfl hl.1 rfl (Nat.le_of_ble_eq_true rfl) ⟨by first | omega | (dsimp only; omega), by first | omega | (dsimp only; omega)⟩ dX5_spoils_20 (fun r u_2 H locs hw hP hD hS => ?_)
    try dsimp only at hw
    have hP : va_P G.1 vwCl ([(z, .inr (5, [.ref ak, .ref ar, .ref al, .ref alk, .int (nI td), .ref ast, .int (nI aa), .ref asn, .ref amd]))] ++ va_pl (R ++ L_1) f_1) H := hP
    have hD : va_D A ([(z, .inr (5, [.ref ak, .ref ar, .ref al, .ref alk, .int (nI td), .ref ast, .int (nI aa), .ref asn, .ref amd]))] ++ va_pl (R ++ L_1) f_1) := hD
    subst hw
    refine lv_if_eq (tgt := 28) hx hb dX5_spoils_23 (by decide) (fun c_23 => ?_) (fun c_23 => ?_)
    · have c_23 := bI_0 c_23
      refine lv_iinc (v := nI (i + 1)) (lv' := [(3, .int (nI (i + 1))), (0, .ref z), (1, .ref b), (2, .ref c1)]) hx hb dX5_spoils_28 hl (k := 3) rfl ((nI_succ i).symm) (by decide) rfl (fun ls hl => ?_)
      refine lv_goto (tgt := 8) hx hb dX5_spoils_31 (by decide) ?_
      exact ih (i + 1) (by show rc - (i + 1) < rc - i; omega) (⟨by omega, fun j hj => by rcases Nat.lt_or_ge j i with z9 | z9 <;> first | exact hf j z9 | (have e8 : j = i := (by omega); subst e8; exact c_23)⟩) _ _ _ hP hD hS (lv_sub (l' := [(0, .ref z), (1, .ref b), (2, .ref c1), (3, .int (nI (i + 1)))]) hl [1, 2, 3, 0] rfl)
    · have c_23 := bI_n0 c_23
      refine lv_iconst (v := nI 1) hx hb dX5_spoils_26 (by decide +kernel) ?_
      refine W.widen (k := 1) (n := cnt d 24) (by first | omega | (dsimp only; omega)) (by first | omega | (dsimp only; omega)) ?_
      exact cs_zret hx hb hr hlocks hK hP hD hS (v := nI 1) (rfl) (L_1, f_1) (⟨hx_1, by rw [spl_t (show i < rc by omega) c_23]; rfl⟩) (rfl) dX5_spoils_27

set_option maxRecDepth 100000 in
theorem in5_X5_taste : ∀ w ∈ wsX50, w ∈ wsX5_taste := by decide +kernel
set_option maxHeartbeats 4000000 in
set_option maxRecDepth 100000 in
theorem c_X5_taste (l : Launch) (G : cG) (gr : ClassId) (sa : Nat → Nat) (R L : List Nat) (f : Nat → va_E) (z ak ar al alk ast asn amd td aa : Nat) (n rc : Nat) (k ne sp : Nat → Nat) (hn : n ≤ 24) (hk : ∀ j, j < n → k j < 16) (hrc : rc ≤ 6) (hne : ∀ j, j < 6 → ne j < 65536) (hsp : ∀ j, j < 6 → sp j < 65536) (hdj : ∀ j, j < 6 → ne j &&& sp j = 0) (hsim : simK G gr R L f ak ar n k rc ne sp) (b d : Nat) (K : List Nat) (hd : d < 2 ^ n) (hib : dI G L f b d) (hKl : K.length < 2000) (hsK : sK G gr L f asn K) (hKd : ∀ j, j < K.length → K.getD j 0 < 2 ^ 24) : pMI l G gr sa yX5_taste wsX5_taste ({ frames := 3, cells := 1 + ((lk K d).length - K.length), slots := cnt d 24 + (tri (lk K d).length - tri K.length), locals := 73 }) [.ref z, .ref b] ([(z, .inr (5, [.ref ak, .ref ar, .ref al, .ref alk, .int (nI td), .ref ast, .int (nI aa), .ref asn, .ref amd]))] ++ va_pl (R ++ L) f) (fun (r_ : Int32) (u : (List Nat × (Nat → va_E)) × Nat) => pX R L f u.1.1 u.1.2 ∧ r_ = bI (spl k ne sp n rc d) ∧ sK G gr u.1.1 u.1.2 u.2 (lk K d)) (fun (u : (List Nat × (Nat → va_E)) × Nat) => ([(z, .inr (5, [.ref ak, .ref ar, .ref al, .ref alk, .int (nI td), .ref ast, .int (nI aa), .ref u.2, .ref amd]))] ++ va_pl (R ++ u.1.1) u.1.2)) := by
  refine ps_I (own := RX5) (cc := cX5_taste) (maxL := 7) (ret := (some .boolean)) (by decide) rfl rfl (Nat.le_of_ble_eq_true rfl) ?_
  intro p e s m below meth c A hZ hN hQ hx hb hr hml hts hown hlocks hinit hA hK hP hD hS ls hl
  have hin5 := in5_X5_taste
  have hl : lv_has ls 7 [(0, .ref z), (1, .ref b)] := hl
  have hc1 := cnt_le d 24
  have hd24 : d < 2 ^ 24 := Nat.lt_of_lt_of_le hd (Nat.pow_le_pow_right (by decide) hn)
  have hsK0 := hsK
  obtain ⟨rrK, hsR, hsI⟩ := hsK0
  refine lv_iconst (v := nI 0) hx hb dX5_taste_0 (by decide +kernel) ?_
  refine lv_istore_n (lv' := [(2, .int (nI 0)), (0, .ref z), (1, .ref b)]) hx hb dX5_taste_1 rfl hl (by decide) rfl (fun ls hl => ?_)
  have e8 : nI 0 = bI (knn K d 0) := rfl
  have hl : lv_has ls 7 [(2, .int (bI (knn K d 0))), (0, .ref z), (1, .ref b)] := by rw [← e8]; exact hl
  refine lv_aload_n hx hb dX5_taste_2 rfl (lv_at hl 1 rfl) ?_
  refine va_get (D := G.1) (ci := 5) (v := .ref asn) (C := RX5) (T := TX5) (N := 9) hx hb hts hin5 hown hK hP 0 rfl rfl 7 (by decide) (hts (.fieldLink RX5 27 "FaultShrinkerLaw$Sim" "seen" "[[I") (List.mem_of_getElem? (i := 1) rfl)) (fun _ h9 => h9) rfl dX5_taste_3 ?_
  refine lv_astore_n (lv' := [(3, .ref asn), (2, .int (bI (knn K d 0))), (0, .ref z), (1, .ref b)]) hx hb dX5_taste_6 rfl hl (by decide) rfl (fun ls hl => ?_)
  refine lv_aload_n hx hb dX5_taste_7 rfl (lv_at hl 0 rfl) ?_
  refine p_rlen hx hb hQ hP (hsR.l R) dX5_taste_8 ?_
  refine lv_istore (lv' := [(4, .int (nI K.length)), (3, .ref asn), (2, .int (bI (knn K d 0))), (0, .ref z), (1, .ref b)]) hx hb dX5_taste_9 hl (by decide) rfl (fun ls hl => ?_)
  refine lv_iconst (v := nI 0) hx hb dX5_taste_11 (by decide +kernel) ?_
  refine lv_istore (lv' := [(5, .int (nI 0)), (4, .int (nI K.length)), (3, .ref asn), (2, .int (bI (knn K d 0))), (0, .ref z), (1, .ref b)]) hx hb dX5_taste_12 hl (by decide) rfl (fun ls hl => ?_)
  refine cs_loop (G := G) (nL := 7) (σ := Nat) (fun (i : Nat) => K.length - i) (fun (i : Nat) => i ≤ K.length) (fun (i : Nat) => ([(z, .inr (5, [.ref ak, .ref ar, .ref al, .ref alk, .int (nI td), .ref ast, .int (nI aa), .ref asn, .ref amd]))] ++ va_pl (R ++ L) f)) (fun (i : Nat) => [(0, .ref z), (1, .ref b), (2, .int (bI (knn K d i))), (3, .ref asn), (4, .int (nI K.length)), (5, .int (nI i))]) ?_ (0) (by show 0 ≤ K.length; omega) hP hD hS (lv_sub (l' := [(0, .ref z), (1, .ref b), (2, .int (bI (knn K d 0))), (3, .ref asn), (4, .int (nI K.length)), (5, .int (nI 0))]) hl [4, 5, 3, 2, 1, 0] rfl)
  rintro i hinv ih H locs ls hP hD hS hl
  have hP : va_P G.1 vwCl ([(z, .inr (5, [.ref ak, .ref ar, .ref al, .ref alk, .int (nI td), .ref ast, .int (nI aa), .ref asn, .ref amd]))] ++ va_pl (R ++ L) f) _ := hP
  have hD : va_D A ([(z, .inr (5, [.ref ak, .ref ar, .ref al, .ref alk, .int (nI td), .ref ast, .int (nI aa), .ref asn, .ref amd]))] ++ va_pl (R ++ L) f) := hD
  have hl : lv_has ls 7 [(0, .ref z), (1, .ref b), (2, .int (bI (knn K d i))), (3, .ref asn), (4, .int (nI K.length)), (5, .int (nI i))] := hl
  have hinv : i ≤ K.length := hinv
  refine lv_iload hx hb dX5_taste_14 (lv_at hl 5 rfl) ?_
  refine lv_iload hx hb dX5_taste_16 (lv_at hl 4 rfl) ?_
  refine lv_icmp_ge (tgt := 42) hx hb dX5_taste_18 (by decide) (fun c_18 => ?_) (fun c_18 => ?_)
  · have c_18 := (nI_leI (by omega) (by omega)).mp c_18
    have e7 : i = K.length := by omega
    rw [e7] at hl
    refine lv_iload_n hx hb dX5_taste_42 rfl (lv_at hl 2 rfl) ?_
    refine lv_if_ne (tgt := 58) hx hb dX5_taste_43 (by decide) (fun c_43 => ?_) (fun c_43 => ?_)
    · have c_43 := bI_n0 c_43
      rw [knn_all] at c_43
      have hin : d ∈ K := of_decide_eq_true c_43
      have hlk : lk K d = K := lk_in hin
      refine lv_aload_n hx hb dX5_taste_58 rfl (lv_at hl 0 rfl) ?_
      refine lv_aload_n hx hb dX5_taste_59 rfl (lv_at hl 1 rfl) ?_
      refine p_vi (X := [(z, .inr (5, [.ref ak, .ref ar, .ref al, .ref alk, .int (nI td), .ref ast, .int (nI aa), .ref asn, .ref amd]))]) (cx := [(z, .inr (5, [.ref ak, .ref ar, .ref al, .ref alk, .int (nI td), .ref ast, .int (nI aa), .ref asn, .ref amd]))]) (As := [.ref b]) (rest := []) (wr := ([] : va_W)) ⟨hx, hb, hml, hown, hts⟩ hK hQ hP hD hS hA hZ hN (c_X5_spoils l G gr sa R L f z ak ar al alk ast asn amd td aa n rc k ne sp (by first | assumption | omega) (by first | assumption | omega) (by first | assumption | omega) (by first | assumption | omega) (by first | assumption | omega) (by first | assumption | omega) (by first | assumption | omega) b d (by first | assumption | omega) (by first | assumption | omega)) (cwV 1 hts gX5_taste_X5_spoils rfl rfl rfl (by decide +kernel) ⟨Nat.le_of_ble_eq_true rfl, Nat.le_of_ble_eq_true rfl⟩) [0] [] ⟨rfl, rfl, by decide, by decide, by decide⟩ 0 5 rfl rfl rfl hl.1 rfl (Nat.le_of_ble_eq_true rfl) ⟨by first | omega | (dsimp only; omega), by first | omega | (dsimp only; omega)⟩ dX5_taste_60 (fun r u_1 H locs hw hP hD hS => ?_)
      obtain ⟨L_1, f_1⟩ := u_1
      try dsimp only at hw
      have hP : va_P G.1 vwCl ([(z, .inr (5, [.ref ak, .ref ar, .ref al, .ref alk, .int (nI td), .ref ast, .int (nI aa), .ref asn, .ref amd]))] ++ va_pl (R ++ L_1) f_1) H := hP
      have hD : va_D A ([(z, .inr (5, [.ref ak, .ref ar, .ref al, .ref alk, .int (nI td), .ref ast, .int (nI aa), .ref asn, .ref amd]))] ++ va_pl (R ++ L_1) f_1) := hD
      obtain ⟨hx_1, hw⟩ := hw
      subst hw
      have hsim := hsim.mono hx_1
      have hib := hib.mono hx_1
      have hsR := hsR.mono hx_1
      have hsK := hsK.mono hx_1
      refine W.widen (k := 1 + ((lk K d).length - K.length)) (n := cnt d 24 + (tri (lk K d).length - tri K.length)) (by first | omega | (dsimp only; omega)) (by first | omega | (dsimp only; omega)) ?_
      exact cs_zret hx hb hr hlocks hK hP hD hS (v := bI (spl k ne sp n rc d)) (bI_nar _) ((L_1, f_1), asn) (⟨hx_1, rfl, by rw [lk_in hin]; exact hsK⟩) (rfl) dX5_taste_63
    · have c_43 := bI_0 c_43
      rw [knn_all] at c_43
      have hnin : ¬ d ∈ K := of_decide_eq_false c_43
      have hlk : (lk K d).length = K.length + 1 := by rw [lk_new hnin, List.length_append]; rfl
      have htr : tri (lk K d).length = tri K.length + (K.length + 1) := by rw [hlk]; rfl
      refine lv_aload_n hx hb dX5_taste_46 rfl (lv_at hl 0 rfl) ?_
      refine lv_aload_n hx hb dX5_taste_47 rfl (lv_at hl 0 rfl) ?_
      refine va_get (D := G.1) (ci := 5) (v := .ref asn) (C := RX5) (T := TX5) (N := 9) hx hb hts hin5 hown hK hP 0 rfl rfl 7 (by decide) (hts (.fieldLink RX5 27 "FaultShrinkerLaw$Sim" "seen" "[[I") (List.mem_of_getElem? (i := 1) rfl)) (fun _ h9 => h9) rfl dX5_taste_48 ?_
      refine lv_aload_n hx hb dX5_taste_51 rfl (lv_at hl 1 rfl) ?_
      refine p_sr (X := [(z, .inr (5, [.ref ak, .ref ar, .ref al, .ref alk, .int (nI td), .ref ast, .int (nI aa), .ref asn, .ref amd]))]) (cx := ([] : va_W)) (As := [.ref asn, .ref b]) (rest := [.ref z]) (wr := [(z, .inr (5, [.ref ak, .ref ar, .ref al, .ref alk, .int (nI td), .ref ast, .int (nI aa), .ref asn, .ref amd]))]) ⟨hx, hb, hml, hown, hts⟩ hK hQ hP hD hS hA hZ hN (c_X5_more l G gr sa R L f asn b K.length (cnt d 24) rrK (fun j => nI (plc d j)) (by first | assumption | omega) (hsR) (fun j hj => ⟨_, _, (hsI j hj).l R⟩) (hib.l R)) (va_cwS 2 hts gX5_taste_X5_more rfl rfl rfl (by decide +kernel) ⟨Nat.le_of_ble_eq_true rfl, Nat.le_of_ble_eq_true rfl⟩) [] [0] ⟨rfl, rfl, by decide, by decide, by decide⟩ rfl hl.1 rfl (Nat.le_of_ble_eq_true rfl) ⟨by first | omega | (dsimp only; omega), by first | omega | (dsimp only; omega)⟩ dX5_taste_52 (fun c2 u_2 H locs hw hP hD hS => ?_)
      obtain ⟨L_2, f_2⟩ := u_2
      try dsimp only at hw
      have hP : va_P G.1 vwCl ([(z, .inr (5, [.ref ak, .ref ar, .ref al, .ref alk, .int (nI td), .ref ast, .int (nI aa), .ref asn, .ref amd]))] ++ va_pl (R ++ L_2) f_2) H := hP
      have hD : va_D A ([(z, .inr (5, [.ref ak, .ref ar, .ref al, .ref alk, .int (nI td), .ref ast, .int (nI aa), .ref asn, .ref amd]))] ++ va_pl (R ++ L_2) f_2) := hD
      obtain ⟨hx_2, hr_2⟩ := hw
      have hsim := hsim.mono hx_2
      have hib := hib.mono hx_2
      have hsR := hsR.mono hx_2
      have hsK := hsK.mono hx_2
      have hsI := fun j (hj : j < K.length) => (hsI j hj).mono hx_2
      have hsN : sK G gr L_2 f_2 c2 (K ++ [d]) := sK.push hr_2 hsI hib
      refine va_put (D := G.1) (ci := 5) (v := .ref c2) (ty := .array (.array .int)) (C := RX5) (T := TX5) (N := 9) hx hb hts hin5 tyX5 tyX5_ok nmX5 hown hK hP hD hS 0 rfl rfl 7 (by decide) (hts (.fieldLink RX5 27 "FaultShrinkerLaw$Sim" "seen" "[[I") (List.mem_of_getElem? (i := 1) rfl)) (fun _ h9 => h9) rfl (by decide +kernel) rfl rfl (Nat.le_of_ble_eq_true rfl) dX5_taste_55 (fun H locs hP hD hS => ?_)
      have hP : va_P G.1 vwCl ([(z, .inr (5, [.ref ak, .ref ar, .ref al, .ref alk, .int (nI td), .ref ast, .int (nI aa), .ref c2, .ref amd]))] ++ va_pl (R ++ L_2) f_2) _ := hP
      have hD : va_D A ([(z, .inr (5, [.ref ak, .ref ar, .ref al, .ref alk, .int (nI td), .ref ast, .int (nI aa), .ref c2, .ref amd]))] ++ va_pl (R ++ L_2) f_2) := hD
      refine lv_aload_n hx hb dX5_taste_58 rfl (lv_at hl 0 rfl) ?_
      refine lv_aload_n hx hb dX5_taste_59 rfl (lv_at hl 1 rfl) ?_
      refine p_vi (X := [(z, .inr (5, [.ref ak, .ref ar, .ref al, .ref alk, .int (nI td), .ref ast, .int (nI aa), .ref c2, .ref amd]))]) (cx := [(z, .inr (5, [.ref ak, .ref ar, .ref al, .ref alk, .int (nI td), .ref ast, .int (nI aa), .ref c2, .ref amd]))]) (As := [.ref b]) (rest := []) (wr := ([] : va_W)) ⟨hx, hb, hml, hown, hts⟩ hK hQ hP hD hS hA hZ hN (c_X5_spoils l G gr sa R L_2 f_2 z ak ar al alk ast c2 amd td aa n rc k ne sp (by first | assumption | omega) (by first | assumption | omega) (by first | assumption | omega) (by first | assumption | omega) (by first | assumption | omega) (by first | assumption | omega) (by first | assumption | omega) b d (by first | assumption | omega) (by first | assumption | omega)) (cwV 1 hts gX5_taste_X5_spoils rfl rfl rfl (by decide +kernel) ⟨Nat.le_of_ble_eq_true rfl, Nat.le_of_ble_eq_true rfl⟩) [0] [] ⟨rfl, rfl, by decide, by decide, by decide⟩ 0 5 rfl rfl rfl hl.1 rfl (Nat.le_of_ble_eq_true rfl) ⟨by first | omega | (dsimp only; omega), by first | omega | (dsimp only; omega)⟩ dX5_taste_60 (fun r u_3 H locs hw hP hD hS => ?_)
      obtain ⟨L_3, f_3⟩ := u_3
      try dsimp only at hw
      have hP : va_P G.1 vwCl ([(z, .inr (5, [.ref ak, .ref ar, .ref al, .ref alk, .int (nI td), .ref ast, .int (nI aa), .ref c2, .ref amd]))] ++ va_pl (R ++ L_3) f_3) H := hP
      have hD : va_D A ([(z, .inr (5, [.ref ak, .ref ar, .ref al, .ref alk, .int (nI td), .ref ast, .int (nI aa), .ref c2, .ref amd]))] ++ va_pl (R ++ L_3) f_3) := hD
      obtain ⟨hx_3, hw⟩ := hw
      subst hw
      have hsim := hsim.mono hx_3
      have hib := hib.mono hx_3
      have hsR := hsR.mono hx_3
      have hsK := hsK.mono hx_3
      have hsN := hsN.mono hx_3
      refine W.widen (k := 1 + ((lk K d).length - K.length)) (n := cnt d 24 + (tri (lk K d).length - tri K.length)) (by first | omega | (dsimp only; omega)) (by first | omega | (dsimp only; omega)) ?_
      exact cs_zret hx hb hr hlocks hK hP hD hS (v := bI (spl k ne sp n rc d)) (bI_nar _) ((L_3, f_3), c2) (⟨(hx_2.trans hx_3), rfl, by rw [lk_new hnin]; exact hsN⟩) (rfl) dX5_taste_63
  · have c_18 := mt (nI_leI (by omega) (by omega)).mpr c_18
    refine lv_aload_n hx hb dX5_taste_21 rfl (lv_at hl 3 rfl) ?_
    refine lv_iload hx hb dX5_taste_22 (lv_at hl 5 rfl) ?_
    refine p_aald hx hb hQ hP (hsR.l R) (j := i) (v := rrK i) rfl (by omega) (by omega) rfl dX5_taste_24 ?_
    refine lv_astore (lv' := [(6, .ref (rrK i)), (0, .ref z), (1, .ref b), (2, .int (bI (knn K d i))), (3, .ref asn), (4, .int (nI K.length)), (5, .int (nI i))]) hx hb dX5_taste_25 hl (by decide) rfl (fun ls hl => ?_)
    refine lv_iload_n hx hb dX5_taste_27 rfl (lv_at hl 3 rfl) ?_
    refine lv_aload hx hb dX5_taste_28 (lv_at hl 0 rfl) ?_
    refine lv_aload_n hx hb dX5_taste_30 rfl (lv_at hl 2 rfl) ?_
    refine p_si (X := [(z, .inr (5, [.ref ak, .ref ar, .ref al, .ref alk, .int (nI td), .ref ast, .int (nI aa), .ref asn, .ref amd]))]) (cx := ([] : va_W)) (As := [.ref (rrK i), .ref b]) (rest := [.int (bI (knn K d i))]) (wr := [(z, .inr (5, [.ref ak, .ref ar, .ref al, .ref alk, .int (nI td), .ref ast, .int (nI aa), .ref asn, .ref amd]))]) ⟨hx, hb, hml, hown, hts⟩ hK hQ hP hD hS hA hZ hN (c_X5_isSame l G gr sa R L f (rrK i) b (K.getD i 0) d (hKd i (by omega)) (hd24) (hsI i (by omega)) (hib)) (va_cwS 2 hts gX5_taste_X5_isSame rfl rfl rfl (by decide +kernel) ⟨Nat.le_of_ble_eq_true rfl, Nat.le_of_ble_eq_true rfl⟩) [] [0] ⟨rfl, rfl, by decide, by decide, by decide⟩ rfl hl.1 rfl (Nat.le_of_ble_eq_true rfl) ⟨by first | omega | (dsimp only; omega), by first | omega | (dsimp only; omega)⟩ dX5_taste_31 (fun r u_4 H locs hw hP hD hS => ?_)
    try dsimp only at hw
    have hP : va_P G.1 vwCl ([(z, .inr (5, [.ref ak, .ref ar, .ref al, .ref alk, .int (nI td), .ref ast, .int (nI aa), .ref asn, .ref amd]))] ++ va_pl (R ++ L) f) H := hP
    have hD : va_D A ([(z, .inr (5, [.ref ak, .ref ar, .ref al, .ref alk, .int (nI td), .ref ast, .int (nI aa), .ref asn, .ref amd]))] ++ va_pl (R ++ L) f) := hD
    subst hw
    refine lv_ior hx hb dX5_taste_34 ?_
    refine cs_i (y := bI ((knn K d i) || (decide (K.getD i 0 = d)))) (bI_or _ _) ?_
    refine cs_i (y := bI (knn K d (i + 1))) (rfl) ?_
    refine lv_istore_n (lv' := [(2, .int (bI (knn K d (i + 1)))), (6, .ref (rrK i)), (0, .ref z), (1, .ref b), (3, .ref asn), (4, .int (nI K.length)), (5, .int (nI i))]) hx hb dX5_taste_35 rfl hl (by decide) rfl (fun ls hl => ?_)
    refine lv_iinc (v := nI (i + 1)) (lv' := [(5, .int (nI (i + 1))), (2, .int (bI (knn K d (i + 1)))), (6, .ref (rrK i)), (0, .ref z), (1, .ref b), (3, .ref asn), (4, .int (nI K.length))]) hx hb dX5_taste_36 hl (k := 6) rfl ((nI_succ i).symm) (by decide) rfl (fun ls hl => ?_)
    refine lv_goto (tgt := 14) hx hb dX5_taste_39 (by decide) ?_
    exact ih (i + 1) (by show K.length - (i + 1) < K.length - i; omega) (by show (i + 1) ≤ K.length; omega) _ _ _ hP hD hS (lv_sub (l' := [(0, .ref z), (1, .ref b), (2, .int (bI (knn K d (i + 1)))), (3, .ref asn), (4, .int (nI K.length)), (5, .int (nI (i + 1)))]) hl [3, 4, 1, 5, 6, 0] rfl)

set_option maxRecDepth 100000 in
theorem in5_X5_whole : ∀ w ∈ wsX50, w ∈ wsX5_whole := by decide +kernel
set_option maxHeartbeats 4000000 in
set_option maxRecDepth 100000 in
theorem c_X5_whole (l : Launch) (G : cG) (gr : ClassId) (sa : Nat → Nat) (R L : List Nat) (f : Nat → va_E) (z ak ar al alk ast asn amd td aa : Nat) (n rc : Nat) (k ne sp : Nat → Nat) (hn : n ≤ 24) (hk : ∀ j, j < n → k j < 16) (hrc : rc ≤ 6) (hne : ∀ j, j < 6 → ne j < 65536) (hsp : ∀ j, j < 6 → sp j < 65536) (hdj : ∀ j, j < 6 → ne j &&& sp j = 0) (hsim : simK G gr R L f ak ar n k rc ne sp) : pMR l G gr sa yX5_whole wsX5_whole ({ frames := 0, cells := 1, slots := n, locals := 0 }) [.ref z] ([(z, .inr (5, [.ref ak, .ref ar, .ref al, .ref alk, .int (nI td), .ref ast, .int (nI aa), .ref asn, .ref amd]))] ++ va_pl (R ++ L) f) (fun (r_ : Nat) (u : List Nat × (Nat → va_E)) => pX R L f u.1 u.2 ∧ dI G u.1 u.2 r_ (2 ^ n - 1)) (fun (u : List Nat × (Nat → va_E)) => ([(z, .inr (5, [.ref ak, .ref ar, .ref al, .ref alk, .int (nI td), .ref ast, .int (nI aa), .ref asn, .ref amd]))] ++ va_pl (R ++ u.1) u.2)) := by
  refine ps_R (own := RX5) (cc := cX5_whole) (maxL := 3) (ret := (some (.array .int))) (by decide) rfl rfl (Nat.le_of_ble_eq_true rfl) ?_
  intro p e s m below meth c A hZ hN hQ hx hb hr hml hts hown hlocks hinit hA hK hP hD hS ls hl
  have hin5 := in5_X5_whole
  have hl : lv_has ls 3 [(0, .ref z)] := hl
  have hsim0 := hsim
  obtain ⟨hkI, hRl, hrR, hrI⟩ := hsim0
  refine lv_aload_n hx hb dX5_whole_0 rfl (lv_at hl 0 rfl) ?_
  refine va_get (D := G.1) (ci := 5) (v := .ref ak) (C := RX5) (T := TX5) (N := 9) hx hb hts hin5 hown hK hP 0 rfl rfl 0 (by decide) (hts (.fieldLink RX5 7 "FaultShrinkerLaw$Sim" "kinds" "[I") (List.mem_of_getElem? (i := 1) rfl)) (fun _ h9 => h9) rfl dX5_whole_1 ?_
  refine p_ilen hx hb hK hP (hkI.l R) dX5_whole_4 ?_
  refine p_newI hx hb (hts (.arrayClass .int) (List.mem_of_getElem? (i := 2) rfl)) hK hP hD hS hA (N' := n) rfl (by omega) (by first | omega | (dsimp only; omega)) (by first | omega | (dsimp only; omega)) dX5_whole_5 (fun q5 H hP hD hS => ?_)
  have hP : va_P G.1 vwCl ([(z, .inr (5, [.ref ak, .ref ar, .ref al, .ref alk, .int (nI td), .ref ast, .int (nI aa), .ref asn, .ref amd])), (q5, .inl (G.2.1, n, .inl (nF (fun _ => 0))))] ++ va_pl (R ++ L) f) _ := hP
  have hD : va_D A ([(z, .inr (5, [.ref ak, .ref ar, .ref al, .ref alk, .int (nI td), .ref ast, .int (nI aa), .ref asn, .ref amd])), (q5, .inl (G.2.1, n, .inl (nF (fun _ => 0))))] ++ va_pl (R ++ L) f) := hD
  refine lv_astore_n (lv' := [(1, .ref q5), (0, .ref z)]) hx hb dX5_whole_7 rfl hl (by decide) rfl (fun ls hl => ?_)
  have e8 : nF (fun _ => 0) = fa_fill (fun j9 => nI j9) (nF (fun _ => 0)) 0 := (fa_fill_0 _ _).symm
  rw [e8] at hP hD
  have hP : va_P G.1 vwCl ([(z, .inr (5, [.ref ak, .ref ar, .ref al, .ref alk, .int (nI td), .ref ast, .int (nI aa), .ref asn, .ref amd])), (q5, .inl (G.2.1, n, .inl (fa_fill (fun j9 => nI j9) (nF (fun _ => 0)) 0)))] ++ va_pl (R ++ L) f) _ := hP
  have hD : va_D A ([(z, .inr (5, [.ref ak, .ref ar, .ref al, .ref alk, .int (nI td), .ref ast, .int (nI aa), .ref asn, .ref amd])), (q5, .inl (G.2.1, n, .inl (fa_fill (fun j9 => nI j9) (nF (fun _ => 0)) 0)))] ++ va_pl (R ++ L) f) := hD
  refine lv_iconst (v := nI 0) hx hb dX5_whole_8 (by decide +kernel) ?_
  refine lv_istore_n (lv' := [(2, .int (nI 0)), (1, .ref q5), (0, .ref z)]) hx hb dX5_whole_9 rfl hl (by decide) rfl (fun ls hl => ?_)
  refine cs_loop (G := G) (nL := 3) (σ := Nat) (fun (i : Nat) => n - i) (fun (i : Nat) => i ≤ n) (fun (i : Nat) => ([(z, .inr (5, [.ref ak, .ref ar, .ref al, .ref alk, .int (nI td), .ref ast, .int (nI aa), .ref asn, .ref amd])), (q5, .inl (G.2.1, n, .inl (fa_fill (fun j9 => nI j9) (nF (fun _ => 0)) i)))] ++ va_pl (R ++ L) f)) (fun (i : Nat) => [(0, .ref z), (1, .ref q5), (2, .int (nI i))]) ?_ (0) (by show 0 ≤ n; omega) hP hD hS (lv_sub (l' := [(0, .ref z), (1, .ref q5), (2, .int (nI 0))]) hl [2, 1, 0] rfl)
  rintro i hinv ih H locs ls hP hD hS hl
  have hP : va_P G.1 vwCl ([(z, .inr (5, [.ref ak, .ref ar, .ref al, .ref alk, .int (nI td), .ref ast, .int (nI aa), .ref asn, .ref amd])), (q5, .inl (G.2.1, n, .inl (fa_fill (fun j9 => nI j9) (nF (fun _ => 0)) i)))] ++ va_pl (R ++ L) f) _ := hP
  have hD : va_D A ([(z, .inr (5, [.ref ak, .ref ar, .ref al, .ref alk, .int (nI td), .ref ast, .int (nI aa), .ref asn, .ref amd])), (q5, .inl (G.2.1, n, .inl (fa_fill (fun j9 => nI j9) (nF (fun _ => 0)) i)))] ++ va_pl (R ++ L) f) := hD
  have hl : lv_has ls 3 [(0, .ref z), (1, .ref q5), (2, .int (nI i))] := hl
  have hinv : i ≤ n := hinv
  refine lv_iload_n hx hb dX5_whole_10 rfl (lv_at hl 2 rfl) ?_
  refine lv_aload_n hx hb dX5_whole_11 rfl (lv_at hl 1 rfl) ?_
  refine va_alen hx hb hK hP 1 0 rfl rfl (v := nI n) rfl dX5_whole_12 ?_
  refine lv_icmp_ge (tgt := 26) hx hb dX5_whole_13 (by decide) (fun c_13 => ?_) (fun c_13 => ?_)
  · have c_13 := (nI_leI (by omega) (by omega)).mp c_13
    have e7 : i = n := by omega
    rw [e7] at hP hD
    refine lv_aload_n hx hb dX5_whole_26 rfl (lv_at hl 1 rfl) ?_
    obtain ⟨hP, hD, hx_1, hmF, heF⟩ := p_frz (X := [(z, .inr (5, [.ref ak, .ref ar, .ref al, .ref alk, .int (nI td), .ref ast, .int (nI aa), .ref asn, .ref amd]))]) (RR := R) (L := L) (f := f) hP hD
    obtain ⟨L_1, f_1, hLF, hfF⟩ : ∃ L9 f9, L9 = L ++ [q5] ∧ f9 = va_up f q5 (.inl (G.2.1, n, .inl (fa_fill (fun j9 => nI j9) (nF (fun _ => 0)) n))) := ⟨_, _, rfl, rfl⟩
    rw [← hLF, ← hfF] at hP hD hx_1
    rw [← hLF] at hmF
    rw [← hfF] at heF
    have hnew : fI G L_1 f_1 q5 n (fun j => nI j) := ⟨hmF, _, heF, (fun j hj => fa_fill_in hj)⟩
    clear hmF heF hLF hfF
    have hkI := hkI.mono hx_1
    have hP : va_P G.1 vwCl ([(z, .inr (5, [.ref ak, .ref ar, .ref al, .ref alk, .int (nI td), .ref ast, .int (nI aa), .ref asn, .ref amd]))] ++ va_pl (R ++ L_1) f_1) _ := hP
    have hD : va_D A ([(z, .inr (5, [.ref ak, .ref ar, .ref al, .ref alk, .int (nI td), .ref ast, .int (nI aa), .ref asn, .ref amd]))] ++ va_pl (R ++ L_1) f_1) := hD
    refine W.widen (k := 1) (n := n) (by first | omega | (dsimp only; omega)) (by first | omega | (dsimp only; omega)) ?_
    exact p_aret (rt := .array .int) hx hb hr ⟨.int, rfl⟩ hlocks hK hP hD hS (v := q5) (L_1, f_1) (⟨hx_1, hnew.ton (by rw [cnt_whole]; omega) (fun j hj => by rw [plc_whole hn (by rw [cnt_whole] at hj; omega)])⟩) (rfl) dX5_whole_27
  · have c_13 := mt (nI_leI (by omega) (by omega)).mpr c_13
    refine lv_aload_n hx hb dX5_whole_16 rfl (lv_at hl 1 rfl) ?_
    refine lv_iload_n hx hb dX5_whole_17 rfl (lv_at hl 2 rfl) ?_
    refine lv_iload_n hx hb dX5_whole_18 rfl (lv_at hl 2 rfl) ?_
    refine va_iast hx hb hK hP hD hS 1 0 rfl rfl (vp_in_nI (by omega) (by omega)) dX5_whole_19 (fun H locs hP hD hS => ?_)
    rw [aF_upd _ (by omega)] at hP hD
    have hP : va_P G.1 vwCl ([(z, .inr (5, [.ref ak, .ref ar, .ref al, .ref alk, .int (nI td), .ref ast, .int (nI aa), .ref asn, .ref amd])), (q5, .inl (G.2.1, n, .inl (va_up (fa_fill (fun j9 => nI j9) (nF (fun _ => 0)) i) i (nI i))))] ++ va_pl (R ++ L) f) _ := hP
    have hD : va_D A ([(z, .inr (5, [.ref ak, .ref ar, .ref al, .ref alk, .int (nI td), .ref ast, .int (nI aa), .ref asn, .ref amd])), (q5, .inl (G.2.1, n, .inl (va_up (fa_fill (fun j9 => nI j9) (nF (fun _ => 0)) i) i (nI i))))] ++ va_pl (R ++ L) f) := hD
    have e9 : (va_up (fa_fill (fun j9 => nI j9) (nF (fun _ => 0)) i) i (nI i)) = (fa_fill (fun j9 => nI j9) (nF (fun _ => 0)) (i + 1)) := fil_s _ _ i
    rw [e9] at hP hD
    have hP : va_P G.1 vwCl ([(z, .inr (5, [.ref ak, .ref ar, .ref al, .ref alk, .int (nI td), .ref ast, .int (nI aa), .ref asn, .ref amd])), (q5, .inl (G.2.1, n, .inl (fa_fill (fun j9 => nI j9) (nF (fun _ => 0)) (i + 1))))] ++ va_pl (R ++ L) f) _ := hP
    have hD : va_D A ([(z, .inr (5, [.ref ak, .ref ar, .ref al, .ref alk, .int (nI td), .ref ast, .int (nI aa), .ref asn, .ref amd])), (q5, .inl (G.2.1, n, .inl (fa_fill (fun j9 => nI j9) (nF (fun _ => 0)) (i + 1))))] ++ va_pl (R ++ L) f) := hD
    refine lv_iinc (v := nI (i + 1)) (lv' := [(2, .int (nI (i + 1))), (0, .ref z), (1, .ref q5)]) hx hb dX5_whole_20 hl (k := 2) rfl ((nI_succ i).symm) (by decide) rfl (fun ls hl => ?_)
    refine lv_goto (tgt := 10) hx hb dX5_whole_23 (by decide) ?_
    exact ih (i + 1) (by show n - (i + 1) < n - i; omega) (by show (i + 1) ≤ n; omega) _ _ _ hP hD hS (lv_sub (l' := [(0, .ref z), (1, .ref q5), (2, .int (nI (i + 1)))]) hl [1, 2, 0] rfl)

set_option maxHeartbeats 4000000 in
set_option maxRecDepth 100000 in
theorem c_X5_piece (l : Launch) (G : cG) (gr : ClassId) (sa : Nat → Nat) (R L : List Nat) (f : Nat → va_E) (b m9 x0 x1 : Nat) (g : Nat → Int32) (h01 : x0 ≤ x1) (h1m : x1 ≤ m9) (hm9 : m9 < 100000) (hib : fI G (R ++ L) f b m9 g) : pMR l G gr sa yX5_piece wsX5_piece ({ frames := 0, cells := 1, slots := x1 - x0, locals := 0 }) [.ref b, .int (nI x0), .int (nI x1)] (([] : va_W) ++ va_pl (R ++ L) f) (fun (r_ : Nat) (u : List Nat × (Nat → va_E)) => pX R L f u.1 u.2 ∧ fI G u.1 u.2 r_ (x1 - x0) (fun j => g (x0 + j))) (fun (u : List Nat × (Nat → va_E)) => (([] : va_W) ++ va_pl (R ++ u.1) u.2)) := by
  refine ps_R (own := RX5) (cc := cX5_piece) (maxL := 5) (ret := (some (.array .int))) (by decide) rfl rfl (Nat.le_of_ble_eq_true rfl) ?_
  intro p e s m below meth c A hZ hN hQ hx hb hr hml hts hown hlocks hinit hA hK hP hD hS ls hl
  have hl : lv_has ls 5 [(0, .ref b), (1, .int (nI x0)), (2, .int (nI x1))] := hl
  refine lv_iload_n hx hb dX5_piece_0 rfl (lv_at hl 2 rfl) ?_
  refine lv_iload_n hx hb dX5_piece_1 rfl (lv_at hl 1 rfl) ?_
  refine lv_isub hx hb dX5_piece_2 ?_
  refine cs_i (y := nI (x1 - x0)) (pk_sub (by omega)) ?_
  refine p_newI hx hb (hts (.arrayClass .int) (List.mem_of_getElem? (i := 1) rfl)) hK hP hD hS hA (N' := x1 - x0) rfl (by omega) (by first | omega | (dsimp only; omega)) (by first | omega | (dsimp only; omega)) dX5_piece_3 (fun q3 H hP hD hS => ?_)
  have hP : va_P G.1 vwCl ([(q3, .inl (G.2.1, x1 - x0, .inl (nF (fun _ => 0))))] ++ va_pl (R ++ L) f) _ := hP
  have hD : va_D A ([(q3, .inl (G.2.1, x1 - x0, .inl (nF (fun _ => 0))))] ++ va_pl (R ++ L) f) := hD
  refine lv_astore_n (lv' := [(3, .ref q3), (0, .ref b), (1, .int (nI x0)), (2, .int (nI x1))]) hx hb dX5_piece_5 rfl hl (by decide) rfl (fun ls hl => ?_)
  have e8 : nF (fun _ => 0) = fa_fill (fun j9 => g (x0 + j9)) (nF (fun _ => 0)) 0 := (fa_fill_0 _ _).symm
  rw [e8] at hP hD
  have hP : va_P G.1 vwCl ([(q3, .inl (G.2.1, x1 - x0, .inl (fa_fill (fun j9 => g (x0 + j9)) (nF (fun _ => 0)) 0)))] ++ va_pl (R ++ L) f) _ := hP
  have hD : va_D A ([(q3, .inl (G.2.1, x1 - x0, .inl (fa_fill (fun j9 => g (x0 + j9)) (nF (fun _ => 0)) 0)))] ++ va_pl (R ++ L) f) := hD
  refine lv_iload_n hx hb dX5_piece_6 rfl (lv_at hl 2 rfl) ?_
  refine lv_istore (lv' := [(4, .int (nI x0)), (3, .ref q3), (0, .ref b), (1, .int (nI x0)), (2, .int (nI x1))]) hx hb dX5_piece_7 hl (by decide) rfl (fun ls hl => ?_)
  refine cs_loop (G := G) (nL := 5) (σ := Nat) (fun (i : Nat) => x1 - x0 - i) (fun (i : Nat) => i ≤ x1 - x0) (fun (i : Nat) => ([(q3, .inl (G.2.1, x1 - x0, .inl (fa_fill (fun j9 => g (x0 + j9)) (nF (fun _ => 0)) i)))] ++ va_pl (R ++ L) f)) (fun (i : Nat) => [(0, .ref b), (1, .int (nI x0)), (2, .int (nI x1)), (3, .ref q3), (4, .int (nI (x0 + i)))]) ?_ (0) (by show 0 ≤ x1 - x0; omega) hP hD hS (lv_sub (l' := [(0, .ref b), (1, .int (nI x0)), (2, .int (nI x1)), (3, .ref q3), (4, .int (nI (x0 + 0)))]) hl [2, 3, 4, 1, 0] rfl)
  rintro i hinv ih H locs ls hP hD hS hl
  have hP : va_P G.1 vwCl ([(q3, .inl (G.2.1, x1 - x0, .inl (fa_fill (fun j9 => g (x0 + j9)) (nF (fun _ => 0)) i)))] ++ va_pl (R ++ L) f) _ := hP
  have hD : va_D A ([(q3, .inl (G.2.1, x1 - x0, .inl (fa_fill (fun j9 => g (x0 + j9)) (nF (fun _ => 0)) i)))] ++ va_pl (R ++ L) f) := hD
  have hl : lv_has ls 5 [(0, .ref b), (1, .int (nI x0)), (2, .int (nI x1)), (3, .ref q3), (4, .int (nI (x0 + i)))] := hl
  have hinv : i ≤ x1 - x0 := hinv
  refine lv_iload hx hb dX5_piece_9 (lv_at hl 4 rfl) ?_
  refine lv_iload_n hx hb dX5_piece_11 rfl (lv_at hl 2 rfl) ?_
  refine lv_icmp_ge (tgt := 31) hx hb dX5_piece_12 (by decide) (fun c_12 => ?_) (fun c_12 => ?_)
  · have c_12 := (nI_leI (by omega) (by omega)).mp c_12
    have e7 : i = x1 - x0 := by omega
    rw [e7] at hP hD
    refine lv_aload_n hx hb dX5_piece_31 rfl (lv_at hl 3 rfl) ?_
    obtain ⟨hP, hD, hx_1, hmF, heF⟩ := p_frz (X := ([] : va_W)) (RR := R) (L := L) (f := f) hP hD
    obtain ⟨L_1, f_1, hLF, hfF⟩ : ∃ L9 f9, L9 = L ++ [q3] ∧ f9 = va_up f q3 (.inl (G.2.1, x1 - x0, .inl (fa_fill (fun j9 => g (x0 + j9)) (nF (fun _ => 0)) (x1 - x0)))) := ⟨_, _, rfl, rfl⟩
    rw [← hLF, ← hfF] at hP hD hx_1
    rw [← hLF] at hmF
    rw [← hfF] at heF
    have hnew : fI G L_1 f_1 q3 (x1 - x0) (fun j => g (x0 + j)) := ⟨hmF, _, heF, (fun j hj => fa_fill_in hj)⟩
    clear hmF heF hLF hfF
    have hib := hib.monoP hx_1
    have hP : va_P G.1 vwCl (([] : va_W) ++ va_pl (R ++ L_1) f_1) _ := hP
    have hD : va_D A (([] : va_W) ++ va_pl (R ++ L_1) f_1) := hD
    refine W.widen (k := 1) (n := x1 - x0) (by first | omega | (dsimp only; omega)) (by first | omega | (dsimp only; omega)) ?_
    exact p_aret (rt := .array .int) hx hb hr ⟨.int, rfl⟩ hlocks hK hP hD hS (v := q3) (L_1, f_1) (⟨hx_1, hnew⟩) (rfl) dX5_piece_32
  · have c_12 := mt (nI_leI (by omega) (by omega)).mpr c_12
    refine lv_aload_n hx hb dX5_piece_15 rfl (lv_at hl 3 rfl) ?_
    refine lv_iload hx hb dX5_piece_16 (lv_at hl 4 rfl) ?_
    refine lv_iload_n hx hb dX5_piece_18 rfl (lv_at hl 1 rfl) ?_
    refine lv_isub hx hb dX5_piece_19 ?_
    refine cs_i (y := nI i) ((pk_sub (by omega)).trans (congrArg nI (by omega))) ?_
    refine lv_aload_n hx hb dX5_piece_20 rfl (lv_at hl 0 rfl) ?_
    refine lv_iload hx hb dX5_piece_21 (lv_at hl 4 rfl) ?_
    refine p_iald hx hb hK hP hib (j := x0 + i) (v := g (x0 + i)) rfl (by omega) (by omega) (rfl) dX5_piece_23 ?_
    refine va_iast hx hb hK hP hD hS 0 0 rfl rfl (vp_in_nI (by omega) (by omega)) dX5_piece_24 (fun H locs hP hD hS => ?_)
    rw [aF_upd _ (by omega)] at hP hD
    have hP : va_P G.1 vwCl ([(q3, .inl (G.2.1, x1 - x0, .inl (va_up (fa_fill (fun j9 => g (x0 + j9)) (nF (fun _ => 0)) i) i (g (x0 + i)))))] ++ va_pl (R ++ L) f) _ := hP
    have hD : va_D A ([(q3, .inl (G.2.1, x1 - x0, .inl (va_up (fa_fill (fun j9 => g (x0 + j9)) (nF (fun _ => 0)) i) i (g (x0 + i)))))] ++ va_pl (R ++ L) f) := hD
    have e9 : (va_up (fa_fill (fun j9 => g (x0 + j9)) (nF (fun _ => 0)) i) i (g (x0 + i))) = (fa_fill (fun j9 => g (x0 + j9)) (nF (fun _ => 0)) (i + 1)) := fil_s _ _ i
    rw [e9] at hP hD
    have hP : va_P G.1 vwCl ([(q3, .inl (G.2.1, x1 - x0, .inl (fa_fill (fun j9 => g (x0 + j9)) (nF (fun _ => 0)) (i + 1))))] ++ va_pl (R ++ L) f) _ := hP
    have hD : va_D A ([(q3, .inl (G.2.1, x1 - x0, .inl (fa_fill (fun j9 => g (x0 + j9)) (nF (fun _ => 0)) (i + 1))))] ++ va_pl (R ++ L) f) := hD
    refine lv_iinc (v := nI (x0 + i + 1)) (lv' := [(4, .int (nI (x0 + i + 1))), (0, .ref b), (1, .int (nI x0)), (2, .int (nI x1)), (3, .ref q3)]) hx hb dX5_piece_25 hl (k := 4) rfl ((nI_succ (x0 + i)).symm) (by decide) rfl (fun ls hl => ?_)
    refine lv_goto (tgt := 9) hx hb dX5_piece_28 (by decide) ?_
    exact ih (i + 1) (by show x1 - x0 - (i + 1) < x1 - x0 - i; omega) (by show (i + 1) ≤ x1 - x0; omega) _ _ _ hP hD hS (lv_sub (l' := [(0, .ref b), (1, .int (nI x0)), (2, .int (nI x1)), (3, .ref q3), (4, .int (nI (x0 + (i + 1))))]) hl [1, 2, 3, 4, 0] rfl)

set_option maxHeartbeats 4000000 in
set_option maxRecDepth 100000 in
theorem c_X5_rest (l : Launch) (G : cG) (gr : ClassId) (sa : Nat → Nat) (R L : List Nat) (f : Nat → va_E) (b m9 x0 x1 : Nat) (g : Nat → Int32) (h01 : x0 ≤ x1) (h1m : x1 ≤ m9) (hm9 : m9 < 100000) (hib : fI G (R ++ L) f b m9 g) : pMR l G gr sa yX5_rest wsX5_rest ({ frames := 0, cells := 1, slots := m9 - x1 + x0, locals := 0 }) [.ref b, .int (nI x0), .int (nI x1)] (([] : va_W) ++ va_pl (R ++ L) f) (fun (r_ : Nat) (u : List Nat × (Nat → va_E)) => pX R L f u.1 u.2 ∧ fI G u.1 u.2 r_ (m9 - x1 + x0) (fun j => g (if j < x0 then j else j + (x1 - x0)))) (fun (u : List Nat × (Nat → va_E)) => (([] : va_W) ++ va_pl (R ++ u.1) u.2)) := by
  refine ps_R (own := RX5) (cc := cX5_rest) (maxL := 5) (ret := (some (.array .int))) (by decide) rfl rfl (Nat.le_of_ble_eq_true rfl) ?_
  intro p e s m below meth c A hZ hN hQ hx hb hr hml hts hown hlocks hinit hA hK hP hD hS ls hl
  have hl : lv_has ls 5 [(0, .ref b), (1, .int (nI x0)), (2, .int (nI x1))] := hl
  refine lv_aload_n hx hb dX5_rest_0 rfl (lv_at hl 0 rfl) ?_
  refine p_ilen hx hb hK hP hib dX5_rest_1 ?_
  refine lv_iload_n hx hb dX5_rest_2 rfl (lv_at hl 2 rfl) ?_
  refine lv_isub hx hb dX5_rest_3 ?_
  refine cs_i (y := nI (m9 - x1)) (pk_sub (by omega)) ?_
  refine lv_iload_n hx hb dX5_rest_4 rfl (lv_at hl 1 rfl) ?_
  refine lv_iadd hx hb dX5_rest_5 ?_
  refine cs_i (y := nI ((m9 - x1) + x0)) (nI_add _ _) ?_
  refine p_newI hx hb (hts (.arrayClass .int) (List.mem_of_getElem? (i := 1) rfl)) hK hP hD hS hA (N' := (m9 - x1) + x0) rfl (by omega) (by first | omega | (dsimp only; omega)) (by first | omega | (dsimp only; omega)) dX5_rest_6 (fun q6 H hP hD hS => ?_)
  have hP : va_P G.1 vwCl ([(q6, .inl (G.2.1, (m9 - x1) + x0, .inl (nF (fun _ => 0))))] ++ va_pl (R ++ L) f) _ := hP
  have hD : va_D A ([(q6, .inl (G.2.1, (m9 - x1) + x0, .inl (nF (fun _ => 0))))] ++ va_pl (R ++ L) f) := hD
  refine lv_astore_n (lv' := [(3, .ref q6), (0, .ref b), (1, .int (nI x0)), (2, .int (nI x1))]) hx hb dX5_rest_8 rfl hl (by decide) rfl (fun ls hl => ?_)
  have e8 : nF (fun _ => 0) = rsf g x0 x1 0 := (rsf_0 _ _ _).symm
  rw [e8] at hP hD
  have hP : va_P G.1 vwCl ([(q6, .inl (G.2.1, m9 - x1 + x0, .inl (rsf g x0 x1 0)))] ++ va_pl (R ++ L) f) _ := hP
  have hD : va_D A ([(q6, .inl (G.2.1, m9 - x1 + x0, .inl (rsf g x0 x1 0)))] ++ va_pl (R ++ L) f) := hD
  refine lv_iconst (v := nI 0) hx hb dX5_rest_9 (by decide +kernel) ?_
  refine lv_istore (lv' := [(4, .int (nI 0)), (3, .ref q6), (0, .ref b), (1, .int (nI x0)), (2, .int (nI x1))]) hx hb dX5_rest_10 hl (by decide) rfl (fun ls hl => ?_)
  refine cs_loop (G := G) (nL := 5) (σ := Nat) (fun (i : Nat) => m9 - i) (fun (i : Nat) => i ≤ m9) (fun (i : Nat) => ([(q6, .inl (G.2.1, m9 - x1 + x0, .inl (rsf g x0 x1 i)))] ++ va_pl (R ++ L) f)) (fun (i : Nat) => [(0, .ref b), (1, .int (nI x0)), (2, .int (nI x1)), (3, .ref q6), (4, .int (nI i))]) ?_ (0) (by show 0 ≤ m9; omega) hP hD hS (lv_sub (l' := [(0, .ref b), (1, .int (nI x0)), (2, .int (nI x1)), (3, .ref q6), (4, .int (nI 0))]) hl [2, 3, 4, 1, 0] rfl)
  rintro i hinv ih H locs ls hP hD hS hl
  have hP : va_P G.1 vwCl ([(q6, .inl (G.2.1, m9 - x1 + x0, .inl (rsf g x0 x1 i)))] ++ va_pl (R ++ L) f) _ := hP
  have hD : va_D A ([(q6, .inl (G.2.1, m9 - x1 + x0, .inl (rsf g x0 x1 i)))] ++ va_pl (R ++ L) f) := hD
  have hl : lv_has ls 5 [(0, .ref b), (1, .int (nI x0)), (2, .int (nI x1)), (3, .ref q6), (4, .int (nI i))] := hl
  have hinv : i ≤ m9 := hinv
  refine lv_iload hx hb dX5_rest_12 (lv_at hl 4 rfl) ?_
  refine lv_aload_n hx hb dX5_rest_14 rfl (lv_at hl 0 rfl) ?_
  refine p_ilen hx hb hK hP hib dX5_rest_15 ?_
  refine lv_icmp_ge (tgt := 60) hx hb dX5_rest_16 (by decide) (fun c_16 => ?_) (fun c_16 => ?_)
  · have c_16 := (nI_leI (by omega) (by omega)).mp c_16
    have e7 : i = m9 := by omega
    rw [e7] at hP hD
    refine lv_aload_n hx hb dX5_rest_60 rfl (lv_at hl 3 rfl) ?_
    obtain ⟨hP, hD, hx_1, hmF, heF⟩ := p_frz (X := ([] : va_W)) (RR := R) (L := L) (f := f) hP hD
    obtain ⟨L_1, f_1, hLF, hfF⟩ : ∃ L9 f9, L9 = L ++ [q6] ∧ f9 = va_up f q6 (.inl (G.2.1, m9 - x1 + x0, .inl (rsf g x0 x1 m9))) := ⟨_, _, rfl, rfl⟩
    rw [← hLF, ← hfF] at hP hD hx_1
    rw [← hLF] at hmF
    rw [← hfF] at heF
    have hnew : fI G L_1 f_1 q6 (m9 - x1 + x0) (fun j => g (if j < x0 then j else j + (x1 - x0))) := ⟨hmF, _, heF, (fun j hj => rsf_e h01 h1m hj)⟩
    clear hmF heF hLF hfF
    have hib := hib.monoP hx_1
    have hP : va_P G.1 vwCl (([] : va_W) ++ va_pl (R ++ L_1) f_1) _ := hP
    have hD : va_D A (([] : va_W) ++ va_pl (R ++ L_1) f_1) := hD
    refine W.widen (k := 1) (n := m9 - x1 + x0) (by first | omega | (dsimp only; omega)) (by first | omega | (dsimp only; omega)) ?_
    exact p_aret (rt := .array .int) hx hb hr ⟨.int, rfl⟩ hlocks hK hP hD hS (v := q6) (L_1, f_1) (⟨hx_1, hnew⟩) (rfl) dX5_rest_61
  · have c_16 := mt (nI_leI (by omega) (by omega)).mpr c_16
    refine lv_iload hx hb dX5_rest_19 (lv_at hl 4 rfl) ?_
    refine lv_iload_n hx hb dX5_rest_21 rfl (lv_at hl 1 rfl) ?_
    refine lv_icmp_lt (tgt := 31) hx hb dX5_rest_22 (by decide) (fun c_22 => ?_) (fun c_22 => ?_)
    · have c_22 := (nI_ltI (by omega) (by omega)).mp c_22
      refine lv_aload_n hx hb dX5_rest_31 rfl (lv_at hl 3 rfl) ?_
      refine lv_iload hx hb dX5_rest_32 (lv_at hl 4 rfl) ?_
      refine lv_iload_n hx hb dX5_rest_34 rfl (lv_at hl 1 rfl) ?_
      refine lv_icmp_ge (tgt := 43) hx hb dX5_rest_35 (by decide) (fun c_35 => ?_) (fun c_35 => ?_)
      · have c_35 := (nI_leI (by omega) (by omega)).mp c_35
        refine lv_iload hx hb dX5_rest_43 (lv_at hl 4 rfl) ?_
        refine lv_iload_n hx hb dX5_rest_45 rfl (lv_at hl 2 rfl) ?_
        refine lv_isub hx hb dX5_rest_46 ?_
        refine cs_i (y := nI (i - x1)) (pk_sub (by omega)) ?_
        refine lv_iload_n hx hb dX5_rest_47 rfl (lv_at hl 1 rfl) ?_
        refine lv_iadd hx hb dX5_rest_48 ?_
        refine cs_i (y := nI ((i - x1) + x0)) (nI_add _ _) ?_
        refine lv_aload_n hx hb dX5_rest_49 rfl (lv_at hl 0 rfl) ?_
        refine lv_iload hx hb dX5_rest_50 (lv_at hl 4 rfl) ?_
        refine p_iald hx hb hK hP hib (j := i) (v := g i) rfl (by omega) (by omega) (rfl) dX5_rest_52 ?_
        refine va_iast hx hb hK hP hD hS 0 0 rfl rfl (vp_in_nI (by omega) (by omega)) dX5_rest_53 (fun H locs hP hD hS => ?_)
        rw [aF_upd _ (by omega)] at hP hD
        have hP : va_P G.1 vwCl ([(q6, .inl (G.2.1, m9 - x1 + x0, .inl (va_up (rsf g x0 x1 i) ((i - x1) + x0) (g i))))] ++ va_pl (R ++ L) f) _ := hP
        have hD : va_D A ([(q6, .inl (G.2.1, m9 - x1 + x0, .inl (va_up (rsf g x0 x1 i) ((i - x1) + x0) (g i))))] ++ va_pl (R ++ L) f) := hD
        have e9 : (va_up (rsf g x0 x1 i) ((i - x1) + x0) (g i)) = (rsf g x0 x1 (i + 1)) := by first | exact rsf_a (by omega) | exact rsf_b h01 (by omega)
        rw [e9] at hP hD
        have hP : va_P G.1 vwCl ([(q6, .inl (G.2.1, m9 - x1 + x0, .inl (rsf g x0 x1 (i + 1))))] ++ va_pl (R ++ L) f) _ := hP
        have hD : va_D A ([(q6, .inl (G.2.1, m9 - x1 + x0, .inl (rsf g x0 x1 (i + 1))))] ++ va_pl (R ++ L) f) := hD
        refine lv_iinc (v := nI (i + 1)) (lv' := [(4, .int (nI (i + 1))), (0, .ref b), (1, .int (nI x0)), (2, .int (nI x1)), (3, .ref q6)]) hx hb dX5_rest_54 hl (k := 4) rfl ((nI_succ i).symm) (by decide) rfl (fun ls hl => ?_)
        refine lv_goto (tgt := 12) hx hb dX5_rest_57 (by decide) ?_
        exact ih (i + 1) (by show m9 - (i + 1) < m9 - i; omega) (by show (i + 1) ≤ m9; omega) _ _ _ hP hD hS (lv_sub (l' := [(0, .ref b), (1, .int (nI x0)), (2, .int (nI x1)), (3, .ref q6), (4, .int (nI (i + 1)))]) hl [1, 2, 3, 4, 0] rfl)
      · have c_35 := mt (nI_leI (by omega) (by omega)).mpr c_35
        refine lv_iload hx hb dX5_rest_38 (lv_at hl 4 rfl) ?_
        refine lv_goto (tgt := 49) hx hb dX5_rest_40 (by decide) ?_
        refine lv_aload_n hx hb dX5_rest_49 rfl (lv_at hl 0 rfl) ?_
        refine lv_iload hx hb dX5_rest_50 (lv_at hl 4 rfl) ?_
        refine p_iald hx hb hK hP hib (j := i) (v := g i) rfl (by omega) (by omega) (rfl) dX5_rest_52 ?_
        refine va_iast hx hb hK hP hD hS 0 0 rfl rfl (vp_in_nI (by omega) (by omega)) dX5_rest_53 (fun H locs hP hD hS => ?_)
        rw [aF_upd _ (by omega)] at hP hD
        have hP : va_P G.1 vwCl ([(q6, .inl (G.2.1, m9 - x1 + x0, .inl (va_up (rsf g x0 x1 i) i (g i))))] ++ va_pl (R ++ L) f) _ := hP
        have hD : va_D A ([(q6, .inl (G.2.1, m9 - x1 + x0, .inl (va_up (rsf g x0 x1 i) i (g i))))] ++ va_pl (R ++ L) f) := hD
        have e9 : (va_up (rsf g x0 x1 i) i (g i)) = (rsf g x0 x1 (i + 1)) := by first | exact rsf_a (by omega) | exact rsf_b h01 (by omega)
        rw [e9] at hP hD
        have hP : va_P G.1 vwCl ([(q6, .inl (G.2.1, m9 - x1 + x0, .inl (rsf g x0 x1 (i + 1))))] ++ va_pl (R ++ L) f) _ := hP
        have hD : va_D A ([(q6, .inl (G.2.1, m9 - x1 + x0, .inl (rsf g x0 x1 (i + 1))))] ++ va_pl (R ++ L) f) := hD
        refine lv_iinc (v := nI (i + 1)) (lv' := [(4, .int (nI (i + 1))), (0, .ref b), (1, .int (nI x0)), (2, .int (nI x1)), (3, .ref q6)]) hx hb dX5_rest_54 hl (k := 4) rfl ((nI_succ i).symm) (by decide) rfl (fun ls hl => ?_)
        refine lv_goto (tgt := 12) hx hb dX5_rest_57 (by decide) ?_
        exact ih (i + 1) (by show m9 - (i + 1) < m9 - i; omega) (by show (i + 1) ≤ m9; omega) _ _ _ hP hD hS (lv_sub (l' := [(0, .ref b), (1, .int (nI x0)), (2, .int (nI x1)), (3, .ref q6), (4, .int (nI (i + 1)))]) hl [1, 2, 3, 4, 0] rfl)
    · have c_22 := mt (nI_ltI (by omega) (by omega)).mpr c_22
      refine lv_iload hx hb dX5_rest_25 (lv_at hl 4 rfl) ?_
      refine lv_iload_n hx hb dX5_rest_27 rfl (lv_at hl 2 rfl) ?_
      refine lv_icmp_lt (tgt := 54) hx hb dX5_rest_28 (by decide) (fun c_28 => ?_) (fun c_28 => ?_)
      · have c_28 := (nI_ltI (by omega) (by omega)).mp c_28
        have e8 := rsf_k (g := g) (x0 := x0) (x1 := x1) (i := i) (by omega) (by omega)
        rw [e8] at hP hD
        refine lv_iinc (v := nI (i + 1)) (lv' := [(4, .int (nI (i + 1))), (0, .ref b), (1, .int (nI x0)), (2, .int (nI x1)), (3, .ref q6)]) hx hb dX5_rest_54 hl (k := 4) rfl ((nI_succ i).symm) (by decide) rfl (fun ls hl => ?_)
        refine lv_goto (tgt := 12) hx hb dX5_rest_57 (by decide) ?_
        exact ih (i + 1) (by show m9 - (i + 1) < m9 - i; omega) (by show (i + 1) ≤ m9; omega) _ _ _ hP hD hS (lv_sub (l' := [(0, .ref b), (1, .int (nI x0)), (2, .int (nI x1)), (3, .ref q6), (4, .int (nI (i + 1)))]) hl [1, 2, 3, 4, 0] rfl)
      · have c_28 := mt (nI_ltI (by omega) (by omega)).mpr c_28
        refine lv_aload_n hx hb dX5_rest_31 rfl (lv_at hl 3 rfl) ?_
        refine lv_iload hx hb dX5_rest_32 (lv_at hl 4 rfl) ?_
        refine lv_iload_n hx hb dX5_rest_34 rfl (lv_at hl 1 rfl) ?_
        refine lv_icmp_ge (tgt := 43) hx hb dX5_rest_35 (by decide) (fun c_35 => ?_) (fun c_35 => ?_)
        · have c_35 := (nI_leI (by omega) (by omega)).mp c_35
          refine lv_iload hx hb dX5_rest_43 (lv_at hl 4 rfl) ?_
          refine lv_iload_n hx hb dX5_rest_45 rfl (lv_at hl 2 rfl) ?_
          refine lv_isub hx hb dX5_rest_46 ?_
          refine cs_i (y := nI (i - x1)) (pk_sub (by omega)) ?_
          refine lv_iload_n hx hb dX5_rest_47 rfl (lv_at hl 1 rfl) ?_
          refine lv_iadd hx hb dX5_rest_48 ?_
          refine cs_i (y := nI ((i - x1) + x0)) (nI_add _ _) ?_
          refine lv_aload_n hx hb dX5_rest_49 rfl (lv_at hl 0 rfl) ?_
          refine lv_iload hx hb dX5_rest_50 (lv_at hl 4 rfl) ?_
          refine p_iald hx hb hK hP hib (j := i) (v := g i) rfl (by omega) (by omega) (rfl) dX5_rest_52 ?_
          refine va_iast hx hb hK hP hD hS 0 0 rfl rfl (vp_in_nI (by omega) (by omega)) dX5_rest_53 (fun H locs hP hD hS => ?_)
          rw [aF_upd _ (by omega)] at hP hD
          have hP : va_P G.1 vwCl ([(q6, .inl (G.2.1, m9 - x1 + x0, .inl (va_up (rsf g x0 x1 i) ((i - x1) + x0) (g i))))] ++ va_pl (R ++ L) f) _ := hP
          have hD : va_D A ([(q6, .inl (G.2.1, m9 - x1 + x0, .inl (va_up (rsf g x0 x1 i) ((i - x1) + x0) (g i))))] ++ va_pl (R ++ L) f) := hD
          have e9 : (va_up (rsf g x0 x1 i) ((i - x1) + x0) (g i)) = (rsf g x0 x1 (i + 1)) := by first | exact rsf_a (by omega) | exact rsf_b h01 (by omega)
          rw [e9] at hP hD
          have hP : va_P G.1 vwCl ([(q6, .inl (G.2.1, m9 - x1 + x0, .inl (rsf g x0 x1 (i + 1))))] ++ va_pl (R ++ L) f) _ := hP
          have hD : va_D A ([(q6, .inl (G.2.1, m9 - x1 + x0, .inl (rsf g x0 x1 (i + 1))))] ++ va_pl (R ++ L) f) := hD
          refine lv_iinc (v := nI (i + 1)) (lv' := [(4, .int (nI (i + 1))), (0, .ref b), (1, .int (nI x0)), (2, .int (nI x1)), (3, .ref q6)]) hx hb dX5_rest_54 hl (k := 4) rfl ((nI_succ i).symm) (by decide) rfl (fun ls hl => ?_)
          refine lv_goto (tgt := 12) hx hb dX5_rest_57 (by decide) ?_
          exact ih (i + 1) (by show m9 - (i + 1) < m9 - i; omega) (by show (i + 1) ≤ m9; omega) _ _ _ hP hD hS (lv_sub (l' := [(0, .ref b), (1, .int (nI x0)), (2, .int (nI x1)), (3, .ref q6), (4, .int (nI (i + 1)))]) hl [1, 2, 3, 4, 0] rfl)
        · have c_35 := mt (nI_leI (by omega) (by omega)).mpr c_35
          refine lv_iload hx hb dX5_rest_38 (lv_at hl 4 rfl) ?_
          refine lv_goto (tgt := 49) hx hb dX5_rest_40 (by decide) ?_
          refine lv_aload_n hx hb dX5_rest_49 rfl (lv_at hl 0 rfl) ?_
          refine lv_iload hx hb dX5_rest_50 (lv_at hl 4 rfl) ?_
          refine p_iald hx hb hK hP hib (j := i) (v := g i) rfl (by omega) (by omega) (rfl) dX5_rest_52 ?_
          refine va_iast hx hb hK hP hD hS 0 0 rfl rfl (vp_in_nI (by omega) (by omega)) dX5_rest_53 (fun H locs hP hD hS => ?_)
          rw [aF_upd _ (by omega)] at hP hD
          have hP : va_P G.1 vwCl ([(q6, .inl (G.2.1, m9 - x1 + x0, .inl (va_up (rsf g x0 x1 i) i (g i))))] ++ va_pl (R ++ L) f) _ := hP
          have hD : va_D A ([(q6, .inl (G.2.1, m9 - x1 + x0, .inl (va_up (rsf g x0 x1 i) i (g i))))] ++ va_pl (R ++ L) f) := hD
          have e9 : (va_up (rsf g x0 x1 i) i (g i)) = (rsf g x0 x1 (i + 1)) := by first | exact rsf_a (by omega) | exact rsf_b h01 (by omega)
          rw [e9] at hP hD
          have hP : va_P G.1 vwCl ([(q6, .inl (G.2.1, m9 - x1 + x0, .inl (rsf g x0 x1 (i + 1))))] ++ va_pl (R ++ L) f) _ := hP
          have hD : va_D A ([(q6, .inl (G.2.1, m9 - x1 + x0, .inl (rsf g x0 x1 (i + 1))))] ++ va_pl (R ++ L) f) := hD
          refine lv_iinc (v := nI (i + 1)) (lv' := [(4, .int (nI (i + 1))), (0, .ref b), (1, .int (nI x0)), (2, .int (nI x1)), (3, .ref q6)]) hx hb dX5_rest_54 hl (k := 4) rfl ((nI_succ i).symm) (by decide) rfl (fun ls hl => ?_)
          refine lv_goto (tgt := 12) hx hb dX5_rest_57 (by decide) ?_
          exact ih (i + 1) (by show m9 - (i + 1) < m9 - i; omega) (by show (i + 1) ≤ m9; omega) _ _ _ hP hD hS (lv_sub (l' := [(0, .ref b), (1, .int (nI x0)), (2, .int (nI x1)), (3, .ref q6), (4, .int (nI (i + 1)))]) hl [1, 2, 3, 4, 0] rfl)

set_option maxHeartbeats 4000000 in
set_option maxRecDepth 100000 in
theorem c_X5_bits (l : Launch) (G : cG) (gr : ClassId) (sa : Nat → Nat) (R L : List Nat) (f : Nat → va_E) (b d : Nat) (hd : d < 2 ^ 24) (hib : dI G L f b d) : pMI l G gr sa yX5_bits wsX5_bits ({ frames := 0, cells := 0, slots := 0, locals := 0 }) [.ref b] (([] : va_W) ++ va_pl (R ++ L) f) (fun (r_ : Int32) (_ : Unit) => r_ = nI d) (fun (u : Unit) => (([] : va_W) ++ va_pl (R ++ L) f)) := by
  refine ps_I (own := RX5) (cc := cX5_bits) (maxL := 6) (ret := (some .int)) (by decide) rfl rfl (Nat.le_of_ble_eq_true rfl) ?_
  intro p e s m below meth c A hZ hN hQ hx hb hr hml hts hown hlocks hinit hA hK hP hD hS ls hl
  have hl : lv_has ls 6 [(0, .ref b)] := hl
  have hc1 := cnt_le d 24
  refine lv_iconst (v := nI 0) hx hb dX5_bits_0 (by decide +kernel) ?_
  refine lv_istore_n (lv' := [(1, .int (nI 0)), (0, .ref b)]) hx hb dX5_bits_1 rfl hl (by decide) rfl (fun ls hl => ?_)
  have e8 : nI 0 = nI (prt d 0 0 24) := congrArg nI (prt_00 d).symm
  have hl : lv_has ls 6 [(1, .int (nI (prt d 0 0 24))), (0, .ref b)] := by rw [← e8]; exact hl
  refine lv_aload_n hx hb dX5_bits_2 rfl (lv_at hl 1 rfl) ?_
  refine lv_astore_n (lv' := [(2, .ref b), (1, .int (nI (prt d 0 0 24))), (0, .ref b)]) hx hb dX5_bits_3 rfl hl (by decide) rfl (fun ls hl => ?_)
  refine lv_aload_n hx hb dX5_bits_4 rfl (lv_at hl 0 rfl) ?_
  refine p_ilen hx hb hK hP (hib.l R) dX5_bits_5 ?_
  refine lv_istore_n (lv' := [(3, .int (nI (cnt d 24))), (2, .ref b), (1, .int (nI (prt d 0 0 24))), (0, .ref b)]) hx hb dX5_bits_6 rfl hl (by decide) rfl (fun ls hl => ?_)
  refine lv_iconst (v := nI 0) hx hb dX5_bits_7 (by decide +kernel) ?_
  refine lv_istore (lv' := [(4, .int (nI 0)), (3, .int (nI (cnt d 24))), (2, .ref b), (1, .int (nI (prt d 0 0 24))), (0, .ref b)]) hx hb dX5_bits_8 hl (by decide) rfl (fun ls hl => ?_)
  refine cs_loop (G := G) (nL := 6) (σ := Nat) (fun (i : Nat) => cnt d 24 - i) (fun (i : Nat) => i ≤ cnt d 24) (fun (i : Nat) => (([] : va_W) ++ va_pl (R ++ L) f)) (fun (i : Nat) => [(0, .ref b), (1, .int (nI (prt d 0 i 24))), (2, .ref b), (3, .int (nI (cnt d 24))), (4, .int (nI i))]) ?_ (0) (by show 0 ≤ cnt d 24; omega) hP hD hS (lv_sub (l' := [(0, .ref b), (1, .int (nI (prt d 0 0 24))), (2, .ref b), (3, .int (nI (cnt d 24))), (4, .int (nI 0))]) hl [4, 3, 2, 1, 0] rfl)
  rintro i hinv ih H locs ls hP hD hS hl
  have hP : va_P G.1 vwCl (([] : va_W) ++ va_pl (R ++ L) f) _ := hP
  have hD : va_D A (([] : va_W) ++ va_pl (R ++ L) f) := hD
  have hl : lv_has ls 6 [(0, .ref b), (1, .int (nI (prt d 0 i 24))), (2, .ref b), (3, .int (nI (cnt d 24))), (4, .int (nI i))] := hl
  have hinv : i ≤ cnt d 24 := hinv
  refine lv_iload hx hb dX5_bits_10 (lv_at hl 4 rfl) ?_
  refine lv_iload_n hx hb dX5_bits_12 rfl (lv_at hl 3 rfl) ?_
  refine lv_icmp_ge (tgt := 35) hx hb dX5_bits_13 (by decide) (fun c_13 => ?_) (fun c_13 => ?_)
  · have c_13 := (nI_leI (by omega) (by omega)).mp c_13
    have e7 : i = cnt d 24 := by omega
    rw [e7] at hl
    refine lv_iload_n hx hb dX5_bits_35 rfl (lv_at hl 1 rfl) ?_
    refine W.widen (k := 0) (n := 0) (by first | omega | (dsimp only; omega)) (by first | omega | (dsimp only; omega)) ?_
    exact cs_iret hx hb hr hlocks hK hP hD hS (v := nI (prt d 0 (cnt d 24) 24)) () (congrArg nI (prt_full hd)) (rfl) dX5_bits_36
  · have c_13 := mt (nI_leI (by omega) (by omega)).mpr c_13
    have hpl := (plc_ok (d := d) (j := i) (by omega)).1
    refine lv_aload_n hx hb dX5_bits_16 rfl (lv_at hl 2 rfl) ?_
    refine lv_iload hx hb dX5_bits_17 (lv_at hl 4 rfl) ?_
    refine p_iald hx hb hK hP (hib.l R) (j := i) (v := nI (plc d i)) rfl (by omega) (by omega) (rfl) dX5_bits_19 ?_
    refine lv_istore (lv' := [(5, .int (nI (plc d i))), (0, .ref b), (1, .int (nI (prt d 0 i 24))), (2, .ref b), (3, .int (nI (cnt d 24))), (4, .int (nI i))]) hx hb dX5_bits_20 hl (by decide) rfl (fun ls hl => ?_)
    refine lv_iload_n hx hb dX5_bits_22 rfl (lv_at hl 2 rfl) ?_
    refine lv_iconst (v := nI 1) hx hb dX5_bits_23 (by decide +kernel) ?_
    refine lv_iload hx hb dX5_bits_24 (lv_at hl 0 rfl) ?_
    refine lv_ishl hx hb dX5_bits_26 ?_
    refine cs_i (y := nI (2 ^ (plc d i))) (nI_one_shl (by omega)) ?_
    refine lv_iadd hx hb dX5_bits_27 ?_
    refine cs_i (y := nI (prt d 0 (i + 1) 24)) ((nI_add _ _).trans (congrArg nI (prt_next (by omega)).symm)) ?_
    refine lv_istore_n (lv' := [(1, .int (nI (prt d 0 (i + 1) 24))), (5, .int (nI (plc d i))), (0, .ref b), (2, .ref b), (3, .int (nI (cnt d 24))), (4, .int (nI i))]) hx hb dX5_bits_28 rfl hl (by decide) rfl (fun ls hl => ?_)
    refine lv_iinc (v := nI (i + 1)) (lv' := [(4, .int (nI (i + 1))), (1, .int (nI (prt d 0 (i + 1) 24))), (5, .int (nI (plc d i))), (0, .ref b), (2, .ref b), (3, .int (nI (cnt d 24)))]) hx hb dX5_bits_29 hl (k := 5) rfl ((nI_succ i).symm) (by decide) rfl (fun ls hl => ?_)
    refine lv_goto (tgt := 10) hx hb dX5_bits_32 (by decide) ?_
    exact ih (i + 1) (by show cnt d 24 - (i + 1) < cnt d 24 - i; omega) (by show (i + 1) ≤ cnt d 24; omega) _ _ _ hP hD hS (lv_sub (l' := [(0, .ref b), (1, .int (nI (prt d 0 (i + 1) 24))), (2, .ref b), (3, .int (nI (cnt d 24))), (4, .int (nI (i + 1)))]) hl [3, 1, 4, 5, 0] rfl)

set_option maxRecDepth 100000 in
theorem in5_X5_needs : ∀ w ∈ wsX50, w ∈ wsX5_needs := by decide +kernel
set_option maxHeartbeats 4000000 in
set_option maxRecDepth 100000 in
theorem c_X5_needs (l : Launch) (G : cG) (gr : ClassId) (sa : Nat → Nat) (R L : List Nat) (f : Nat → va_E) (z ak ar al alk ast asn amd td aa : Nat) (n rc : Nat) (k ne sp : Nat → Nat) (hn : n ≤ 24) (hk : ∀ j, j < n → k j < 16) (hrc : rc ≤ 6) (hne : ∀ j, j < 6 → ne j < 65536) (hsp : ∀ j, j < 6 → sp j < 65536) (hdj : ∀ j, j < 6 → ne j &&& sp j = 0) (hsim : simK G gr R L f ak ar n k rc ne sp) (r : Nat) (w9 : Int32) (bb : Nat → Bool) (hr9 : r < rc) (hbb : ∀ j, j < 16 → (rwv (ne r) (sp r) j = w9 ↔ bb j = true)) : pMI l G gr sa yX5_needs wsX5_needs ({ frames := 0, cells := 0, slots := 0, locals := 0 }) [.ref z, .int (nI r), .int w9] ([(z, .inr (5, [.ref ak, .ref ar, .ref al, .ref alk, .int (nI td), .ref ast, .int (nI aa), .ref asn, .ref amd]))] ++ va_pl (R ++ L) f) (fun (r_ : Int32) (_ : Unit) => r_ = nI (nsm bb 16)) (fun (u : Unit) => ([(z, .inr (5, [.ref ak, .ref ar, .ref al, .ref alk, .int (nI td), .ref ast, .int (nI aa), .ref asn, .ref amd]))] ++ va_pl (R ++ L) f)) := by
  refine ps_I (own := RX5) (cc := cX5_needs) (maxL := 5) (ret := (some .int)) (by decide) rfl rfl (Nat.le_of_ble_eq_true rfl) ?_
  intro p e s m below meth c A hZ hN hQ hx hb hr hml hts hown hlocks hinit hA hK hP hD hS ls hl
  have hin5 := in5_X5_needs
  have hl : lv_has ls 5 [(0, .ref z), (1, .int (nI r)), (2, .int w9)] := hl
  have hsim0 := hsim
  obtain ⟨hkI, hRl, hrR, hrI⟩ := hsim0
  have hrr := hrI r hr9
  refine lv_iconst (v := nI 0) hx hb dX5_needs_0 (by decide +kernel) ?_
  refine lv_istore_n (lv' := [(3, .int (nI 0)), (0, .ref z), (1, .int (nI r)), (2, .int w9)]) hx hb dX5_needs_1 rfl hl (by decide) rfl (fun ls hl => ?_)
  have e8 : nI 0 = nI (nsm bb 0) := rfl
  have hl : lv_has ls 5 [(3, .int (nI (nsm bb 0))), (0, .ref z), (1, .int (nI r)), (2, .int w9)] := by rw [← e8]; exact hl
  refine lv_iconst (v := nI 0) hx hb dX5_needs_2 (by decide +kernel) ?_
  refine lv_istore (lv' := [(4, .int (nI 0)), (3, .int (nI (nsm bb 0))), (0, .ref z), (1, .int (nI r)), (2, .int w9)]) hx hb dX5_needs_3 hl (by decide) rfl (fun ls hl => ?_)
  refine cs_loop (G := G) (nL := 5) (σ := Nat) (fun (i : Nat) => 16 - i) (fun (i : Nat) => i ≤ 16) (fun (i : Nat) => ([(z, .inr (5, [.ref ak, .ref ar, .ref al, .ref alk, .int (nI td), .ref ast, .int (nI aa), .ref asn, .ref amd]))] ++ va_pl (R ++ L) f)) (fun (i : Nat) => [(0, .ref z), (1, .int (nI r)), (2, .int w9), (3, .int (nI (nsm bb i))), (4, .int (nI i))]) ?_ (0) (by show 0 ≤ 16; omega) hP hD hS (lv_sub (l' := [(0, .ref z), (1, .int (nI r)), (2, .int w9), (3, .int (nI (nsm bb 0))), (4, .int (nI 0))]) hl [2, 3, 4, 1, 0] rfl)
  rintro i hinv ih H locs ls hP hD hS hl
  have hP : va_P G.1 vwCl ([(z, .inr (5, [.ref ak, .ref ar, .ref al, .ref alk, .int (nI td), .ref ast, .int (nI aa), .ref asn, .ref amd]))] ++ va_pl (R ++ L) f) _ := hP
  have hD : va_D A ([(z, .inr (5, [.ref ak, .ref ar, .ref al, .ref alk, .int (nI td), .ref ast, .int (nI aa), .ref asn, .ref amd]))] ++ va_pl (R ++ L) f) := hD
  have hl : lv_has ls 5 [(0, .ref z), (1, .int (nI r)), (2, .int w9), (3, .int (nI (nsm bb i))), (4, .int (nI i))] := hl
  have hinv : i ≤ 16 := hinv
  refine lv_iload hx hb dX5_needs_5 (lv_at hl 4 rfl) ?_
  refine lv_bipush (v := nI 16) hx hb dX5_needs_7 (by decide +kernel) ?_
  refine lv_icmp_ge (tgt := 42) hx hb dX5_needs_9 (by decide) (fun c_9 => ?_) (fun c_9 => ?_)
  · have c_9 := (nI_leI (by omega) (by omega)).mp c_9
    have e7 : i = 16 := by omega
    subst e7
    refine lv_iload_n hx hb dX5_needs_42 rfl (lv_at hl 3 rfl) ?_
    refine W.widen (k := 0) (n := 0) (by first | omega | (dsimp only; omega)) (by first | omega | (dsimp only; omega)) ?_
    exact cs_iret hx hb hr hlocks hK hP hD hS (v := nI (nsm bb 16)) () (rfl) (rfl) dX5_needs_43
  · have c_9 := mt (nI_leI (by omega) (by omega)).mpr c_9
    refine lv_iload_n hx hb dX5_needs_12 rfl (lv_at hl 3 rfl) ?_
    refine lv_aload_n hx hb dX5_needs_13 rfl (lv_at hl 0 rfl) ?_
    refine va_get (D := G.1) (ci := 5) (v := .ref ar) (C := RX5) (T := TX5) (N := 9) hx hb hts hin5 hown hK hP 0 rfl rfl 1 (by decide) (hts (.fieldLink RX5 14 "FaultShrinkerLaw$Sim" "rules" "[[I") (List.mem_of_getElem? (i := 1) rfl)) (fun _ h9 => h9) rfl dX5_needs_14 ?_
    refine lv_iload_n hx hb dX5_needs_17 rfl (lv_at hl 1 rfl) ?_
    refine p_aald hx hb hQ hP (hrR.l R) (j := r) (v := R.getD r 0) rfl (by omega) (by omega) rfl dX5_needs_18 ?_
    refine lv_iload hx hb dX5_needs_19 (lv_at hl 4 rfl) ?_
    refine p_iald hx hb hK hP (hrr.r L) (j := i) (v := rwv (ne r) (sp r) i) rfl (by omega) (by omega) (rfl) dX5_needs_21 ?_
    refine lv_iload_n hx hb dX5_needs_22 rfl (lv_at hl 2 rfl) ?_
    refine lv_icmp_ne (tgt := 33) hx hb dX5_needs_23 (by decide) (fun c_23 => ?_) (fun c_23 => ?_)
    · have c_23 : bb i = false := by cases h9 : bb i <;> first | rfl | exact absurd ((hbb i (by omega)).mpr h9) c_23
      refine lv_iconst (v := nI 0) hx hb dX5_needs_33 (by decide +kernel) ?_
      refine lv_iadd hx hb dX5_needs_34 ?_
      refine cs_i (y := nI (nsm bb (i + 1))) ((nI_add _ _).trans (congrArg nI (by show _ = nsm bb i + (if bb i then 2 ^ i else 0); rw [c_23]; rfl))) ?_
      refine lv_istore_n (lv' := [(3, .int (nI (nsm bb (i + 1)))), (0, .ref z), (1, .int (nI r)), (2, .int w9), (4, .int (nI i))]) hx hb dX5_needs_35 rfl hl (by decide) rfl (fun ls hl => ?_)
      refine lv_iinc (v := nI (i + 1)) (lv' := [(4, .int (nI (i + 1))), (3, .int (nI (nsm bb (i + 1)))), (0, .ref z), (1, .int (nI r)), (2, .int w9)]) hx hb dX5_needs_36 hl (k := 4) rfl ((nI_succ i).symm) (by decide) rfl (fun ls hl => ?_)
      refine lv_goto (tgt := 5) hx hb dX5_needs_39 (by decide) ?_
      exact ih (i + 1) (by show 16 - (i + 1) < 16 - i; omega) (by show (i + 1) ≤ 16; omega) _ _ _ hP hD hS (lv_sub (l' := [(0, .ref z), (1, .int (nI r)), (2, .int w9), (3, .int (nI (nsm bb (i + 1)))), (4, .int (nI (i + 1)))]) hl [2, 3, 4, 1, 0] rfl)
    · have c_23 : bb i = true := (hbb i (by omega)).mp c_23
      refine lv_iconst (v := nI 1) hx hb dX5_needs_26 (by decide +kernel) ?_
      refine lv_iload hx hb dX5_needs_27 (lv_at hl 4 rfl) ?_
      refine lv_ishl hx hb dX5_needs_29 ?_
      refine cs_i (y := nI (2 ^ i)) (nI_one_shl (by omega)) ?_
      refine lv_goto (tgt := 34) hx hb dX5_needs_30 (by decide) ?_
      refine lv_iadd hx hb dX5_needs_34 ?_
      refine cs_i (y := nI (nsm bb (i + 1))) ((nI_add _ _).trans (congrArg nI (by show _ = nsm bb i + (if bb i then 2 ^ i else 0); rw [c_23]; rfl))) ?_
      refine lv_istore_n (lv' := [(3, .int (nI (nsm bb (i + 1)))), (0, .ref z), (1, .int (nI r)), (2, .int w9), (4, .int (nI i))]) hx hb dX5_needs_35 rfl hl (by decide) rfl (fun ls hl => ?_)
      refine lv_iinc (v := nI (i + 1)) (lv' := [(4, .int (nI (i + 1))), (3, .int (nI (nsm bb (i + 1)))), (0, .ref z), (1, .int (nI r)), (2, .int w9)]) hx hb dX5_needs_36 hl (k := 4) rfl ((nI_succ i).symm) (by decide) rfl (fun ls hl => ?_)
      refine lv_goto (tgt := 5) hx hb dX5_needs_39 (by decide) ?_
      exact ih (i + 1) (by show 16 - (i + 1) < 16 - i; omega) (by show (i + 1) ≤ 16; omega) _ _ _ hP hD hS (lv_sub (l' := [(0, .ref z), (1, .int (nI r)), (2, .int w9), (3, .int (nI (nsm bb (i + 1)))), (4, .int (nI (i + 1)))]) hl [2, 3, 4, 1, 0] rfl)
