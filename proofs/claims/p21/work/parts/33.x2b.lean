set_option maxRecDepth 100000 in
theorem in2_X2_makeStep : ∀ w ∈ wsX20, w ∈ wsX2_makeStep := by decide +kernel
set_option maxHeartbeats 4000000 in
set_option maxRecDepth 100000 in
theorem c_X2_makeStep (l : Launch) (G : cG) (q fa fp dd pp st ts : Nat) (fx : Nat → Int32) (g : Nat → Nat) (t kn sn : Nat) (T : Nat → Int64) (K : List Nat) (a ka n : Nat) (k : Nat → Nat) (b nb sb rc : Nat) (ne sp : Nat → Nat) (hn : n ≤ 24) (hk : ∀ j, j < n → k j < 16) (hrc : rc ≤ 6) (hne : ∀ j, j < 6 → ne j < 65536) (hsp : ∀ j, j < 6 → sp j < 65536) (hsn : sn < 2 ^ 36) (gg : Bool) (d2 n2 : Nat) (K2 : List Nat) (F F2 : List Int32) (hI9 : hIn (dd, pp, K, F)) (hF : F.length = 5 * st) (hs128 : st < 128) (hfx : FR fx F) (hg0 : g 0 = 0) (hT : TI T sn K) (hy : hst (spl k ne sp n rc) (dd, pp, K, F) = (gg, (d2, n2, K2, F2))) : cMI l G yX2_makeStep wsX2_makeStep ({ frames := 4, cells := 0, slots := 0, locals := 89 }) [.ref q, .ref t] [(q, .inr (2, [.ref fa, .ref fp, .int (nI dd), .int (nI pp), .int (nI st), .int (nI ts)])), (fa, .inl (G.2.1, 640, .inl fx)), (fp, .inl (G.2.1, 25, .inl (nF g))), (t, .inr (3, [.ref a, .ref b, .ref kn, .long (lN sn), .int (nI K.length)])), (kn, .inl (G.2.2, 4096, .inr (.inl T))), (a, .inr (0, [.ref ka, .int (nI n)])), (ka, .inl (G.2.1, 24, .inl (nF k))), (b, .inr (1, [.ref nb, .ref sb, .int (nI rc)])), (nb, .inl (G.2.1, 6, .inl (nF ne))), (sb, .inl (G.2.1, 6, .inl (nF sp)))] (fun (r_ : Int32) (u9 : (Nat → Int64) × (Nat → Int32) × (Nat → Nat)) => r_ = bI gg ∧ TI u9.1 sn K2 ∧ FR u9.2.1 F2 ∧ u9.2.2 0 = 0) (fun (u9 : (Nat → Int64) × (Nat → Int32) × (Nat → Nat)) => [(q, .inr (2, [.ref fa, .ref fp, .int (nI d2), .int (nI n2), .int (nI (F2.length / 5)), .int (nI ts)])), (fa, .inl (G.2.1, 640, .inl u9.2.1)), (fp, .inl (G.2.1, 25, .inl (nF u9.2.2))), (t, .inr (3, [.ref a, .ref b, .ref kn, .long (lN sn), .int (nI K2.length)])), (kn, .inl (G.2.2, 4096, .inr (.inl u9.1))), (a, .inr (0, [.ref ka, .int (nI n)])), (ka, .inl (G.2.1, 24, .inl (nF k))), (b, .inr (1, [.ref nb, .ref sb, .int (nI rc)])), (nb, .inl (G.2.1, 6, .inl (nF ne))), (sb, .inl (G.2.1, 6, .inl (nF sp)))]) := by
  refine cs_sI (own := RX2) (cc := cX2_makeStep) (maxL := 5) (ret := (some .boolean)) (by decide) rfl rfl (Nat.le_of_ble_eq_true rfl) ?_
  intro p e s m below meth c A hx hb hr hml hts hown hlocks hinit hA hK hP hD hS ls hl
  have hin2 := in2_X2_makeStep
  have hl : lv_has ls 5 [(0, .ref q), (1, .ref t)] := hl
  have hd : dd < 2 ^ 24 := hI9.1
  have h2 : 2 ≤ pp := hI9.2.1
  have hn9 : pp ≤ cnt dd 24 ∨ pp = 2 := hI9.2.2.1
  have hK9 : K.length + hph (cnt dd 24) pp ≤ 1798 := hI9.2.2.2
  have hc24 := cnt_le dd 24
  refine lv_aload_n hx hb dX2_makeStep_0 rfl (lv_at hl 0 rfl) ?_
  refine va_get (D := G.1) (ci := 2) (v := .int (nI dd)) (C := RX2) (T := TX2) (N := 6) hx hb hts hin2 hown hK hP 0 rfl rfl 2 (by decide) (hts (.fieldLink RX2 18 "FaultShrinker$Search" "dish" "I") (List.mem_of_getElem? (i := 1) rfl)) (fun _ h9 => h9) rfl dX2_makeStep_1 ?_
  refine cs_si (As := [.int (nI dd)]) (rest := []) (wr := [(q, .inr (2, [.ref fa, .ref fp, .int (nI dd), .int (nI pp), .int (nI st), .int (nI ts)])), (fa, .inl (G.2.1, 640, .inl fx)), (fp, .inl (G.2.1, 25, .inl (nF g))), (t, .inr (3, [.ref a, .ref b, .ref kn, .long (lN sn), .int (nI K.length)])), (kn, .inl (G.2.2, 4096, .inr (.inl T))), (a, .inr (0, [.ref ka, .int (nI n)])), (ka, .inl (G.2.1, 24, .inl (nF k))), (b, .inr (1, [.ref nb, .ref sb, .int (nI rc)])), (nb, .inl (G.2.1, 6, .inl (nF ne))), (sb, .inl (G.2.1, 6, .inl (nF sp)))]) ⟨hx, hb, hml, hown, hts⟩ hK hP hD hS hA (c_J6_bitCount_0f7a4 l G dd (by first | assumption | omega)) (va_cwS 1 hts gX2_makeStep_J6_bitCount_0f7a4 rfl rfl rfl (by decide +kernel) ⟨Nat.le_of_ble_eq_true rfl, Nat.le_of_ble_eq_true rfl⟩) [] [0, 1, 2, 3, 4, 5, 6, 7, 8, 9] ⟨rfl, rfl, by decide, by decide, by decide⟩ rfl hl.1 rfl (Nat.le_of_ble_eq_true rfl) ⟨Nat.le_of_ble_eq_true rfl, Nat.le_of_ble_eq_true rfl⟩ dX2_makeStep_4 (fun r u H locs hw hP hD hS => ?_)
  have hP : va_P G.1 vwCl [(q, .inr (2, [.ref fa, .ref fp, .int (nI dd), .int (nI pp), .int (nI st), .int (nI ts)])), (fa, .inl (G.2.1, 640, .inl fx)), (fp, .inl (G.2.1, 25, .inl (nF g))), (t, .inr (3, [.ref a, .ref b, .ref kn, .long (lN sn), .int (nI K.length)])), (kn, .inl (G.2.2, 4096, .inr (.inl T))), (a, .inr (0, [.ref ka, .int (nI n)])), (ka, .inl (G.2.1, 24, .inl (nF k))), (b, .inr (1, [.ref nb, .ref sb, .int (nI rc)])), (nb, .inl (G.2.1, 6, .inl (nF ne))), (sb, .inl (G.2.1, 6, .inl (nF sp)))] H := hP.sub [0, 1, 2, 3, 4, 5, 6, 7, 8, 9] rfl
  have hD : va_D A [(q, .inr (2, [.ref fa, .ref fp, .int (nI dd), .int (nI pp), .int (nI st), .int (nI ts)])), (fa, .inl (G.2.1, 640, .inl fx)), (fp, .inl (G.2.1, 25, .inl (nF g))), (t, .inr (3, [.ref a, .ref b, .ref kn, .long (lN sn), .int (nI K.length)])), (kn, .inl (G.2.2, 4096, .inr (.inl T))), (a, .inr (0, [.ref ka, .int (nI n)])), (ka, .inl (G.2.1, 24, .inl (nF k))), (b, .inr (1, [.ref nb, .ref sb, .int (nI rc)])), (nb, .inl (G.2.1, 6, .inl (nF ne))), (sb, .inl (G.2.1, 6, .inl (nF sp)))] := hD.sub [0, 1, 2, 3, 4, 5, 6, 7, 8, 9] (by decide) rfl
  subst hw
  refine lv_istore_n (lv' := [(2, .int (nI (cnt dd 24))), (0, .ref q), (1, .ref t)]) hx hb dX2_makeStep_7 rfl hl (by decide) rfl (fun ls hl => ?_)
  refine lv_iload_n hx hb dX2_makeStep_8 rfl (lv_at hl 0 rfl) ?_
  refine lv_iconst (v := nI 1) hx hb dX2_makeStep_9 (by decide +kernel) ?_
  refine lv_icmp_gt (tgt := 15) hx hb dX2_makeStep_10 (by decide) (fun c_10 => ?_) (fun c_10 => ?_)
  · have c_10 := (nI_ltI (by omega) (by omega)).mp c_10
    refine lv_aload_n hx hb dX2_makeStep_15 rfl (lv_at hl 1 rfl) ?_
    refine cs_vv (As := []) (rest := []) (wr := [(t, .inr (3, [.ref a, .ref b, .ref kn, .long (lN sn), .int (nI K.length)])), (kn, .inl (G.2.2, 4096, .inr (.inl T))), (a, .inr (0, [.ref ka, .int (nI n)])), (ka, .inl (G.2.1, 24, .inl (nF k))), (b, .inr (1, [.ref nb, .ref sb, .int (nI rc)])), (nb, .inl (G.2.1, 6, .inl (nF ne))), (sb, .inl (G.2.1, 6, .inl (nF sp)))]) ⟨hx, hb, hml, hown, hts⟩ hK hP hD hS hA (c_X2_countPlaces l G q fa fp dd pp st ts fx g (by first | assumption | omega) (by first | assumption | omega)) (cwV 0 hts gX2_makeStep_X2_countPlaces rfl rfl rfl (by decide +kernel) ⟨Nat.le_of_ble_eq_true rfl, Nat.le_of_ble_eq_true rfl⟩) [0, 1, 2] [3, 4, 5, 6, 7, 8, 9] ⟨rfl, rfl, by decide, by decide, by decide⟩ 0 2 rfl rfl rfl hl.1 rfl (Nat.le_of_ble_eq_true rfl) ⟨Nat.le_of_ble_eq_true rfl, Nat.le_of_ble_eq_true rfl⟩ dX2_makeStep_16 (fun u_1 H locs hw hP hD hS => ?_)
    obtain ⟨hg0, hg⟩ := hw
    have hP : va_P G.1 vwCl [(q, .inr (2, [.ref fa, .ref fp, .int (nI dd), .int (nI pp), .int (nI st), .int (nI ts)])), (fa, .inl (G.2.1, 640, .inl fx)), (fp, .inl (G.2.1, 25, .inl (nF u_1))), (t, .inr (3, [.ref a, .ref b, .ref kn, .long (lN sn), .int (nI K.length)])), (kn, .inl (G.2.2, 4096, .inr (.inl T))), (a, .inr (0, [.ref ka, .int (nI n)])), (ka, .inl (G.2.1, 24, .inl (nF k))), (b, .inr (1, [.ref nb, .ref sb, .int (nI rc)])), (nb, .inl (G.2.1, 6, .inl (nF ne))), (sb, .inl (G.2.1, 6, .inl (nF sp)))] H := hP.sub [7, 8, 9, 0, 1, 2, 3, 4, 5, 6] rfl
    have hD : va_D A [(q, .inr (2, [.ref fa, .ref fp, .int (nI dd), .int (nI pp), .int (nI st), .int (nI ts)])), (fa, .inl (G.2.1, 640, .inl fx)), (fp, .inl (G.2.1, 25, .inl (nF u_1))), (t, .inr (3, [.ref a, .ref b, .ref kn, .long (lN sn), .int (nI K.length)])), (kn, .inl (G.2.2, 4096, .inr (.inl T))), (a, .inr (0, [.ref ka, .int (nI n)])), (ka, .inl (G.2.1, 24, .inl (nF k))), (b, .inr (1, [.ref nb, .ref sb, .int (nI rc)])), (nb, .inl (G.2.1, 6, .inl (nF ne))), (sb, .inl (G.2.1, 6, .inl (nF sp)))] := hD.sub [7, 8, 9, 0, 1, 2, 3, 4, 5, 6] (by decide) rfl
    refine lv_aload_n hx hb dX2_makeStep_19 rfl (lv_at hl 1 rfl) ?_
    refine lv_aload_n hx hb dX2_makeStep_20 rfl (lv_at hl 2 rfl) ?_
    refine lv_iload_n hx hb dX2_makeStep_21 rfl (lv_at hl 0 rfl) ?_
    obtain ⟨o1, K1, e1⟩ : ∃ o K9, fst1 (spl k ne sp n rc) (pto dd pp) pp 0 K = (o, K9) := ⟨_, _, rfl⟩
    have hL1 := fst1_mn _ _ _ _ _ _ e1
    have hph := hph_num3 (cnt dd 24) (by omega) pp (by omega) h2 (by omega)
    refine cs_vi (As := [.ref t, .int (nI (cnt dd 24))]) (rest := []) (wr := []) ⟨hx, hb, hml, hown, hts⟩ hK hP hD hS hA (c_X2_firstSpoiledPart l G q fa fp dd pp st ts fx u_1 t kn sn T K a ka n k b nb sb rc ne sp (by first | assumption | omega) (by first | assumption | omega) (by first | assumption | omega) (by first | assumption | omega) (by first | assumption | omega) (by first | assumption | omega) o1 K1 (by first | assumption | omega) (by first | assumption | omega) (by first | assumption | omega) (by first | assumption | omega) (by first | assumption | omega) (by first | assumption | omega) (by first | assumption | omega)) (cwV 2 hts gX2_makeStep_X2_firstSpoiledPart rfl rfl rfl (by decide +kernel) ⟨Nat.le_of_ble_eq_true rfl, Nat.le_of_ble_eq_true rfl⟩) [0, 1, 2, 3, 4, 5, 6, 7, 8, 9] [] ⟨rfl, rfl, by decide, by decide, by decide⟩ 0 2 rfl rfl rfl hl.1 rfl (Nat.le_of_ble_eq_true rfl) ⟨Nat.le_of_ble_eq_true rfl, Nat.le_of_ble_eq_true rfl⟩ dX2_makeStep_22 (fun r u_2 H locs hw hP hD hS => ?_)
    obtain ⟨rfl, hT⟩ := hw
    have hP : va_P G.1 vwCl [(q, .inr (2, [.ref fa, .ref fp, .int (nI dd), .int (nI pp), .int (nI st), .int (nI ts)])), (fa, .inl (G.2.1, 640, .inl fx)), (fp, .inl (G.2.1, 25, .inl (nF u_1))), (t, .inr (3, [.ref a, .ref b, .ref kn, .long (lN sn), .int (nI K1.length)])), (kn, .inl (G.2.2, 4096, .inr (.inl u_2))), (a, .inr (0, [.ref ka, .int (nI n)])), (ka, .inl (G.2.1, 24, .inl (nF k))), (b, .inr (1, [.ref nb, .ref sb, .int (nI rc)])), (nb, .inl (G.2.1, 6, .inl (nF ne))), (sb, .inl (G.2.1, 6, .inl (nF sp)))] H := hP.sub [0, 1, 2, 3, 4, 5, 6, 7, 8, 9] rfl
    have hD : va_D A [(q, .inr (2, [.ref fa, .ref fp, .int (nI dd), .int (nI pp), .int (nI st), .int (nI ts)])), (fa, .inl (G.2.1, 640, .inl fx)), (fp, .inl (G.2.1, 25, .inl (nF u_1))), (t, .inr (3, [.ref a, .ref b, .ref kn, .long (lN sn), .int (nI K1.length)])), (kn, .inl (G.2.2, 4096, .inr (.inl u_2))), (a, .inr (0, [.ref ka, .int (nI n)])), (ka, .inl (G.2.1, 24, .inl (nF k))), (b, .inr (1, [.ref nb, .ref sb, .int (nI rc)])), (nb, .inl (G.2.1, 6, .inl (nF ne))), (sb, .inl (G.2.1, 6, .inl (nF sp)))] := hD.sub [0, 1, 2, 3, 4, 5, 6, 7, 8, 9] (by decide) rfl
    rcases o1 with _ | k1
    · refine cs_i (y := (-1)) (rfl) ?_
      refine lv_istore_n (lv' := [(3, .int (-1)), (2, .int (nI (cnt dd 24))), (0, .ref q), (1, .ref t)]) hx hb dX2_makeStep_25 rfl hl (by decide) rfl (fun ls hl => ?_)
      refine lv_iload_n hx hb dX2_makeStep_26 rfl (lv_at hl 0 rfl) ?_
      refine lv_if_lt (tgt := 50) hx hb dX2_makeStep_27 (by decide) (fun c_27 => ?_) (fun c_27 => ?_)
      · refine lv_aload_n hx hb dX2_makeStep_50 rfl (lv_at hl 2 rfl) ?_
        refine va_get (D := G.1) (ci := 2) (v := .int (nI pp)) (C := RX2) (T := TX2) (N := 6) hx hb hts hin2 hown hK hP 0 rfl rfl 3 (by decide) (hts (.fieldLink RX2 53 "FaultShrinker$Search" "parts" "I") (List.mem_of_getElem? (i := 2) rfl)) (fun _ h9 => h9) rfl dX2_makeStep_51 ?_
        refine lv_iconst (v := nI 2) hx hb dX2_makeStep_54 (by decide +kernel) ?_
        refine lv_icmp_le (tgt := 67) hx hb dX2_makeStep_55 (by decide) (fun c_55 => ?_) (fun c_55 => ?_)
        · have c_55 := (nI_leI (by omega) (by omega)).mp c_55
          refine lv_iconst (v := (-1)) hx hb dX2_makeStep_67 (by decide +kernel) ?_
          refine lv_istore (lv' := [(4, .int (-1)), (3, .int (-1)), (2, .int (nI (cnt dd 24))), (0, .ref q), (1, .ref t)]) hx hb dX2_makeStep_68 hl (by decide) rfl (fun ls hl => ?_)
          refine lv_iload hx hb dX2_makeStep_70 (lv_at hl 0 rfl) ?_
          refine lv_if_lt (tgt := 113) hx hb dX2_makeStep_72 (by decide) (fun c_72 => ?_) (fun c_72 => ?_)
          · refine lv_aload_n hx hb dX2_makeStep_113 rfl (lv_at hl 3 rfl) ?_
            refine va_get (D := G.1) (ci := 2) (v := .int (nI pp)) (C := RX2) (T := TX2) (N := 6) hx hb hts hin2 hown hK hP 0 rfl rfl 3 (by decide) (hts (.fieldLink RX2 53 "FaultShrinker$Search" "parts" "I") (List.mem_of_getElem? (i := 2) rfl)) (fun _ h9 => h9) rfl dX2_makeStep_114 ?_
            refine lv_iload_n hx hb dX2_makeStep_117 rfl (lv_at hl 2 rfl) ?_
            refine lv_icmp_ge (tgt := 148) hx hb dX2_makeStep_118 (by decide) (fun c_118 => ?_) (fun c_118 => ?_)
            · have c_118 := (nI_leI (by omega) (by omega)).mp c_118
              refine lv_iconst (v := nI 0) hx hb dX2_makeStep_148 (by decide +kernel) ?_
              have e5 := (by first | exact hst_4a (F := F) (by omega) e1 (by omega) e2 (by omega) | exact hst_4b (F := F) (by omega) e1 (by omega) (by omega) : hst (spl k ne sp n rc) (dd, pp, K, F) = (false, (dd, pp, K1, F)))
              rw [hy] at e5
              have e5 := e5.symm
              simp only [Prod.mk.injEq] at e5
              obtain ⟨g1, g2, g3, g4, g5⟩ := e5
              subst g1
              subst g2
              subst g3
              subst g4
              subst g5
              have e9 : nI st = nI (F.length / 5) := by rw [hF]; exact congrArg nI (by omega)
              rw [e9] at hP hD
              have hP : va_P G.1 vwCl [(q, .inr (2, [.ref fa, .ref fp, .int (nI dd), .int (nI pp), .int (nI (F.length / 5)), .int (nI ts)])), (fa, .inl (G.2.1, 640, .inl fx)), (fp, .inl (G.2.1, 25, .inl (nF u_1))), (t, .inr (3, [.ref a, .ref b, .ref kn, .long (lN sn), .int (nI K1.length)])), (kn, .inl (G.2.2, 4096, .inr (.inl u_2))), (a, .inr (0, [.ref ka, .int (nI n)])), (ka, .inl (G.2.1, 24, .inl (nF k))), (b, .inr (1, [.ref nb, .ref sb, .int (nI rc)])), (nb, .inl (G.2.1, 6, .inl (nF ne))), (sb, .inl (G.2.1, 6, .inl (nF sp)))] H := hP
              have hD : va_D A [(q, .inr (2, [.ref fa, .ref fp, .int (nI dd), .int (nI pp), .int (nI (F.length / 5)), .int (nI ts)])), (fa, .inl (G.2.1, 640, .inl fx)), (fp, .inl (G.2.1, 25, .inl (nF u_1))), (t, .inr (3, [.ref a, .ref b, .ref kn, .long (lN sn), .int (nI K1.length)])), (kn, .inl (G.2.2, 4096, .inr (.inl u_2))), (a, .inr (0, [.ref ka, .int (nI n)])), (ka, .inl (G.2.1, 24, .inl (nF k))), (b, .inr (1, [.ref nb, .ref sb, .int (nI rc)])), (nb, .inl (G.2.1, 6, .inl (nF ne))), (sb, .inl (G.2.1, 6, .inl (nF sp)))] := hD
              exact cs_zret hx hb hr hlocks hK hP hD hS (v := nI 0) (rfl) (u_2, fx, u_1) (⟨rfl, hT, hfx, hg0⟩) rfl dX2_makeStep_149
            · have c_118 := mt (nI_leI (by omega) (by omega)).mpr c_118
              refine lv_aload_n hx hb dX2_makeStep_121 rfl (lv_at hl 3 rfl) ?_
              refine lv_iload_n hx hb dX2_makeStep_122 rfl (lv_at hl 2 rfl) ?_
              refine lv_iconst (v := nI 3) hx hb dX2_makeStep_123 (by decide +kernel) ?_
              refine lv_iconst (v := (-1)) hx hb dX2_makeStep_124 (by decide +kernel) ?_
              refine lv_aload_n hx hb dX2_makeStep_125 rfl (lv_at hl 3 rfl) ?_
              refine va_get (D := G.1) (ci := 2) (v := .int (nI dd)) (C := RX2) (T := TX2) (N := 6) hx hb hts hin2 hown hK hP 0 rfl rfl 2 (by decide) (hts (.fieldLink RX2 18 "FaultShrinker$Search" "dish" "I") (List.mem_of_getElem? (i := 1) rfl)) (fun _ h9 => h9) rfl dX2_makeStep_126 ?_
              refine cs_vv (As := [.int (nI (cnt dd 24)), .int (nI 3), .int (-1), .int (nI dd)]) (rest := []) (wr := [(t, .inr (3, [.ref a, .ref b, .ref kn, .long (lN sn), .int (nI K1.length)])), (kn, .inl (G.2.2, 4096, .inr (.inl u_2))), (a, .inr (0, [.ref ka, .int (nI n)])), (ka, .inl (G.2.1, 24, .inl (nF k))), (b, .inr (1, [.ref nb, .ref sb, .int (nI rc)])), (nb, .inl (G.2.1, 6, .inl (nF ne))), (sb, .inl (G.2.1, 6, .inl (nF sp)))]) ⟨hx, hb, hml, hown, hts⟩ hK hP hD hS hA (c_X2_note l G q fa fp dd pp st ts fx u_1 (cnt dd 24) 3 (-1) dd F (by first | assumption | omega) (by first | assumption | omega) (by first | assumption | omega)) (cwV 4 hts gX2_makeStep_X2_note rfl rfl rfl (by decide +kernel) ⟨Nat.le_of_ble_eq_true rfl, Nat.le_of_ble_eq_true rfl⟩) [0, 1, 2] [3, 4, 5, 6, 7, 8, 9] ⟨rfl, rfl, by decide, by decide, by decide⟩ 0 2 rfl rfl rfl hl.1 rfl (Nat.le_of_ble_eq_true rfl) ⟨Nat.le_of_ble_eq_true rfl, Nat.le_of_ble_eq_true rfl⟩ dX2_makeStep_129 (fun u_3 H locs hw hP hD hS => ?_)
              have hfx := hw
              have hP : va_P G.1 vwCl [(q, .inr (2, [.ref fa, .ref fp, .int (nI dd), .int (nI pp), .int (nI (st + 1)), .int (nI ts)])), (fa, .inl (G.2.1, 640, .inl u_3)), (fp, .inl (G.2.1, 25, .inl (nF u_1))), (t, .inr (3, [.ref a, .ref b, .ref kn, .long (lN sn), .int (nI K1.length)])), (kn, .inl (G.2.2, 4096, .inr (.inl u_2))), (a, .inr (0, [.ref ka, .int (nI n)])), (ka, .inl (G.2.1, 24, .inl (nF k))), (b, .inr (1, [.ref nb, .ref sb, .int (nI rc)])), (nb, .inl (G.2.1, 6, .inl (nF ne))), (sb, .inl (G.2.1, 6, .inl (nF sp)))] H := hP.sub [7, 8, 9, 0, 1, 2, 3, 4, 5, 6] rfl
              have hD : va_D A [(q, .inr (2, [.ref fa, .ref fp, .int (nI dd), .int (nI pp), .int (nI (st + 1)), .int (nI ts)])), (fa, .inl (G.2.1, 640, .inl u_3)), (fp, .inl (G.2.1, 25, .inl (nF u_1))), (t, .inr (3, [.ref a, .ref b, .ref kn, .long (lN sn), .int (nI K1.length)])), (kn, .inl (G.2.2, 4096, .inr (.inl u_2))), (a, .inr (0, [.ref ka, .int (nI n)])), (ka, .inl (G.2.1, 24, .inl (nF k))), (b, .inr (1, [.ref nb, .ref sb, .int (nI rc)])), (nb, .inl (G.2.1, 6, .inl (nF ne))), (sb, .inl (G.2.1, 6, .inl (nF sp)))] := hD.sub [7, 8, 9, 0, 1, 2, 3, 4, 5, 6] (by decide) rfl
              refine lv_aload_n hx hb dX2_makeStep_132 rfl (lv_at hl 3 rfl) ?_
              refine lv_aload_n hx hb dX2_makeStep_133 rfl (lv_at hl 3 rfl) ?_
              refine va_get (D := G.1) (ci := 2) (v := .int (nI pp)) (C := RX2) (T := TX2) (N := 6) hx hb hts hin2 hown hK hP 0 rfl rfl 3 (by decide) (hts (.fieldLink RX2 53 "FaultShrinker$Search" "parts" "I") (List.mem_of_getElem? (i := 2) rfl)) (fun _ h9 => h9) rfl dX2_makeStep_134 ?_
              refine lv_iconst (v := nI 2) hx hb dX2_makeStep_137 (by decide +kernel) ?_
              refine lv_imul hx hb dX2_makeStep_138 ?_
              refine cs_i (y := nI (pp * 2)) (pk_mul _ _) ?_
              refine lv_iload_n hx hb dX2_makeStep_139 rfl (lv_at hl 2 rfl) ?_
              refine va_mmin hx hb (by rw [hml]; exact hl.1.symm) hown (hts (.methodLink RX2 79 Lib.Math.min.name) (List.mem_of_getElem? (i := 7) rfl)) (hts (.static Lib.Math.min.name) (List.mem_of_getElem? (i := 8) rfl)) (hts (.initialized "java/lang/Math") (List.mem_of_getElem? (i := 5) rfl)) (hts (.code Lib.Math.min.name Lib.Math.min.code 2 (some .int)) (List.mem_of_getElem? (i := 9) rfl)) (Nat.le_of_ble_eq_true rfl) (Nat.le_of_ble_eq_true rfl) (Nat.zero_le _) (Nat.zero_le _) dX2_makeStep_140 ?_
              refine cs_i (y := nI (min (pp * 2) (cnt dd 24))) (nI_min (by omega) (by omega)) ?_
              refine va_put (D := G.1) (ci := 2) (v := .int (nI (min (pp * 2) (cnt dd 24)))) (ty := .int) (C := RX2) (T := TX2) (N := 6) hx hb hts hin2 tyX2 tyX2_ok nmX2 hown hK hP hD hS 0 rfl rfl 3 (by decide) (hts (.fieldLink RX2 53 "FaultShrinker$Search" "parts" "I") (List.mem_of_getElem? (i := 2) rfl)) (fun _ h9 => h9) rfl (by decide +kernel) rfl rfl (Nat.le_of_ble_eq_true rfl) dX2_makeStep_143 (fun H locs hP hD hS => ?_)
              have hP : va_P G.1 vwCl [(q, .inr (2, [.ref fa, .ref fp, .int (nI dd), .int (nI (min (pp * 2) (cnt dd 24))), .int (nI (st + 1)), .int (nI ts)])), (fa, .inl (G.2.1, 640, .inl u_3)), (fp, .inl (G.2.1, 25, .inl (nF u_1))), (t, .inr (3, [.ref a, .ref b, .ref kn, .long (lN sn), .int (nI K1.length)])), (kn, .inl (G.2.2, 4096, .inr (.inl u_2))), (a, .inr (0, [.ref ka, .int (nI n)])), (ka, .inl (G.2.1, 24, .inl (nF k))), (b, .inr (1, [.ref nb, .ref sb, .int (nI rc)])), (nb, .inl (G.2.1, 6, .inl (nF ne))), (sb, .inl (G.2.1, 6, .inl (nF sp)))] H := hP
              have hD : va_D A [(q, .inr (2, [.ref fa, .ref fp, .int (nI dd), .int (nI (min (pp * 2) (cnt dd 24))), .int (nI (st + 1)), .int (nI ts)])), (fa, .inl (G.2.1, 640, .inl u_3)), (fp, .inl (G.2.1, 25, .inl (nF u_1))), (t, .inr (3, [.ref a, .ref b, .ref kn, .long (lN sn), .int (nI K1.length)])), (kn, .inl (G.2.2, 4096, .inr (.inl u_2))), (a, .inr (0, [.ref ka, .int (nI n)])), (ka, .inl (G.2.1, 24, .inl (nF k))), (b, .inr (1, [.ref nb, .ref sb, .int (nI rc)])), (nb, .inl (G.2.1, 6, .inl (nF ne))), (sb, .inl (G.2.1, 6, .inl (nF sp)))] := hD
              refine lv_iconst (v := nI 1) hx hb dX2_makeStep_146 (by decide +kernel) ?_
              have e5 := (by first | exact hst_3a (F := F) (by omega) e1 (by omega) e2 (by omega) | exact hst_3b (F := F) (by omega) e1 (by omega) (by omega) : hst (spl k ne sp n rc) (dd, pp, K, F) = (true, (dd, min (pp * 2) (cnt dd 24), K1, F ++ [nI (cnt dd 24), nI pp, nI 3, -1, nI dd])))
              rw [hy] at e5
              have e5 := e5.symm
              simp only [Prod.mk.injEq] at e5
              obtain ⟨g1, g2, g3, g4, g5⟩ := e5
              subst g1
              subst g2
              subst g3
              subst g4
              subst g5
              have e9 : nI (st + 1) = nI ((F ++ [nI (cnt dd 24), nI pp, nI 3, -1, nI dd]).length / 5) := by rw [List.length_append, hF]; exact congrArg nI (by show st + 1 = (5 * st + 5) / 5; omega)
              rw [e9] at hP hD
              have hP : va_P G.1 vwCl [(q, .inr (2, [.ref fa, .ref fp, .int (nI dd), .int (nI (min (pp * 2) (cnt dd 24))), .int (nI ((F ++ [nI (cnt dd 24), nI pp, nI 3, -1, nI dd]).length / 5)), .int (nI ts)])), (fa, .inl (G.2.1, 640, .inl u_3)), (fp, .inl (G.2.1, 25, .inl (nF u_1))), (t, .inr (3, [.ref a, .ref b, .ref kn, .long (lN sn), .int (nI K1.length)])), (kn, .inl (G.2.2, 4096, .inr (.inl u_2))), (a, .inr (0, [.ref ka, .int (nI n)])), (ka, .inl (G.2.1, 24, .inl (nF k))), (b, .inr (1, [.ref nb, .ref sb, .int (nI rc)])), (nb, .inl (G.2.1, 6, .inl (nF ne))), (sb, .inl (G.2.1, 6, .inl (nF sp)))] H := hP
              have hD : va_D A [(q, .inr (2, [.ref fa, .ref fp, .int (nI dd), .int (nI (min (pp * 2) (cnt dd 24))), .int (nI ((F ++ [nI (cnt dd 24), nI pp, nI 3, -1, nI dd]).length / 5)), .int (nI ts)])), (fa, .inl (G.2.1, 640, .inl u_3)), (fp, .inl (G.2.1, 25, .inl (nF u_1))), (t, .inr (3, [.ref a, .ref b, .ref kn, .long (lN sn), .int (nI K1.length)])), (kn, .inl (G.2.2, 4096, .inr (.inl u_2))), (a, .inr (0, [.ref ka, .int (nI n)])), (ka, .inl (G.2.1, 24, .inl (nF k))), (b, .inr (1, [.ref nb, .ref sb, .int (nI rc)])), (nb, .inl (G.2.1, 6, .inl (nF ne))), (sb, .inl (G.2.1, 6, .inl (nF sp)))] := hD
              exact cs_zret hx hb hr hlocks hK hP hD hS (v := nI 1) (rfl) (u_2, u_3, u_1) (⟨rfl, hT, hfx, hg0⟩) rfl dX2_makeStep_147
          · exact absurd (by decide +kernel) c_72
        · have c_55 := mt (nI_leI (by omega) (by omega)).mpr c_55
          refine lv_aload_n hx hb dX2_makeStep_58 rfl (lv_at hl 2 rfl) ?_
          refine lv_aload_n hx hb dX2_makeStep_59 rfl (lv_at hl 3 rfl) ?_
          refine lv_iload_n hx hb dX2_makeStep_60 rfl (lv_at hl 1 rfl) ?_
          obtain ⟨o2, K3, e2⟩ : ∃ o K9, fst1 (spl k ne sp n rc) (fun k9 => nd dd (pto dd pp k9)) pp 0 K1 = (o, K9) := ⟨_, _, rfl⟩
          have hL2 := fst1_mn _ _ _ _ _ _ e2
          refine cs_vi (As := [.ref t, .int (nI (cnt dd 24))]) (rest := []) (wr := []) ⟨hx, hb, hml, hown, hts⟩ hK hP hD hS hA (c_X2_firstSparedPart l G q fa fp dd pp st ts fx u_1 t kn sn u_2 K1 a ka n k b nb sb rc ne sp (by first | assumption | omega) (by first | assumption | omega) (by first | assumption | omega) (by first | assumption | omega) (by first | assumption | omega) (by first | assumption | omega) o2 K3 (by first | assumption | omega) (by first | assumption | omega) (by first | assumption | omega) (by first | assumption | omega) (by first | assumption | omega) (by first | assumption | omega) (by first | assumption | omega)) (cwV 2 hts gX2_makeStep_X2_firstSparedPart rfl rfl rfl (by decide +kernel) ⟨Nat.le_of_ble_eq_true rfl, Nat.le_of_ble_eq_true rfl⟩) [0, 1, 2, 3, 4, 5, 6, 7, 8, 9] [] ⟨rfl, rfl, by decide, by decide, by decide⟩ 0 2 rfl rfl rfl hl.1 rfl (Nat.le_of_ble_eq_true rfl) ⟨Nat.le_of_ble_eq_true rfl, Nat.le_of_ble_eq_true rfl⟩ dX2_makeStep_61 (fun r u_4 H locs hw hP hD hS => ?_)
          obtain ⟨rfl, hT⟩ := hw
          have hP : va_P G.1 vwCl [(q, .inr (2, [.ref fa, .ref fp, .int (nI dd), .int (nI pp), .int (nI st), .int (nI ts)])), (fa, .inl (G.2.1, 640, .inl fx)), (fp, .inl (G.2.1, 25, .inl (nF u_1))), (t, .inr (3, [.ref a, .ref b, .ref kn, .long (lN sn), .int (nI K3.length)])), (kn, .inl (G.2.2, 4096, .inr (.inl u_4))), (a, .inr (0, [.ref ka, .int (nI n)])), (ka, .inl (G.2.1, 24, .inl (nF k))), (b, .inr (1, [.ref nb, .ref sb, .int (nI rc)])), (nb, .inl (G.2.1, 6, .inl (nF ne))), (sb, .inl (G.2.1, 6, .inl (nF sp)))] H := hP.sub [0, 1, 2, 3, 4, 5, 6, 7, 8, 9] rfl
          have hD : va_D A [(q, .inr (2, [.ref fa, .ref fp, .int (nI dd), .int (nI pp), .int (nI st), .int (nI ts)])), (fa, .inl (G.2.1, 640, .inl fx)), (fp, .inl (G.2.1, 25, .inl (nF u_1))), (t, .inr (3, [.ref a, .ref b, .ref kn, .long (lN sn), .int (nI K3.length)])), (kn, .inl (G.2.2, 4096, .inr (.inl u_4))), (a, .inr (0, [.ref ka, .int (nI n)])), (ka, .inl (G.2.1, 24, .inl (nF k))), (b, .inr (1, [.ref nb, .ref sb, .int (nI rc)])), (nb, .inl (G.2.1, 6, .inl (nF ne))), (sb, .inl (G.2.1, 6, .inl (nF sp)))] := hD.sub [0, 1, 2, 3, 4, 5, 6, 7, 8, 9] (by decide) rfl
          rcases o2 with _ | k2
          · refine cs_i (y := (-1)) (rfl) ?_
            refine lv_goto (tgt := 68) hx hb dX2_makeStep_64 (by decide) ?_
            refine lv_istore (lv' := [(4, .int (-1)), (3, .int (-1)), (2, .int (nI (cnt dd 24))), (0, .ref q), (1, .ref t)]) hx hb dX2_makeStep_68 hl (by decide) rfl (fun ls hl => ?_)
            refine lv_iload hx hb dX2_makeStep_70 (lv_at hl 0 rfl) ?_
            refine lv_if_lt (tgt := 113) hx hb dX2_makeStep_72 (by decide) (fun c_72 => ?_) (fun c_72 => ?_)
            · refine lv_aload_n hx hb dX2_makeStep_113 rfl (lv_at hl 3 rfl) ?_
              refine va_get (D := G.1) (ci := 2) (v := .int (nI pp)) (C := RX2) (T := TX2) (N := 6) hx hb hts hin2 hown hK hP 0 rfl rfl 3 (by decide) (hts (.fieldLink RX2 53 "FaultShrinker$Search" "parts" "I") (List.mem_of_getElem? (i := 2) rfl)) (fun _ h9 => h9) rfl dX2_makeStep_114 ?_
              refine lv_iload_n hx hb dX2_makeStep_117 rfl (lv_at hl 2 rfl) ?_
              refine lv_icmp_ge (tgt := 148) hx hb dX2_makeStep_118 (by decide) (fun c_118 => ?_) (fun c_118 => ?_)
              · have c_118 := (nI_leI (by omega) (by omega)).mp c_118
                refine lv_iconst (v := nI 0) hx hb dX2_makeStep_148 (by decide +kernel) ?_
                have e5 := (by first | exact hst_4a (F := F) (by omega) e1 (by omega) e2 (by omega) | exact hst_4b (F := F) (by omega) e1 (by omega) (by omega) : hst (spl k ne sp n rc) (dd, pp, K, F) = (false, (dd, pp, K3, F)))
                rw [hy] at e5
                have e5 := e5.symm
                simp only [Prod.mk.injEq] at e5
                obtain ⟨g1, g2, g3, g4, g5⟩ := e5
                subst g1
                subst g2
                subst g3
                subst g4
                subst g5
                have e9 : nI st = nI (F.length / 5) := by rw [hF]; exact congrArg nI (by omega)
                rw [e9] at hP hD
                have hP : va_P G.1 vwCl [(q, .inr (2, [.ref fa, .ref fp, .int (nI dd), .int (nI pp), .int (nI (F.length / 5)), .int (nI ts)])), (fa, .inl (G.2.1, 640, .inl fx)), (fp, .inl (G.2.1, 25, .inl (nF u_1))), (t, .inr (3, [.ref a, .ref b, .ref kn, .long (lN sn), .int (nI K3.length)])), (kn, .inl (G.2.2, 4096, .inr (.inl u_4))), (a, .inr (0, [.ref ka, .int (nI n)])), (ka, .inl (G.2.1, 24, .inl (nF k))), (b, .inr (1, [.ref nb, .ref sb, .int (nI rc)])), (nb, .inl (G.2.1, 6, .inl (nF ne))), (sb, .inl (G.2.1, 6, .inl (nF sp)))] H := hP
                have hD : va_D A [(q, .inr (2, [.ref fa, .ref fp, .int (nI dd), .int (nI pp), .int (nI (F.length / 5)), .int (nI ts)])), (fa, .inl (G.2.1, 640, .inl fx)), (fp, .inl (G.2.1, 25, .inl (nF u_1))), (t, .inr (3, [.ref a, .ref b, .ref kn, .long (lN sn), .int (nI K3.length)])), (kn, .inl (G.2.2, 4096, .inr (.inl u_4))), (a, .inr (0, [.ref ka, .int (nI n)])), (ka, .inl (G.2.1, 24, .inl (nF k))), (b, .inr (1, [.ref nb, .ref sb, .int (nI rc)])), (nb, .inl (G.2.1, 6, .inl (nF ne))), (sb, .inl (G.2.1, 6, .inl (nF sp)))] := hD
                exact cs_zret hx hb hr hlocks hK hP hD hS (v := nI 0) (rfl) (u_4, fx, u_1) (⟨rfl, hT, hfx, hg0⟩) rfl dX2_makeStep_149
              · have c_118 := mt (nI_leI (by omega) (by omega)).mpr c_118
                refine lv_aload_n hx hb dX2_makeStep_121 rfl (lv_at hl 3 rfl) ?_
                refine lv_iload_n hx hb dX2_makeStep_122 rfl (lv_at hl 2 rfl) ?_
                refine lv_iconst (v := nI 3) hx hb dX2_makeStep_123 (by decide +kernel) ?_
                refine lv_iconst (v := (-1)) hx hb dX2_makeStep_124 (by decide +kernel) ?_
                refine lv_aload_n hx hb dX2_makeStep_125 rfl (lv_at hl 3 rfl) ?_
                refine va_get (D := G.1) (ci := 2) (v := .int (nI dd)) (C := RX2) (T := TX2) (N := 6) hx hb hts hin2 hown hK hP 0 rfl rfl 2 (by decide) (hts (.fieldLink RX2 18 "FaultShrinker$Search" "dish" "I") (List.mem_of_getElem? (i := 1) rfl)) (fun _ h9 => h9) rfl dX2_makeStep_126 ?_
                refine cs_vv (As := [.int (nI (cnt dd 24)), .int (nI 3), .int (-1), .int (nI dd)]) (rest := []) (wr := [(t, .inr (3, [.ref a, .ref b, .ref kn, .long (lN sn), .int (nI K3.length)])), (kn, .inl (G.2.2, 4096, .inr (.inl u_4))), (a, .inr (0, [.ref ka, .int (nI n)])), (ka, .inl (G.2.1, 24, .inl (nF k))), (b, .inr (1, [.ref nb, .ref sb, .int (nI rc)])), (nb, .inl (G.2.1, 6, .inl (nF ne))), (sb, .inl (G.2.1, 6, .inl (nF sp)))]) ⟨hx, hb, hml, hown, hts⟩ hK hP hD hS hA (c_X2_note l G q fa fp dd pp st ts fx u_1 (cnt dd 24) 3 (-1) dd F (by first | assumption | omega) (by first | assumption | omega) (by first | assumption | omega)) (cwV 4 hts gX2_makeStep_X2_note rfl rfl rfl (by decide +kernel) ⟨Nat.le_of_ble_eq_true rfl, Nat.le_of_ble_eq_true rfl⟩) [0, 1, 2] [3, 4, 5, 6, 7, 8, 9] ⟨rfl, rfl, by decide, by decide, by decide⟩ 0 2 rfl rfl rfl hl.1 rfl (Nat.le_of_ble_eq_true rfl) ⟨Nat.le_of_ble_eq_true rfl, Nat.le_of_ble_eq_true rfl⟩ dX2_makeStep_129 (fun u_5 H locs hw hP hD hS => ?_)
                have hfx := hw
                have hP : va_P G.1 vwCl [(q, .inr (2, [.ref fa, .ref fp, .int (nI dd), .int (nI pp), .int (nI (st + 1)), .int (nI ts)])), (fa, .inl (G.2.1, 640, .inl u_5)), (fp, .inl (G.2.1, 25, .inl (nF u_1))), (t, .inr (3, [.ref a, .ref b, .ref kn, .long (lN sn), .int (nI K3.length)])), (kn, .inl (G.2.2, 4096, .inr (.inl u_4))), (a, .inr (0, [.ref ka, .int (nI n)])), (ka, .inl (G.2.1, 24, .inl (nF k))), (b, .inr (1, [.ref nb, .ref sb, .int (nI rc)])), (nb, .inl (G.2.1, 6, .inl (nF ne))), (sb, .inl (G.2.1, 6, .inl (nF sp)))] H := hP.sub [7, 8, 9, 0, 1, 2, 3, 4, 5, 6] rfl
                have hD : va_D A [(q, .inr (2, [.ref fa, .ref fp, .int (nI dd), .int (nI pp), .int (nI (st + 1)), .int (nI ts)])), (fa, .inl (G.2.1, 640, .inl u_5)), (fp, .inl (G.2.1, 25, .inl (nF u_1))), (t, .inr (3, [.ref a, .ref b, .ref kn, .long (lN sn), .int (nI K3.length)])), (kn, .inl (G.2.2, 4096, .inr (.inl u_4))), (a, .inr (0, [.ref ka, .int (nI n)])), (ka, .inl (G.2.1, 24, .inl (nF k))), (b, .inr (1, [.ref nb, .ref sb, .int (nI rc)])), (nb, .inl (G.2.1, 6, .inl (nF ne))), (sb, .inl (G.2.1, 6, .inl (nF sp)))] := hD.sub [7, 8, 9, 0, 1, 2, 3, 4, 5, 6] (by decide) rfl
                refine lv_aload_n hx hb dX2_makeStep_132 rfl (lv_at hl 3 rfl) ?_
                refine lv_aload_n hx hb dX2_makeStep_133 rfl (lv_at hl 3 rfl) ?_
                refine va_get (D := G.1) (ci := 2) (v := .int (nI pp)) (C := RX2) (T := TX2) (N := 6) hx hb hts hin2 hown hK hP 0 rfl rfl 3 (by decide) (hts (.fieldLink RX2 53 "FaultShrinker$Search" "parts" "I") (List.mem_of_getElem? (i := 2) rfl)) (fun _ h9 => h9) rfl dX2_makeStep_134 ?_
                refine lv_iconst (v := nI 2) hx hb dX2_makeStep_137 (by decide +kernel) ?_
                refine lv_imul hx hb dX2_makeStep_138 ?_
                refine cs_i (y := nI (pp * 2)) (pk_mul _ _) ?_
                refine lv_iload_n hx hb dX2_makeStep_139 rfl (lv_at hl 2 rfl) ?_
                refine va_mmin hx hb (by rw [hml]; exact hl.1.symm) hown (hts (.methodLink RX2 79 Lib.Math.min.name) (List.mem_of_getElem? (i := 7) rfl)) (hts (.static Lib.Math.min.name) (List.mem_of_getElem? (i := 8) rfl)) (hts (.initialized "java/lang/Math") (List.mem_of_getElem? (i := 5) rfl)) (hts (.code Lib.Math.min.name Lib.Math.min.code 2 (some .int)) (List.mem_of_getElem? (i := 9) rfl)) (Nat.le_of_ble_eq_true rfl) (Nat.le_of_ble_eq_true rfl) (Nat.zero_le _) (Nat.zero_le _) dX2_makeStep_140 ?_
                refine cs_i (y := nI (min (pp * 2) (cnt dd 24))) (nI_min (by omega) (by omega)) ?_
                refine va_put (D := G.1) (ci := 2) (v := .int (nI (min (pp * 2) (cnt dd 24)))) (ty := .int) (C := RX2) (T := TX2) (N := 6) hx hb hts hin2 tyX2 tyX2_ok nmX2 hown hK hP hD hS 0 rfl rfl 3 (by decide) (hts (.fieldLink RX2 53 "FaultShrinker$Search" "parts" "I") (List.mem_of_getElem? (i := 2) rfl)) (fun _ h9 => h9) rfl (by decide +kernel) rfl rfl (Nat.le_of_ble_eq_true rfl) dX2_makeStep_143 (fun H locs hP hD hS => ?_)
                have hP : va_P G.1 vwCl [(q, .inr (2, [.ref fa, .ref fp, .int (nI dd), .int (nI (min (pp * 2) (cnt dd 24))), .int (nI (st + 1)), .int (nI ts)])), (fa, .inl (G.2.1, 640, .inl u_5)), (fp, .inl (G.2.1, 25, .inl (nF u_1))), (t, .inr (3, [.ref a, .ref b, .ref kn, .long (lN sn), .int (nI K3.length)])), (kn, .inl (G.2.2, 4096, .inr (.inl u_4))), (a, .inr (0, [.ref ka, .int (nI n)])), (ka, .inl (G.2.1, 24, .inl (nF k))), (b, .inr (1, [.ref nb, .ref sb, .int (nI rc)])), (nb, .inl (G.2.1, 6, .inl (nF ne))), (sb, .inl (G.2.1, 6, .inl (nF sp)))] H := hP
                have hD : va_D A [(q, .inr (2, [.ref fa, .ref fp, .int (nI dd), .int (nI (min (pp * 2) (cnt dd 24))), .int (nI (st + 1)), .int (nI ts)])), (fa, .inl (G.2.1, 640, .inl u_5)), (fp, .inl (G.2.1, 25, .inl (nF u_1))), (t, .inr (3, [.ref a, .ref b, .ref kn, .long (lN sn), .int (nI K3.length)])), (kn, .inl (G.2.2, 4096, .inr (.inl u_4))), (a, .inr (0, [.ref ka, .int (nI n)])), (ka, .inl (G.2.1, 24, .inl (nF k))), (b, .inr (1, [.ref nb, .ref sb, .int (nI rc)])), (nb, .inl (G.2.1, 6, .inl (nF ne))), (sb, .inl (G.2.1, 6, .inl (nF sp)))] := hD
                refine lv_iconst (v := nI 1) hx hb dX2_makeStep_146 (by decide +kernel) ?_
                have e5 := (by first | exact hst_3a (F := F) (by omega) e1 (by omega) e2 (by omega) | exact hst_3b (F := F) (by omega) e1 (by omega) (by omega) : hst (spl k ne sp n rc) (dd, pp, K, F) = (true, (dd, min (pp * 2) (cnt dd 24), K3, F ++ [nI (cnt dd 24), nI pp, nI 3, -1, nI dd])))
                rw [hy] at e5
                have e5 := e5.symm
                simp only [Prod.mk.injEq] at e5
                obtain ⟨g1, g2, g3, g4, g5⟩ := e5
                subst g1
                subst g2
                subst g3
                subst g4
                subst g5
                have e9 : nI (st + 1) = nI ((F ++ [nI (cnt dd 24), nI pp, nI 3, -1, nI dd]).length / 5) := by rw [List.length_append, hF]; exact congrArg nI (by show st + 1 = (5 * st + 5) / 5; omega)
                rw [e9] at hP hD
                have hP : va_P G.1 vwCl [(q, .inr (2, [.ref fa, .ref fp, .int (nI dd), .int (nI (min (pp * 2) (cnt dd 24))), .int (nI ((F ++ [nI (cnt dd 24), nI pp, nI 3, -1, nI dd]).length / 5)), .int (nI ts)])), (fa, .inl (G.2.1, 640, .inl u_5)), (fp, .inl (G.2.1, 25, .inl (nF u_1))), (t, .inr (3, [.ref a, .ref b, .ref kn, .long (lN sn), .int (nI K3.length)])), (kn, .inl (G.2.2, 4096, .inr (.inl u_4))), (a, .inr (0, [.ref ka, .int (nI n)])), (ka, .inl (G.2.1, 24, .inl (nF k))), (b, .inr (1, [.ref nb, .ref sb, .int (nI rc)])), (nb, .inl (G.2.1, 6, .inl (nF ne))), (sb, .inl (G.2.1, 6, .inl (nF sp)))] H := hP
                have hD : va_D A [(q, .inr (2, [.ref fa, .ref fp, .int (nI dd), .int (nI (min (pp * 2) (cnt dd 24))), .int (nI ((F ++ [nI (cnt dd 24), nI pp, nI 3, -1, nI dd]).length / 5)), .int (nI ts)])), (fa, .inl (G.2.1, 640, .inl u_5)), (fp, .inl (G.2.1, 25, .inl (nF u_1))), (t, .inr (3, [.ref a, .ref b, .ref kn, .long (lN sn), .int (nI K3.length)])), (kn, .inl (G.2.2, 4096, .inr (.inl u_4))), (a, .inr (0, [.ref ka, .int (nI n)])), (ka, .inl (G.2.1, 24, .inl (nF k))), (b, .inr (1, [.ref nb, .ref sb, .int (nI rc)])), (nb, .inl (G.2.1, 6, .inl (nF ne))), (sb, .inl (G.2.1, 6, .inl (nF sp)))] := hD
                exact cs_zret hx hb hr hlocks hK hP hD hS (v := nI 1) (rfl) (u_4, u_5, u_1) (⟨rfl, hT, hfx, hg0⟩) rfl dX2_makeStep_147
            · exact absurd (by decide +kernel) c_72
          · obtain ⟨hk2, -, -⟩ := fst1_mk _ _ _ _ _ _ e2
            refine cs_i (y := nI k2) (rfl) ?_
            refine lv_goto (tgt := 68) hx hb dX2_makeStep_64 (by decide) ?_
            refine lv_istore (lv' := [(4, .int (nI k2)), (3, .int (-1)), (2, .int (nI (cnt dd 24))), (0, .ref q), (1, .ref t)]) hx hb dX2_makeStep_68 hl (by decide) rfl (fun ls hl => ?_)
            refine lv_iload hx hb dX2_makeStep_70 (lv_at hl 0 rfl) ?_
            refine lv_if_lt (tgt := 113) hx hb dX2_makeStep_72 (by decide) (fun c_72 => ?_) (fun c_72 => ?_)
            · have c_72 := (nI_lt0 (by omega)).mp c_72
              exact absurd c_72 (by omega)
            · have c_72 := mt (nI_lt0 (by omega)).mpr c_72
              refine lv_aload_n hx hb dX2_makeStep_75 rfl (lv_at hl 3 rfl) ?_
              refine lv_iload_n hx hb dX2_makeStep_76 rfl (lv_at hl 2 rfl) ?_
              refine lv_iconst (v := nI 2) hx hb dX2_makeStep_77 (by decide +kernel) ?_
              refine lv_iload hx hb dX2_makeStep_78 (lv_at hl 0 rfl) ?_
              refine lv_aload_n hx hb dX2_makeStep_80 rfl (lv_at hl 3 rfl) ?_
              refine va_get (D := G.1) (ci := 2) (v := .int (nI dd)) (C := RX2) (T := TX2) (N := 6) hx hb hts hin2 hown hK hP 0 rfl rfl 2 (by decide) (hts (.fieldLink RX2 18 "FaultShrinker$Search" "dish" "I") (List.mem_of_getElem? (i := 1) rfl)) (fun _ h9 => h9) rfl dX2_makeStep_81 ?_
              refine lv_aload_n hx hb dX2_makeStep_84 rfl (lv_at hl 3 rfl) ?_
              refine lv_iload hx hb dX2_makeStep_85 (lv_at hl 0 rfl) ?_
              refine lv_iload_n hx hb dX2_makeStep_87 rfl (lv_at hl 2 rfl) ?_
              refine cs_vi (As := [.int (nI k2), .int (nI (cnt dd 24))]) (rest := [.int (nI dd), .int (nI k2), .int (nI 2), .int (nI (cnt dd 24)), .ref q]) (wr := [(t, .inr (3, [.ref a, .ref b, .ref kn, .long (lN sn), .int (nI K3.length)])), (kn, .inl (G.2.2, 4096, .inr (.inl u_4))), (a, .inr (0, [.ref ka, .int (nI n)])), (ka, .inl (G.2.1, 24, .inl (nF k))), (b, .inr (1, [.ref nb, .ref sb, .int (nI rc)])), (nb, .inl (G.2.1, 6, .inl (nF ne))), (sb, .inl (G.2.1, 6, .inl (nF sp)))]) ⟨hx, hb, hml, hown, hts⟩ hK hP hD hS hA (c_X2_partAt l G q fa fp dd pp st ts fx u_1 k2 (by first | assumption | omega) (by first | assumption | omega) (by first | assumption | omega) (by first | assumption | omega)) (cwV 2 hts gX2_makeStep_X2_partAt rfl rfl rfl (by decide +kernel) ⟨Nat.le_of_ble_eq_true rfl, Nat.le_of_ble_eq_true rfl⟩) [0, 1, 2] [3, 4, 5, 6, 7, 8, 9] ⟨rfl, rfl, by decide, by decide, by decide⟩ 0 2 rfl rfl rfl hl.1 rfl (Nat.le_of_ble_eq_true rfl) ⟨Nat.le_of_ble_eq_true rfl, Nat.le_of_ble_eq_true rfl⟩ dX2_makeStep_88 (fun r u H locs hw hP hD hS => ?_)
              have hP : va_P G.1 vwCl [(q, .inr (2, [.ref fa, .ref fp, .int (nI dd), .int (nI pp), .int (nI st), .int (nI ts)])), (fa, .inl (G.2.1, 640, .inl fx)), (fp, .inl (G.2.1, 25, .inl (nF u_1))), (t, .inr (3, [.ref a, .ref b, .ref kn, .long (lN sn), .int (nI K3.length)])), (kn, .inl (G.2.2, 4096, .inr (.inl u_4))), (a, .inr (0, [.ref ka, .int (nI n)])), (ka, .inl (G.2.1, 24, .inl (nF k))), (b, .inr (1, [.ref nb, .ref sb, .int (nI rc)])), (nb, .inl (G.2.1, 6, .inl (nF ne))), (sb, .inl (G.2.1, 6, .inl (nF sp)))] H := hP.sub [7, 8, 9, 0, 1, 2, 3, 4, 5, 6] rfl
              have hD : va_D A [(q, .inr (2, [.ref fa, .ref fp, .int (nI dd), .int (nI pp), .int (nI st), .int (nI ts)])), (fa, .inl (G.2.1, 640, .inl fx)), (fp, .inl (G.2.1, 25, .inl (nF u_1))), (t, .inr (3, [.ref a, .ref b, .ref kn, .long (lN sn), .int (nI K3.length)])), (kn, .inl (G.2.2, 4096, .inr (.inl u_4))), (a, .inr (0, [.ref ka, .int (nI n)])), (ka, .inl (G.2.1, 24, .inl (nF k))), (b, .inr (1, [.ref nb, .ref sb, .int (nI rc)])), (nb, .inl (G.2.1, 6, .inl (nF ne))), (sb, .inl (G.2.1, 6, .inl (nF sp)))] := hD.sub [7, 8, 9, 0, 1, 2, 3, 4, 5, 6] (by decide) rfl
              subst hw
              refine lv_iconst (v := (-1)) hx hb dX2_makeStep_91 (by decide +kernel) ?_
              refine lv_ixor hx hb dX2_makeStep_92 ?_
              refine lv_iand hx hb dX2_makeStep_93 ?_
              refine cs_i (y := nI (nd dd (pto dd pp k2))) (nI_nd _ _) ?_
              refine cs_vv (As := [.int (nI (cnt dd 24)), .int (nI 2), .int (nI k2), .int (nI (nd dd (pto dd pp k2)))]) (rest := []) (wr := [(t, .inr (3, [.ref a, .ref b, .ref kn, .long (lN sn), .int (nI K3.length)])), (kn, .inl (G.2.2, 4096, .inr (.inl u_4))), (a, .inr (0, [.ref ka, .int (nI n)])), (ka, .inl (G.2.1, 24, .inl (nF k))), (b, .inr (1, [.ref nb, .ref sb, .int (nI rc)])), (nb, .inl (G.2.1, 6, .inl (nF ne))), (sb, .inl (G.2.1, 6, .inl (nF sp)))]) ⟨hx, hb, hml, hown, hts⟩ hK hP hD hS hA (c_X2_note l G q fa fp dd pp st ts fx u_1 (cnt dd 24) 2 (nI k2) (nd dd (pto dd pp k2)) F (by first | assumption | omega) (by first | assumption | omega) (by first | assumption | omega)) (cwV 4 hts gX2_makeStep_X2_note rfl rfl rfl (by decide +kernel) ⟨Nat.le_of_ble_eq_true rfl, Nat.le_of_ble_eq_true rfl⟩) [0, 1, 2] [3, 4, 5, 6, 7, 8, 9] ⟨rfl, rfl, by decide, by decide, by decide⟩ 0 2 rfl rfl rfl hl.1 rfl (Nat.le_of_ble_eq_true rfl) ⟨Nat.le_of_ble_eq_true rfl, Nat.le_of_ble_eq_true rfl⟩ dX2_makeStep_94 (fun u_6 H locs hw hP hD hS => ?_)
              have hfx := hw
              have hP : va_P G.1 vwCl [(q, .inr (2, [.ref fa, .ref fp, .int (nI (nd dd (pto dd pp k2))), .int (nI pp), .int (nI (st + 1)), .int (nI ts)])), (fa, .inl (G.2.1, 640, .inl u_6)), (fp, .inl (G.2.1, 25, .inl (nF u_1))), (t, .inr (3, [.ref a, .ref b, .ref kn, .long (lN sn), .int (nI K3.length)])), (kn, .inl (G.2.2, 4096, .inr (.inl u_4))), (a, .inr (0, [.ref ka, .int (nI n)])), (ka, .inl (G.2.1, 24, .inl (nF k))), (b, .inr (1, [.ref nb, .ref sb, .int (nI rc)])), (nb, .inl (G.2.1, 6, .inl (nF ne))), (sb, .inl (G.2.1, 6, .inl (nF sp)))] H := hP.sub [7, 8, 9, 0, 1, 2, 3, 4, 5, 6] rfl
              have hD : va_D A [(q, .inr (2, [.ref fa, .ref fp, .int (nI (nd dd (pto dd pp k2))), .int (nI pp), .int (nI (st + 1)), .int (nI ts)])), (fa, .inl (G.2.1, 640, .inl u_6)), (fp, .inl (G.2.1, 25, .inl (nF u_1))), (t, .inr (3, [.ref a, .ref b, .ref kn, .long (lN sn), .int (nI K3.length)])), (kn, .inl (G.2.2, 4096, .inr (.inl u_4))), (a, .inr (0, [.ref ka, .int (nI n)])), (ka, .inl (G.2.1, 24, .inl (nF k))), (b, .inr (1, [.ref nb, .ref sb, .int (nI rc)])), (nb, .inl (G.2.1, 6, .inl (nF ne))), (sb, .inl (G.2.1, 6, .inl (nF sp)))] := hD.sub [7, 8, 9, 0, 1, 2, 3, 4, 5, 6] (by decide) rfl
              refine lv_aload_n hx hb dX2_makeStep_97 rfl (lv_at hl 3 rfl) ?_
              refine lv_aload_n hx hb dX2_makeStep_98 rfl (lv_at hl 3 rfl) ?_
              refine va_get (D := G.1) (ci := 2) (v := .int (nI pp)) (C := RX2) (T := TX2) (N := 6) hx hb hts hin2 hown hK hP 0 rfl rfl 3 (by decide) (hts (.fieldLink RX2 53 "FaultShrinker$Search" "parts" "I") (List.mem_of_getElem? (i := 2) rfl)) (fun _ h9 => h9) rfl dX2_makeStep_99 ?_
              refine lv_iconst (v := nI 1) hx hb dX2_makeStep_102 (by decide +kernel) ?_
              refine lv_isub hx hb dX2_makeStep_103 ?_
              refine cs_i (y := nI (pp - 1)) (pk_sub (by omega)) ?_
              refine lv_iconst (v := nI 2) hx hb dX2_makeStep_104 (by decide +kernel) ?_
              refine va_mmax hx hb (by rw [hml]; exact hl.1.symm) hown (hts (.methodLink RX2 74 Lib.Math.max.name) (List.mem_of_getElem? (i := 3) rfl)) (hts (.static Lib.Math.max.name) (List.mem_of_getElem? (i := 4) rfl)) (hts (.initialized "java/lang/Math") (List.mem_of_getElem? (i := 5) rfl)) (hts (.code Lib.Math.max.name Lib.Math.max.code 2 (some .int)) (List.mem_of_getElem? (i := 6) rfl)) (Nat.le_of_ble_eq_true rfl) (Nat.le_of_ble_eq_true rfl) (Nat.zero_le _) (Nat.zero_le _) dX2_makeStep_105 ?_
              refine cs_i (y := nI (pp - 1)) (by rw [nI_max (by omega) (by omega), Nat.max_eq_left (by omega)]) ?_
              refine va_put (D := G.1) (ci := 2) (v := .int (nI (pp - 1))) (ty := .int) (C := RX2) (T := TX2) (N := 6) hx hb hts hin2 tyX2 tyX2_ok nmX2 hown hK hP hD hS 0 rfl rfl 3 (by decide) (hts (.fieldLink RX2 53 "FaultShrinker$Search" "parts" "I") (List.mem_of_getElem? (i := 2) rfl)) (fun _ h9 => h9) rfl (by decide +kernel) rfl rfl (Nat.le_of_ble_eq_true rfl) dX2_makeStep_108 (fun H locs hP hD hS => ?_)
              have hP : va_P G.1 vwCl [(q, .inr (2, [.ref fa, .ref fp, .int (nI (nd dd (pto dd pp k2))), .int (nI (pp - 1)), .int (nI (st + 1)), .int (nI ts)])), (fa, .inl (G.2.1, 640, .inl u_6)), (fp, .inl (G.2.1, 25, .inl (nF u_1))), (t, .inr (3, [.ref a, .ref b, .ref kn, .long (lN sn), .int (nI K3.length)])), (kn, .inl (G.2.2, 4096, .inr (.inl u_4))), (a, .inr (0, [.ref ka, .int (nI n)])), (ka, .inl (G.2.1, 24, .inl (nF k))), (b, .inr (1, [.ref nb, .ref sb, .int (nI rc)])), (nb, .inl (G.2.1, 6, .inl (nF ne))), (sb, .inl (G.2.1, 6, .inl (nF sp)))] H := hP
              have hD : va_D A [(q, .inr (2, [.ref fa, .ref fp, .int (nI (nd dd (pto dd pp k2))), .int (nI (pp - 1)), .int (nI (st + 1)), .int (nI ts)])), (fa, .inl (G.2.1, 640, .inl u_6)), (fp, .inl (G.2.1, 25, .inl (nF u_1))), (t, .inr (3, [.ref a, .ref b, .ref kn, .long (lN sn), .int (nI K3.length)])), (kn, .inl (G.2.2, 4096, .inr (.inl u_4))), (a, .inr (0, [.ref ka, .int (nI n)])), (ka, .inl (G.2.1, 24, .inl (nF k))), (b, .inr (1, [.ref nb, .ref sb, .int (nI rc)])), (nb, .inl (G.2.1, 6, .inl (nF ne))), (sb, .inl (G.2.1, 6, .inl (nF sp)))] := hD
              refine lv_iconst (v := nI 1) hx hb dX2_makeStep_111 (by decide +kernel) ?_
              have e5 := hst_2 (F := F) (by omega) e1 (by omega) e2
              rw [hy] at e5
              have e5 := e5.symm
              simp only [Prod.mk.injEq] at e5
              obtain ⟨g1, g2, g3, g4, g5⟩ := e5
              subst g1
              subst g2
              subst g3
              subst g4
              subst g5
              have e9 : nI (st + 1) = nI ((F ++ [nI (cnt dd 24), nI pp, nI 2, nI k2, nI (nd dd (pto dd pp k2))]).length / 5) := by rw [List.length_append, hF]; exact congrArg nI (by show st + 1 = (5 * st + 5) / 5; omega)
              rw [e9] at hP hD
              have hP : va_P G.1 vwCl [(q, .inr (2, [.ref fa, .ref fp, .int (nI (nd dd (pto dd pp k2))), .int (nI (pp - 1)), .int (nI ((F ++ [nI (cnt dd 24), nI pp, nI 2, nI k2, nI (nd dd (pto dd pp k2))]).length / 5)), .int (nI ts)])), (fa, .inl (G.2.1, 640, .inl u_6)), (fp, .inl (G.2.1, 25, .inl (nF u_1))), (t, .inr (3, [.ref a, .ref b, .ref kn, .long (lN sn), .int (nI K3.length)])), (kn, .inl (G.2.2, 4096, .inr (.inl u_4))), (a, .inr (0, [.ref ka, .int (nI n)])), (ka, .inl (G.2.1, 24, .inl (nF k))), (b, .inr (1, [.ref nb, .ref sb, .int (nI rc)])), (nb, .inl (G.2.1, 6, .inl (nF ne))), (sb, .inl (G.2.1, 6, .inl (nF sp)))] H := hP
              have hD : va_D A [(q, .inr (2, [.ref fa, .ref fp, .int (nI (nd dd (pto dd pp k2))), .int (nI (pp - 1)), .int (nI ((F ++ [nI (cnt dd 24), nI pp, nI 2, nI k2, nI (nd dd (pto dd pp k2))]).length / 5)), .int (nI ts)])), (fa, .inl (G.2.1, 640, .inl u_6)), (fp, .inl (G.2.1, 25, .inl (nF u_1))), (t, .inr (3, [.ref a, .ref b, .ref kn, .long (lN sn), .int (nI K3.length)])), (kn, .inl (G.2.2, 4096, .inr (.inl u_4))), (a, .inr (0, [.ref ka, .int (nI n)])), (ka, .inl (G.2.1, 24, .inl (nF k))), (b, .inr (1, [.ref nb, .ref sb, .int (nI rc)])), (nb, .inl (G.2.1, 6, .inl (nF ne))), (sb, .inl (G.2.1, 6, .inl (nF sp)))] := hD
              exact cs_zret hx hb hr hlocks hK hP hD hS (v := nI 1) (rfl) (u_4, u_6, u_1) (⟨rfl, hT, hfx, hg0⟩) rfl dX2_makeStep_112
      · exact absurd (by decide +kernel) c_27
    · obtain ⟨hk1, -, -⟩ := fst1_mk _ _ _ _ _ _ e1
      refine cs_i (y := nI k1) (rfl) ?_
      refine lv_istore_n (lv' := [(3, .int (nI k1)), (2, .int (nI (cnt dd 24))), (0, .ref q), (1, .ref t)]) hx hb dX2_makeStep_25 rfl hl (by decide) rfl (fun ls hl => ?_)
      refine lv_iload_n hx hb dX2_makeStep_26 rfl (lv_at hl 0 rfl) ?_
      refine lv_if_lt (tgt := 50) hx hb dX2_makeStep_27 (by decide) (fun c_27 => ?_) (fun c_27 => ?_)
      · have c_27 := (nI_lt0 (by omega)).mp c_27
        exact absurd c_27 (by omega)
      · have c_27 := mt (nI_lt0 (by omega)).mpr c_27
        refine lv_aload_n hx hb dX2_makeStep_30 rfl (lv_at hl 2 rfl) ?_
        refine lv_iload_n hx hb dX2_makeStep_31 rfl (lv_at hl 1 rfl) ?_
        refine lv_iconst (v := nI 1) hx hb dX2_makeStep_32 (by decide +kernel) ?_
        refine lv_iload_n hx hb dX2_makeStep_33 rfl (lv_at hl 0 rfl) ?_
        refine lv_aload_n hx hb dX2_makeStep_34 rfl (lv_at hl 2 rfl) ?_
        refine lv_iload_n hx hb dX2_makeStep_35 rfl (lv_at hl 0 rfl) ?_
        refine lv_iload_n hx hb dX2_makeStep_36 rfl (lv_at hl 1 rfl) ?_
        refine cs_vi (As := [.int (nI k1), .int (nI (cnt dd 24))]) (rest := [.int (nI k1), .int (nI 1), .int (nI (cnt dd 24)), .ref q]) (wr := [(t, .inr (3, [.ref a, .ref b, .ref kn, .long (lN sn), .int (nI K1.length)])), (kn, .inl (G.2.2, 4096, .inr (.inl u_2))), (a, .inr (0, [.ref ka, .int (nI n)])), (ka, .inl (G.2.1, 24, .inl (nF k))), (b, .inr (1, [.ref nb, .ref sb, .int (nI rc)])), (nb, .inl (G.2.1, 6, .inl (nF ne))), (sb, .inl (G.2.1, 6, .inl (nF sp)))]) ⟨hx, hb, hml, hown, hts⟩ hK hP hD hS hA (c_X2_partAt l G q fa fp dd pp st ts fx u_1 k1 (by first | assumption | omega) (by first | assumption | omega) (by first | assumption | omega) (by first | assumption | omega)) (cwV 2 hts gX2_makeStep_X2_partAt rfl rfl rfl (by decide +kernel) ⟨Nat.le_of_ble_eq_true rfl, Nat.le_of_ble_eq_true rfl⟩) [0, 1, 2] [3, 4, 5, 6, 7, 8, 9] ⟨rfl, rfl, by decide, by decide, by decide⟩ 0 2 rfl rfl rfl hl.1 rfl (Nat.le_of_ble_eq_true rfl) ⟨Nat.le_of_ble_eq_true rfl, Nat.le_of_ble_eq_true rfl⟩ dX2_makeStep_37 (fun r u H locs hw hP hD hS => ?_)
        have hP : va_P G.1 vwCl [(q, .inr (2, [.ref fa, .ref fp, .int (nI dd), .int (nI pp), .int (nI st), .int (nI ts)])), (fa, .inl (G.2.1, 640, .inl fx)), (fp, .inl (G.2.1, 25, .inl (nF u_1))), (t, .inr (3, [.ref a, .ref b, .ref kn, .long (lN sn), .int (nI K1.length)])), (kn, .inl (G.2.2, 4096, .inr (.inl u_2))), (a, .inr (0, [.ref ka, .int (nI n)])), (ka, .inl (G.2.1, 24, .inl (nF k))), (b, .inr (1, [.ref nb, .ref sb, .int (nI rc)])), (nb, .inl (G.2.1, 6, .inl (nF ne))), (sb, .inl (G.2.1, 6, .inl (nF sp)))] H := hP.sub [7, 8, 9, 0, 1, 2, 3, 4, 5, 6] rfl
        have hD : va_D A [(q, .inr (2, [.ref fa, .ref fp, .int (nI dd), .int (nI pp), .int (nI st), .int (nI ts)])), (fa, .inl (G.2.1, 640, .inl fx)), (fp, .inl (G.2.1, 25, .inl (nF u_1))), (t, .inr (3, [.ref a, .ref b, .ref kn, .long (lN sn), .int (nI K1.length)])), (kn, .inl (G.2.2, 4096, .inr (.inl u_2))), (a, .inr (0, [.ref ka, .int (nI n)])), (ka, .inl (G.2.1, 24, .inl (nF k))), (b, .inr (1, [.ref nb, .ref sb, .int (nI rc)])), (nb, .inl (G.2.1, 6, .inl (nF ne))), (sb, .inl (G.2.1, 6, .inl (nF sp)))] := hD.sub [7, 8, 9, 0, 1, 2, 3, 4, 5, 6] (by decide) rfl
        subst hw
        refine cs_vv (As := [.int (nI (cnt dd 24)), .int (nI 1), .int (nI k1), .int (nI (pto dd pp k1))]) (rest := []) (wr := [(t, .inr (3, [.ref a, .ref b, .ref kn, .long (lN sn), .int (nI K1.length)])), (kn, .inl (G.2.2, 4096, .inr (.inl u_2))), (a, .inr (0, [.ref ka, .int (nI n)])), (ka, .inl (G.2.1, 24, .inl (nF k))), (b, .inr (1, [.ref nb, .ref sb, .int (nI rc)])), (nb, .inl (G.2.1, 6, .inl (nF ne))), (sb, .inl (G.2.1, 6, .inl (nF sp)))]) ⟨hx, hb, hml, hown, hts⟩ hK hP hD hS hA (c_X2_note l G q fa fp dd pp st ts fx u_1 (cnt dd 24) 1 (nI k1) (pto dd pp k1) F (by first | assumption | omega) (by first | assumption | omega) (by first | assumption | omega)) (cwV 4 hts gX2_makeStep_X2_note rfl rfl rfl (by decide +kernel) ⟨Nat.le_of_ble_eq_true rfl, Nat.le_of_ble_eq_true rfl⟩) [0, 1, 2] [3, 4, 5, 6, 7, 8, 9] ⟨rfl, rfl, by decide, by decide, by decide⟩ 0 2 rfl rfl rfl hl.1 rfl (Nat.le_of_ble_eq_true rfl) ⟨Nat.le_of_ble_eq_true rfl, Nat.le_of_ble_eq_true rfl⟩ dX2_makeStep_40 (fun u_7 H locs hw hP hD hS => ?_)
        have hfx := hw
        have hP : va_P G.1 vwCl [(q, .inr (2, [.ref fa, .ref fp, .int (nI (pto dd pp k1)), .int (nI pp), .int (nI (st + 1)), .int (nI ts)])), (fa, .inl (G.2.1, 640, .inl u_7)), (fp, .inl (G.2.1, 25, .inl (nF u_1))), (t, .inr (3, [.ref a, .ref b, .ref kn, .long (lN sn), .int (nI K1.length)])), (kn, .inl (G.2.2, 4096, .inr (.inl u_2))), (a, .inr (0, [.ref ka, .int (nI n)])), (ka, .inl (G.2.1, 24, .inl (nF k))), (b, .inr (1, [.ref nb, .ref sb, .int (nI rc)])), (nb, .inl (G.2.1, 6, .inl (nF ne))), (sb, .inl (G.2.1, 6, .inl (nF sp)))] H := hP.sub [7, 8, 9, 0, 1, 2, 3, 4, 5, 6] rfl
        have hD : va_D A [(q, .inr (2, [.ref fa, .ref fp, .int (nI (pto dd pp k1)), .int (nI pp), .int (nI (st + 1)), .int (nI ts)])), (fa, .inl (G.2.1, 640, .inl u_7)), (fp, .inl (G.2.1, 25, .inl (nF u_1))), (t, .inr (3, [.ref a, .ref b, .ref kn, .long (lN sn), .int (nI K1.length)])), (kn, .inl (G.2.2, 4096, .inr (.inl u_2))), (a, .inr (0, [.ref ka, .int (nI n)])), (ka, .inl (G.2.1, 24, .inl (nF k))), (b, .inr (1, [.ref nb, .ref sb, .int (nI rc)])), (nb, .inl (G.2.1, 6, .inl (nF ne))), (sb, .inl (G.2.1, 6, .inl (nF sp)))] := hD.sub [7, 8, 9, 0, 1, 2, 3, 4, 5, 6] (by decide) rfl
        refine lv_aload_n hx hb dX2_makeStep_43 rfl (lv_at hl 2 rfl) ?_
        refine lv_iconst (v := nI 2) hx hb dX2_makeStep_44 (by decide +kernel) ?_
        refine va_put (D := G.1) (ci := 2) (v := .int (nI 2)) (ty := .int) (C := RX2) (T := TX2) (N := 6) hx hb hts hin2 tyX2 tyX2_ok nmX2 hown hK hP hD hS 0 rfl rfl 3 (by decide) (hts (.fieldLink RX2 53 "FaultShrinker$Search" "parts" "I") (List.mem_of_getElem? (i := 2) rfl)) (fun _ h9 => h9) rfl (by decide +kernel) rfl rfl (Nat.le_of_ble_eq_true rfl) dX2_makeStep_45 (fun H locs hP hD hS => ?_)
        have hP : va_P G.1 vwCl [(q, .inr (2, [.ref fa, .ref fp, .int (nI (pto dd pp k1)), .int (nI 2), .int (nI (st + 1)), .int (nI ts)])), (fa, .inl (G.2.1, 640, .inl u_7)), (fp, .inl (G.2.1, 25, .inl (nF u_1))), (t, .inr (3, [.ref a, .ref b, .ref kn, .long (lN sn), .int (nI K1.length)])), (kn, .inl (G.2.2, 4096, .inr (.inl u_2))), (a, .inr (0, [.ref ka, .int (nI n)])), (ka, .inl (G.2.1, 24, .inl (nF k))), (b, .inr (1, [.ref nb, .ref sb, .int (nI rc)])), (nb, .inl (G.2.1, 6, .inl (nF ne))), (sb, .inl (G.2.1, 6, .inl (nF sp)))] H := hP
        have hD : va_D A [(q, .inr (2, [.ref fa, .ref fp, .int (nI (pto dd pp k1)), .int (nI 2), .int (nI (st + 1)), .int (nI ts)])), (fa, .inl (G.2.1, 640, .inl u_7)), (fp, .inl (G.2.1, 25, .inl (nF u_1))), (t, .inr (3, [.ref a, .ref b, .ref kn, .long (lN sn), .int (nI K1.length)])), (kn, .inl (G.2.2, 4096, .inr (.inl u_2))), (a, .inr (0, [.ref ka, .int (nI n)])), (ka, .inl (G.2.1, 24, .inl (nF k))), (b, .inr (1, [.ref nb, .ref sb, .int (nI rc)])), (nb, .inl (G.2.1, 6, .inl (nF ne))), (sb, .inl (G.2.1, 6, .inl (nF sp)))] := hD
        refine lv_iconst (v := nI 1) hx hb dX2_makeStep_48 (by decide +kernel) ?_
        have e5 := hst_1 (F := F) (by omega) e1
        rw [hy] at e5
        have e5 := e5.symm
        simp only [Prod.mk.injEq] at e5
        obtain ⟨g1, g2, g3, g4, g5⟩ := e5
        subst g1
        subst g2
        subst g3
        subst g4
        subst g5
        have e9 : nI (st + 1) = nI ((F ++ [nI (cnt dd 24), nI pp, nI 1, nI k1, nI (pto dd pp k1)]).length / 5) := by rw [List.length_append, hF]; exact congrArg nI (by show st + 1 = (5 * st + 5) / 5; omega)
        rw [e9] at hP hD
        have hP : va_P G.1 vwCl [(q, .inr (2, [.ref fa, .ref fp, .int (nI (pto dd pp k1)), .int (nI 2), .int (nI ((F ++ [nI (cnt dd 24), nI pp, nI 1, nI k1, nI (pto dd pp k1)]).length / 5)), .int (nI ts)])), (fa, .inl (G.2.1, 640, .inl u_7)), (fp, .inl (G.2.1, 25, .inl (nF u_1))), (t, .inr (3, [.ref a, .ref b, .ref kn, .long (lN sn), .int (nI K1.length)])), (kn, .inl (G.2.2, 4096, .inr (.inl u_2))), (a, .inr (0, [.ref ka, .int (nI n)])), (ka, .inl (G.2.1, 24, .inl (nF k))), (b, .inr (1, [.ref nb, .ref sb, .int (nI rc)])), (nb, .inl (G.2.1, 6, .inl (nF ne))), (sb, .inl (G.2.1, 6, .inl (nF sp)))] H := hP
        have hD : va_D A [(q, .inr (2, [.ref fa, .ref fp, .int (nI (pto dd pp k1)), .int (nI 2), .int (nI ((F ++ [nI (cnt dd 24), nI pp, nI 1, nI k1, nI (pto dd pp k1)]).length / 5)), .int (nI ts)])), (fa, .inl (G.2.1, 640, .inl u_7)), (fp, .inl (G.2.1, 25, .inl (nF u_1))), (t, .inr (3, [.ref a, .ref b, .ref kn, .long (lN sn), .int (nI K1.length)])), (kn, .inl (G.2.2, 4096, .inr (.inl u_2))), (a, .inr (0, [.ref ka, .int (nI n)])), (ka, .inl (G.2.1, 24, .inl (nF k))), (b, .inr (1, [.ref nb, .ref sb, .int (nI rc)])), (nb, .inl (G.2.1, 6, .inl (nF ne))), (sb, .inl (G.2.1, 6, .inl (nF sp)))] := hD
        exact cs_zret hx hb hr hlocks hK hP hD hS (v := nI 1) (rfl) (u_2, u_7, u_1) (⟨rfl, hT, hfx, hg0⟩) rfl dX2_makeStep_49
  · have c_10 := mt (nI_ltI (by omega) (by omega)).mpr c_10
    refine lv_iconst (v := nI 0) hx hb dX2_makeStep_13 (by decide +kernel) ?_
    have e5 := hst_0 (sp := (spl k ne sp n rc)) (n := pp) (K := K) (F := F) (show cnt dd 24 ≤ 1 by omega)
    rw [hy] at e5
    have e5 := e5.symm
    simp only [Prod.mk.injEq] at e5
    obtain ⟨g1, g2, g3, g4, g5⟩ := e5
    subst g1
    subst g2
    subst g3
    subst g4
    subst g5
    have e9 : nI st = nI (F.length / 5) := by rw [hF]; exact congrArg nI (by omega)
    rw [e9] at hP hD
    have hP : va_P G.1 vwCl [(q, .inr (2, [.ref fa, .ref fp, .int (nI dd), .int (nI pp), .int (nI (F.length / 5)), .int (nI ts)])), (fa, .inl (G.2.1, 640, .inl fx)), (fp, .inl (G.2.1, 25, .inl (nF g))), (t, .inr (3, [.ref a, .ref b, .ref kn, .long (lN sn), .int (nI K.length)])), (kn, .inl (G.2.2, 4096, .inr (.inl T))), (a, .inr (0, [.ref ka, .int (nI n)])), (ka, .inl (G.2.1, 24, .inl (nF k))), (b, .inr (1, [.ref nb, .ref sb, .int (nI rc)])), (nb, .inl (G.2.1, 6, .inl (nF ne))), (sb, .inl (G.2.1, 6, .inl (nF sp)))] H := hP
    have hD : va_D A [(q, .inr (2, [.ref fa, .ref fp, .int (nI dd), .int (nI pp), .int (nI (F.length / 5)), .int (nI ts)])), (fa, .inl (G.2.1, 640, .inl fx)), (fp, .inl (G.2.1, 25, .inl (nF g))), (t, .inr (3, [.ref a, .ref b, .ref kn, .long (lN sn), .int (nI K.length)])), (kn, .inl (G.2.2, 4096, .inr (.inl T))), (a, .inr (0, [.ref ka, .int (nI n)])), (ka, .inl (G.2.1, 24, .inl (nF k))), (b, .inr (1, [.ref nb, .ref sb, .int (nI rc)])), (nb, .inl (G.2.1, 6, .inl (nF ne))), (sb, .inl (G.2.1, 6, .inl (nF sp)))] := hD
    exact cs_zret hx hb hr hlocks hK hP hD hS (v := nI 0) (rfl) (T, fx, g) (⟨rfl, hT, hfx, hg0⟩) rfl dX2_makeStep_14
