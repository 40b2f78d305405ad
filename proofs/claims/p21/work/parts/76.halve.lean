set_option maxRecDepth 100000 in
theorem in5_X5_halve : ∀ w ∈ wsX50, w ∈ wsX5_halve := by decide +kernel
set_option maxHeartbeats 4000000 in
set_option maxRecDepth 100000 in
theorem a_X5_halve (l : Launch) (G : cG) (gr : ClassId) (sa : Nat → Nat) : ∀ (fu : Nat) (R L : List Nat) (f : Nat → va_E) (z ak ar al alk ast asn amd td aa : Nat) (n rc : Nat) (k ne sp : Nat → Nat) (hn : n ≤ 24) (hk : ∀ j, j < n → k j < 16) (hrc : rc ≤ 6) (hne : ∀ j, j < 6 → ne j < 65536) (hsp : ∀ j, j < 6 → sp j < 65536) (hdj : ∀ j, j < 6 → ne j &&& sp j = 0) (hsim : simK G gr R L f ak ar n k rc ne sp) (b d p9 : Nat) (K : List Nat) (F : List Int32) (d2 n2 : Nat) (K2 : List Nat) (F2 : List Int32) (C9 S9 : Nat) (hd : d < 2 ^ n) (hib : dI G L f b d) (hsd : spl k ne sp n rc d = true) (hI9 : hIn (d, p9, K, F)) (hmu9 : hmu (cnt d 24) p9 < fu) (hF5 : F.length % 5 = 0) (hFl : F.length + 5 * fu ≤ 640) (hsK : sK G gr L f asn K) (hKd : KD K) (hsF : sF G gr L f amd F) (hR9 : hrn (spl k ne sp n rc) fu (d, p9, K, F) = (d2, n2, K2, F2)) (hC9 : K2.length + F2.length + 2 * hph (cnt d 24) p9 ≤ C9 + K.length + F.length) (hS9 : tri K2.length + tri (F2.length / 5) + F2.length + psi (cnt d 24) p9 ≤ S9 + tri K.length + tri (F.length / 5) + F.length), pMR l G gr sa yX5_halve wsX5_halve ({ frames := 5 + fu, cells := C9, slots := S9, locals := 110 + 40 * fu }) [.ref z, .ref b, .int (nI p9)] ([(z, .inr (5, [.ref ak, .ref ar, .ref al, .ref alk, .int (nI td), .ref ast, .int (nI aa), .ref asn, .ref amd]))] ++ va_pl (R ++ L) f) (fun (r_ : Nat) (u : (List Nat × (Nat → va_E)) × Nat × Nat) => pX R L f u.1.1 u.1.2 ∧ dI G u.1.1 u.1.2 r_ d2 ∧ sK G gr u.1.1 u.1.2 u.2.1 K2 ∧ sF G gr u.1.1 u.1.2 u.2.2 F2) (fun (u : (List Nat × (Nat → va_E)) × Nat × Nat) => ([(z, .inr (5, [.ref ak, .ref ar, .ref al, .ref alk, .int (nI td), .ref ast, .int (nI aa), .ref u.2.1, .ref u.2.2]))] ++ va_pl (R ++ u.1.1) u.1.2)) := by
  intro fu
  induction fu with
  | zero => intro R L f z ak ar al alk ast asn amd td aa n rc k ne sp hn hk hrc hne hsp hdj hsim b d p9 K F d2 n2 K2 F2 C9 S9 hd hib hsd hI9 hmu9 hF5 hFl hsK hKd hsF hR9 hC9 hS9; exact absurd hmu9 (Nat.not_lt_zero _)
  | succ fu ihr =>
    intro R L f z ak ar al alk ast asn amd td aa n rc k ne sp hn hk hrc hne hsp hdj hsim b d p9 K F d2 n2 K2 F2 C9 S9 hd hib hsd hI9 hmu9 hF5 hFl hsK hKd hsF hR9 hC9 hS9
    refine ps_R (own := RX5) (cc := cX5_halve) (maxL := 6) (ret := (some (.array .int))) (by decide) rfl rfl (Nat.le_of_ble_eq_true rfl) ?_
    intro p e s m below meth c A hZ hN hQ hx hb hr hml hts hown hlocks hinit hA hK hP hD hS ls hl
    have hin5 := in5_X5_halve
    have hl : lv_has ls 6 [(0, .ref z), (1, .ref b), (2, .int (nI p9))] := hl
    have hd24 : d < 2 ^ 24 := hI9.1
    have hpp : 2 ≤ p9 := hI9.2.1
    have hn9 : p9 ≤ cnt d 24 ∨ p9 = 2 := hI9.2.2.1
    have hK9 : K.length + hph (cnt d 24) p9 ≤ 1798 := hI9.2.2.2
    have hc1 := cnt_le d 24
    have hc0 : ¬ cnt d 24 = 0 := fun z9 => by rw [(cnt_0_iff hd24).mp z9, spl_0] at hsd; cases hsd
    obtain ⟨hgK, hgF, hgT, hgU⟩ := hrn_gr hR9
    refine lv_aload_n hx hb dX5_halve_0 rfl (lv_at hl 1 rfl) ?_
    refine p_ilen hx hb hK hP (hib.l R) dX5_halve_1 ?_
    refine lv_istore_n (lv' := [(3, .int (nI (cnt d 24))), (0, .ref z), (1, .ref b), (2, .int (nI p9))]) hx hb dX5_halve_2 rfl hl (by decide) rfl (fun ls hl => ?_)
    refine lv_iload_n hx hb dX5_halve_3 rfl (lv_at hl 0 rfl) ?_
    refine lv_iconst (v := nI 1) hx hb dX5_halve_4 (by decide +kernel) ?_
    refine lv_icmp_ne (tgt := 10) hx hb dX5_halve_5 (by decide) (fun c_5 => ?_) (fun c_5 => ?_)
    · have c_5 := (nI_neI (by omega) (by omega)).mp c_5
      have hc2 : ¬ cnt d 24 ≤ 1 := by omega
      have hpm : p9 ≤ cnt d 24 := by omega
      have hph3 := hph_num3 (cnt d 24) (by omega) p9 (by omega) hpp hpm
      obtain ⟨o1, K1, e1⟩ : ∃ o K9, fst1 (spl k ne sp n rc) (pto d p9) p9 0 K = (o, K9) := ⟨_, _, rfl⟩
      have hK12 := hrn_ge1 hR9 (hst_K1 (F := F) hc2 e1)
      have htK12 := tri_le hK12
      refine lv_iconst (v := nI 0) hx hb dX5_halve_10 (by decide +kernel) ?_
      refine lv_istore (lv' := [(4, .int (nI 0)), (3, .int (nI (cnt d 24))), (0, .ref z), (1, .ref b), (2, .int (nI p9))]) hx hb dX5_halve_11 hl (by decide) rfl (fun ls hl => ?_)
      refine p_loop (G := G) (nL := 6) (σ := Nat × List Nat × List Nat × (Nat → va_E) × Nat) (fun x_9 : Nat × List Nat × List Nat × (Nat → va_E) × Nat => match x_9 with | (i, Ki, Li, fi, ai) => p9 - i) (fun x_9 : Nat × List Nat × List Nat × (Nat → va_E) × Nat => match x_9 with | (i, Ki, Li, fi, ai) => i ≤ p9 ∧ Ki.length ≤ K.length + i ∧ K.length ≤ Ki.length ∧ KD Ki ∧ pX R L f Li fi ∧ sK G gr Li fi ai Ki ∧ fst1 (spl k ne sp n rc) (pto d p9) (p9 - i) i Ki = (o1, K1)) (fun x_9 : Nat × List Nat × List Nat × (Nat → va_E) × Nat => match x_9 with | (i, Ki, Li, fi, ai) => ([(z, .inr (5, [.ref ak, .ref ar, .ref al, .ref alk, .int (nI td), .ref ast, .int (nI aa), .ref ai, .ref amd]))] ++ va_pl (R ++ Li) fi)) (fun x_9 : Nat × List Nat × List Nat × (Nat → va_E) × Nat => match x_9 with | (i, Ki, Li, fi, ai) => [(0, .ref z), (1, .ref b), (2, .int (nI p9)), (3, .int (nI (cnt d 24))), (4, .int (nI i))]) (fun x_9 : Nat × List Nat × List Nat × (Nat → va_E) × Nat => match x_9 with | (i, Ki, Li, fi, ai) => 2 * i + (Ki.length - K.length)) (fun x_9 : Nat × List Nat × List Nat × (Nat → va_E) × Nat => match x_9 with | (i, Ki, Li, fi, ai) => 2 * cnt d 24 * i + (tri Ki.length - tri K.length)) ?_ ((0, K, L, f, asn)) (⟨Nat.zero_le _, Nat.le_refl _, Nat.le_refl _, hKd, pX.rf, hsK, e1⟩) (by first | omega | (dsimp only; omega)) (by first | omega | (dsimp only; omega)) hP hD hS (lv_sub (l' := [(0, .ref z), (1, .ref b), (2, .int (nI p9)), (3, .int (nI (cnt d 24))), (4, .int (nI 0))]) hl [2, 3, 4, 1, 0] rfl)
      rintro ⟨i, Ki, Li, fi, ai⟩ hinv ih H locs ls hP hD hS hl
      have hP : va_P G.1 vwCl ([(z, .inr (5, [.ref ak, .ref ar, .ref al, .ref alk, .int (nI td), .ref ast, .int (nI aa), .ref ai, .ref amd]))] ++ va_pl (R ++ Li) fi) _ := hP
      have hD : va_D A ([(z, .inr (5, [.ref ak, .ref ar, .ref al, .ref alk, .int (nI td), .ref ast, .int (nI aa), .ref ai, .ref amd]))] ++ va_pl (R ++ Li) fi) := hD
      have hl : lv_has ls 6 [(0, .ref z), (1, .ref b), (2, .int (nI p9)), (3, .int (nI (cnt d 24))), (4, .int (nI i))] := hl
      have hinv : i ≤ p9 ∧ Ki.length ≤ K.length + i ∧ K.length ≤ Ki.length ∧ KD Ki ∧ pX R L f Li fi ∧ sK G gr Li fi ai Ki ∧ fst1 (spl k ne sp n rc) (pto d p9) (p9 - i) i Ki = (o1, K1) := hinv
      have ih := ih
      dsimp only at ih ⊢
      obtain ⟨hi, hKu, hKl, hKDi, hxi, hsKi, hfi⟩ := hinv
      have htK := tri_le hKl
      have hsim := hsim.mono hxi
      have hib := hib.mono hxi
      have hsF := hsF.mono hxi
      refine lv_iload hx hb dX5_halve_13 (lv_at hl 4 rfl) ?_
      refine lv_iload_n hx hb dX5_halve_15 rfl (lv_at hl 2 rfl) ?_
      refine lv_icmp_ge (tgt := 104) hx hb dX5_halve_16 (by decide) (fun c_16 => ?_) (fun c_16 => ?_)
      · have c_16 := (nI_leI (by omega) (by omega)).mp c_16
        have e7 : p9 = i := by omega
        have e5 : (o1, K1) = ((none : Option Nat), Ki) := by rw [← hfi, show p9 - i = 0 by omega]; rfl
        subst e7
        cases e5
        have hK10 := hKl
        have hKu1 := hKu
        obtain ⟨o2, K3, e2⟩ : ∃ o K9, (if 2 < p9 then fst1 (spl k ne sp n rc) (fun k9 => nd d (pto d p9 k9)) p9 0 K1 else (none, K1)) = (o, K9) := ⟨_, _, rfl⟩
        have hK32 := hrn_ge1 hR9 (hst_K3 (F := F) hc2 e1 e2).1
        have htK32 := tri_le hK32
        refine lv_iconst (v := nI 0) hx hb dX5_halve_104 (by decide +kernel) ?_
        refine lv_istore (lv' := [(4, .int (nI 0)), (0, .ref z), (1, .ref b), (2, .int (nI p9)), (3, .int (nI (cnt d 24)))]) hx hb dX5_halve_105 hl (by decide) rfl (fun ls hl => ?_)
        refine p_loop (G := G) (nL := 6) (σ := Nat × List Nat × List Nat × (Nat → va_E) × Nat) (fun x_9 : Nat × List Nat × List Nat × (Nat → va_E) × Nat => match x_9 with | (i, Ki, Lj, fj, ai) => p9 - i) (fun x_9 : Nat × List Nat × List Nat × (Nat → va_E) × Nat => match x_9 with | (i, Ki, Lj, fj, ai) => i ≤ p9 ∧ Ki.length ≤ K1.length + i ∧ K1.length ≤ Ki.length ∧ KD Ki ∧ pX R Li fi Lj fj ∧ sK G gr Lj fj ai Ki ∧ (2 < p9 → fst1 (spl k ne sp n rc) (fun k9 => nd d (pto d p9 k9)) (p9 - i) i Ki = (o2, K3)) ∧ (¬ 2 < p9 → i = 0 ∧ (none, Ki) = (o2, K3))) (fun x_9 : Nat × List Nat × List Nat × (Nat → va_E) × Nat => match x_9 with | (i, Ki, Lj, fj, ai) => ([(z, .inr (5, [.ref ak, .ref ar, .ref al, .ref alk, .int (nI td), .ref ast, .int (nI aa), .ref ai, .ref amd]))] ++ va_pl (R ++ Lj) fj)) (fun x_9 : Nat × List Nat × List Nat × (Nat → va_E) × Nat => match x_9 with | (i, Ki, Lj, fj, ai) => [(0, .ref z), (1, .ref b), (2, .int (nI p9)), (3, .int (nI (cnt d 24))), (4, .int (nI i))]) (fun x_9 : Nat × List Nat × List Nat × (Nat → va_E) × Nat => match x_9 with | (i, Ki, Lj, fj, ai) => 2 * p9 + 2 * i + (Ki.length - K.length)) (fun x_9 : Nat × List Nat × List Nat × (Nat → va_E) × Nat => match x_9 with | (i, Ki, Lj, fj, ai) => 2 * cnt d 24 * p9 + 2 * cnt d 24 * i + (tri Ki.length - tri K.length)) ?_ ((0, K1, Li, fi, ai)) (⟨Nat.zero_le _, Nat.le_refl _, Nat.le_refl _, hKDi, pX.rf, hsKi, fun z9 => (by rw [if_pos z9] at e2; exact e2), fun z9 => (by rw [if_neg z9] at e2; exact ⟨rfl, e2⟩)⟩) (by first | omega | (dsimp only; omega)) (by first | omega | (dsimp only; omega)) hP hD hS (lv_sub (l' := [(0, .ref z), (1, .ref b), (2, .int (nI p9)), (3, .int (nI (cnt d 24))), (4, .int (nI 0))]) hl [1, 2, 3, 4, 0] rfl)
        rintro ⟨i, Ki, Lj, fj, ai⟩ hinv ih H locs ls hP hD hS hl
        have hP : va_P G.1 vwCl ([(z, .inr (5, [.ref ak, .ref ar, .ref al, .ref alk, .int (nI td), .ref ast, .int (nI aa), .ref ai, .ref amd]))] ++ va_pl (R ++ Lj) fj) _ := hP
        have hD : va_D A ([(z, .inr (5, [.ref ak, .ref ar, .ref al, .ref alk, .int (nI td), .ref ast, .int (nI aa), .ref ai, .ref amd]))] ++ va_pl (R ++ Lj) fj) := hD
        have hl : lv_has ls 6 [(0, .ref z), (1, .ref b), (2, .int (nI p9)), (3, .int (nI (cnt d 24))), (4, .int (nI i))] := hl
        have hinv : i ≤ p9 ∧ Ki.length ≤ K1.length + i ∧ K1.length ≤ Ki.length ∧ KD Ki ∧ pX R Li fi Lj fj ∧ sK G gr Lj fj ai Ki ∧ (2 < p9 → fst1 (spl k ne sp n rc) (fun k9 => nd d (pto d p9 k9)) (p9 - i) i Ki = (o2, K3)) ∧ (¬ 2 < p9 → i = 0 ∧ (none, Ki) = (o2, K3)) := hinv
        have ih := ih
        dsimp only at ih ⊢
        obtain ⟨hi, hKu, hKl, hKDi, hxj, hsKi, hfi, hgi⟩ := hinv
        have htK := tri_le hKl
        have htK0 := tri_le hK10
        have hsim := hsim.mono hxj
        have hib := hib.mono hxj
        have hsF := hsF.mono hxj
        refine lv_iload hx hb dX5_halve_107 (lv_at hl 4 rfl) ?_
        refine lv_iload_n hx hb dX5_halve_109 rfl (lv_at hl 2 rfl) ?_
        refine lv_icmp_ge (tgt := 205) hx hb dX5_halve_110 (by decide) (fun c_110 => ?_) (fun c_110 => ?_)
        · have c_110 := (nI_leI (by omega) (by omega)).mp c_110
          have e7 : p9 = i := by omega
          have hp2 : 2 < p9 := by by_cases z9 : 2 < p9 <;> first | exact z9 | (have := (hgi z9).1; omega)
          have e5 : (o2, K3) = ((none : Option Nat), Ki) := by rw [← hfi hp2, show p9 - i = 0 by omega]; rfl
          subst e7
          cases e5
          refine lv_iload_n hx hb dX5_halve_205 rfl (lv_at hl 2 rfl) ?_
          refine lv_iload_n hx hb dX5_halve_206 rfl (lv_at hl 3 rfl) ?_
          refine lv_icmp_lt (tgt := 212) hx hb dX5_halve_207 (by decide) (fun c_207 => ?_) (fun c_207 => ?_)
          · have c_207 := (nI_ltI (by omega) (by omega)).mp c_207
            have hy9 : hst (spl k ne sp n rc) (d, p9, K, F) = (true, (d, min (p9 * 2) (cnt d 24), K3, F ++ [nI (cnt d 24), nI p9, nI 3, -1, nI d])) := by first | (rw [if_pos hp2] at e2; exact hst_3a (F := F) hc2 e1 hp2 e2 (by omega)) | exact hst_3b (F := F) hc2 e1 hp2 (by omega)
            have hpsi := psi_d0 (cnt d 24) (by omega) p9 (by omega) (rng_t hpp hpm) (by omega)
            have hphi := hph_num2 (cnt d 24) (by omega) p9 (by omega) hpp (by omega)
            have hps2 : (2 < p9 ∧ (if 2 < p9 then 2 * cnt d 24 * p9 else 0) = 2 * cnt d 24 * p9) ∨ (¬ 2 < p9 ∧ (if 2 < p9 then 2 * cnt d 24 * p9 else 0) = 0) := by by_cases z9 : 2 < p9 <;> first | exact Or.inl ⟨z9, if_pos z9⟩ | exact Or.inr ⟨z9, if_neg z9⟩
            obtain ⟨hIy, hmuy, hF5y, hFly, hRy⟩ := mgo_s hy9 hI9 hmu9 hF5 hFl hR9
            obtain ⟨g1, g2, g3, g4⟩ := hrn_gr hRy
            have hFL : (F ++ [nI (cnt d 24), nI p9, nI 3, -1, nI d]).length = F.length + 5 := by rw [List.length_append]; rfl
            have hFD : (F ++ [nI (cnt d 24), nI p9, nI 3, -1, nI d]).length / 5 = F.length / 5 + 1 := by omega
            have hFT : tri ((F ++ [nI (cnt d 24), nI p9, nI 3, -1, nI d]).length / 5) = tri (F.length / 5) + (F.length / 5 + 1) := by rw [hFD]; rfl
            refine lv_aload_n hx hb dX5_halve_212 rfl (lv_at hl 0 rfl) ?_
            refine lv_aload_n hx hb dX5_halve_213 rfl (lv_at hl 0 rfl) ?_
            refine va_get (D := G.1) (ci := 5) (v := .ref amd) (C := RX5) (T := TX5) (N := 9) hx hb hts hin5 hown hK hP 0 rfl rfl 8 (by decide) (hts (.fieldLink RX5 30 "FaultShrinkerLaw$Sim" "made" "[[I") (List.mem_of_getElem? (i := 1) rfl)) (fun _ h9 => h9) rfl dX5_halve_214 ?_
            refine lv_iconst (v := nI 5) hx hb dX5_halve_217 (by decide +kernel) ?_
            refine p_newI hx hb (hts (.arrayClass .int) (List.mem_of_getElem? (i := 2) rfl)) hK hP hD hS hA (N' := 5) rfl (by omega) (by first | omega | (dsimp only; omega)) (by first | omega | (dsimp only; omega)) dX5_halve_218 (fun q218 H hP hD hS => ?_)
            have hP : va_P G.1 vwCl ([(z, .inr (5, [.ref ak, .ref ar, .ref al, .ref alk, .int (nI td), .ref ast, .int (nI aa), .ref ai, .ref amd])), (q218, .inl (G.2.1, 5, .inl (nF (fun _ => 0))))] ++ va_pl (R ++ Lj) fj) _ := hP
            have hD : va_D A ([(z, .inr (5, [.ref ak, .ref ar, .ref al, .ref alk, .int (nI td), .ref ast, .int (nI aa), .ref ai, .ref amd])), (q218, .inl (G.2.1, 5, .inl (nF (fun _ => 0))))] ++ va_pl (R ++ Lj) fj) := hD
            have hP : va_P G.1 vwCl ([(z, .inr (5, [.ref ak, .ref ar, .ref al, .ref alk, .int (nI td), .ref ast, .int (nI aa), .ref ai, .ref amd])), (q218, .inl (G.2.1, 5, .inl (nF (fun _ => 0))))] ++ va_pl (R ++ Lj) fj) _ := hP
            have hD : va_D A ([(z, .inr (5, [.ref ak, .ref ar, .ref al, .ref alk, .int (nI td), .ref ast, .int (nI aa), .ref ai, .ref amd])), (q218, .inl (G.2.1, 5, .inl (nF (fun _ => 0))))] ++ va_pl (R ++ Lj) fj) := hD
            refine lv_dup hx hb dX5_halve_220 rfl ?_
            refine lv_iconst (v := nI 0) hx hb dX5_halve_221 (by decide +kernel) ?_
            refine lv_iload_n hx hb dX5_halve_222 rfl (lv_at hl 3 rfl) ?_
            refine va_iast hx hb hK hP hD hS 1 0 rfl rfl (vp_in_nI (by omega) (by omega)) dX5_halve_223 (fun H locs hP hD hS => ?_)
            rw [aF_upd _ (by omega)] at hP hD
            have hP : va_P G.1 vwCl ([(z, .inr (5, [.ref ak, .ref ar, .ref al, .ref alk, .int (nI td), .ref ast, .int (nI aa), .ref ai, .ref amd])), (q218, .inl (G.2.1, 5, .inl (va_up (nF (fun _ => 0)) 0 (nI (cnt d 24)))))] ++ va_pl (R ++ Lj) fj) _ := hP
            have hD : va_D A ([(z, .inr (5, [.ref ak, .ref ar, .ref al, .ref alk, .int (nI td), .ref ast, .int (nI aa), .ref ai, .ref amd])), (q218, .inl (G.2.1, 5, .inl (va_up (nF (fun _ => 0)) 0 (nI (cnt d 24)))))] ++ va_pl (R ++ Lj) fj) := hD
            refine lv_dup hx hb dX5_halve_224 rfl ?_
            refine lv_iconst (v := nI 1) hx hb dX5_halve_225 (by decide +kernel) ?_
            refine lv_iload_n hx hb dX5_halve_226 rfl (lv_at hl 2 rfl) ?_
            refine va_iast hx hb hK hP hD hS 1 0 rfl rfl (vp_in_nI (by omega) (by omega)) dX5_halve_227 (fun H locs hP hD hS => ?_)
            rw [aF_upd _ (by omega)] at hP hD
            have hP : va_P G.1 vwCl ([(z, .inr (5, [.ref ak, .ref ar, .ref al, .ref alk, .int (nI td), .ref ast, .int (nI aa), .ref ai, .ref amd])), (q218, .inl (G.2.1, 5, .inl (va_up (va_up (nF (fun _ => 0)) 0 (nI (cnt d 24))) 1 (nI p9))))] ++ va_pl (R ++ Lj) fj) _ := hP
            have hD : va_D A ([(z, .inr (5, [.ref ak, .ref ar, .ref al, .ref alk, .int (nI td), .ref ast, .int (nI aa), .ref ai, .ref amd])), (q218, .inl (G.2.1, 5, .inl (va_up (va_up (nF (fun _ => 0)) 0 (nI (cnt d 24))) 1 (nI p9))))] ++ va_pl (R ++ Lj) fj) := hD
            refine lv_dup hx hb dX5_halve_228 rfl ?_
            refine lv_iconst (v := nI 2) hx hb dX5_halve_229 (by decide +kernel) ?_
            refine lv_iconst (v := nI 3) hx hb dX5_halve_230 (by decide +kernel) ?_
            refine va_iast hx hb hK hP hD hS 1 0 rfl rfl (vp_in_nI (by omega) (by omega)) dX5_halve_231 (fun H locs hP hD hS => ?_)
            rw [aF_upd _ (by omega)] at hP hD
            have hP : va_P G.1 vwCl ([(z, .inr (5, [.ref ak, .ref ar, .ref al, .ref alk, .int (nI td), .ref ast, .int (nI aa), .ref ai, .ref amd])), (q218, .inl (G.2.1, 5, .inl (va_up (va_up (va_up (nF (fun _ => 0)) 0 (nI (cnt d 24))) 1 (nI p9)) 2 (nI 3))))] ++ va_pl (R ++ Lj) fj) _ := hP
            have hD : va_D A ([(z, .inr (5, [.ref ak, .ref ar, .ref al, .ref alk, .int (nI td), .ref ast, .int (nI aa), .ref ai, .ref amd])), (q218, .inl (G.2.1, 5, .inl (va_up (va_up (va_up (nF (fun _ => 0)) 0 (nI (cnt d 24))) 1 (nI p9)) 2 (nI 3))))] ++ va_pl (R ++ Lj) fj) := hD
            refine lv_dup hx hb dX5_halve_232 rfl ?_
            refine lv_iconst (v := nI 3) hx hb dX5_halve_233 (by decide +kernel) ?_
            refine lv_iconst (v := (-1)) hx hb dX5_halve_234 (by decide +kernel) ?_
            refine va_iast hx hb hK hP hD hS 1 0 rfl rfl (vp_in_nI (by omega) (by omega)) dX5_halve_235 (fun H locs hP hD hS => ?_)
            rw [aF_upd _ (by omega)] at hP hD
            have hP : va_P G.1 vwCl ([(z, .inr (5, [.ref ak, .ref ar, .ref al, .ref alk, .int (nI td), .ref ast, .int (nI aa), .ref ai, .ref amd])), (q218, .inl (G.2.1, 5, .inl (va_up (va_up (va_up (va_up (nF (fun _ => 0)) 0 (nI (cnt d 24))) 1 (nI p9)) 2 (nI 3)) 3 (-1))))] ++ va_pl (R ++ Lj) fj) _ := hP
            have hD : va_D A ([(z, .inr (5, [.ref ak, .ref ar, .ref al, .ref alk, .int (nI td), .ref ast, .int (nI aa), .ref ai, .ref amd])), (q218, .inl (G.2.1, 5, .inl (va_up (va_up (va_up (va_up (nF (fun _ => 0)) 0 (nI (cnt d 24))) 1 (nI p9)) 2 (nI 3)) 3 (-1))))] ++ va_pl (R ++ Lj) fj) := hD
            refine lv_dup hx hb dX5_halve_236 rfl ?_
            refine lv_iconst (v := nI 4) hx hb dX5_halve_237 (by decide +kernel) ?_
            refine lv_aload_n hx hb dX5_halve_238 rfl (lv_at hl 1 rfl) ?_
            refine p_si (X := [(z, .inr (5, [.ref ak, .ref ar, .ref al, .ref alk, .int (nI td), .ref ast, .int (nI aa), .ref ai, .ref amd])), (q218, .inl (G.2.1, 5, .inl (va_up (va_up (va_up (va_up (nF (fun _ => 0)) 0 (nI (cnt d 24))) 1 (nI p9)) 2 (nI 3)) 3 (-1))))]) (cx := ([] : va_W)) (As := [.ref b]) (rest := [.int (nI 4), .ref q218, .ref q218, .ref amd, .ref z]) (wr := [(z, .inr (5, [.ref ak, .ref ar, .ref al, .ref alk, .int (nI td), .ref ast, .int (nI aa), .ref ai, .ref amd])), (q218, .inl (G.2.1, 5, .inl (va_up (va_up (va_up (va_up (nF (fun _ => 0)) 0 (nI (cnt d 24))) 1 (nI p9)) 2 (nI 3)) 3 (-1))))]) ⟨hx, hb, hml, hown, hts⟩ hK hQ hP hD hS hA hZ hN (c_X5_bits l G gr sa R Lj fj b d (hd24) (hib)) (va_cwS 1 hts gX5_halve_X5_bits rfl rfl rfl (by decide +kernel) ⟨by first | omega | (dsimp only; omega), by first | omega | (dsimp only; omega)⟩) [] [0, 1] ⟨rfl, rfl, by decide, by decide, by decide⟩ rfl hl.1 rfl (Nat.le_of_ble_eq_true rfl) ⟨by first | omega | (dsimp only; omega), by first | omega | (dsimp only; omega)⟩ dX5_halve_239 (fun r u_1 H locs hw hP hD hS => ?_)
            try dsimp only at hw
            have hP : va_P G.1 vwCl ([(z, .inr (5, [.ref ak, .ref ar, .ref al, .ref alk, .int (nI td), .ref ast, .int (nI aa), .ref ai, .ref amd])), (q218, .inl (G.2.1, 5, .inl (va_up (va_up (va_up (va_up (nF (fun _ => 0)) 0 (nI (cnt d 24))) 1 (nI p9)) 2 (nI 3)) 3 (-1))))] ++ va_pl (R ++ Lj) fj) H := hP
            have hD : va_D A ([(z, .inr (5, [.ref ak, .ref ar, .ref al, .ref alk, .int (nI td), .ref ast, .int (nI aa), .ref ai, .ref amd])), (q218, .inl (G.2.1, 5, .inl (va_up (va_up (va_up (va_up (nF (fun _ => 0)) 0 (nI (cnt d 24))) 1 (nI p9)) 2 (nI 3)) 3 (-1))))] ++ va_pl (R ++ Lj) fj) := hD
            subst hw
            refine va_iast hx hb hK hP hD hS 1 0 rfl rfl (vp_in_nI (by omega) (by omega)) dX5_halve_242 (fun H locs hP hD hS => ?_)
            rw [aF_upd _ (by omega)] at hP hD
            have hP : va_P G.1 vwCl ([(z, .inr (5, [.ref ak, .ref ar, .ref al, .ref alk, .int (nI td), .ref ast, .int (nI aa), .ref ai, .ref amd])), (q218, .inl (G.2.1, 5, .inl (va_up (va_up (va_up (va_up (va_up (nF (fun _ => 0)) 0 (nI (cnt d 24))) 1 (nI p9)) 2 (nI 3)) 3 (-1)) 4 (nI d))))] ++ va_pl (R ++ Lj) fj) _ := hP
            have hD : va_D A ([(z, .inr (5, [.ref ak, .ref ar, .ref al, .ref alk, .int (nI td), .ref ast, .int (nI aa), .ref ai, .ref amd])), (q218, .inl (G.2.1, 5, .inl (va_up (va_up (va_up (va_up (va_up (nF (fun _ => 0)) 0 (nI (cnt d 24))) 1 (nI p9)) 2 (nI 3)) 3 (-1)) 4 (nI d))))] ++ va_pl (R ++ Lj) fj) := hD
            obtain ⟨hP, hD, hx_2, hmF, heF⟩ := p_frz (X := [(z, .inr (5, [.ref ak, .ref ar, .ref al, .ref alk, .int (nI td), .ref ast, .int (nI aa), .ref ai, .ref amd]))]) (RR := R) (L := Lj) (f := fj) hP hD
            obtain ⟨L_2, f_2, hLF, hfF⟩ : ∃ L9 f9, L9 = Lj ++ [q218] ∧ f9 = va_up fj q218 (.inl (G.2.1, 5, .inl (va_up (va_up (va_up (va_up (va_up (nF (fun _ => 0)) 0 (nI (cnt d 24))) 1 (nI p9)) 2 (nI 3)) 3 (-1)) 4 (nI d)))) := ⟨_, _, rfl, rfl⟩
            rw [← hLF, ← hfF] at hP hD hx_2
            rw [← hLF] at hmF
            rw [← hfF] at heF
            have h5 : fI G L_2 f_2 q218 5 (fun i9 => [nI (cnt d 24), nI p9, nI 3, -1, nI d].getD i9 0) := ⟨hmF, _, heF, (fun j hj => i5_e _ _ _ _ _ _ hj)⟩
            clear hmF heF hLF hfF
            have hsim := hsim.mono hx_2
            have hib := hib.mono hx_2
            have hsF := hsF.mono hx_2
            have hsKi := hsKi.mono hx_2
            have hP : va_P G.1 vwCl ([(z, .inr (5, [.ref ak, .ref ar, .ref al, .ref alk, .int (nI td), .ref ast, .int (nI aa), .ref ai, .ref amd]))] ++ va_pl (R ++ L_2) f_2) _ := hP
            have hD : va_D A ([(z, .inr (5, [.ref ak, .ref ar, .ref al, .ref alk, .int (nI td), .ref ast, .int (nI aa), .ref ai, .ref amd]))] ++ va_pl (R ++ L_2) f_2) := hD
            have hsF0 := hsF
            obtain ⟨rrF, hsR, hsI⟩ := hsF0
            refine p_sr (X := [(z, .inr (5, [.ref ak, .ref ar, .ref al, .ref alk, .int (nI td), .ref ast, .int (nI aa), .ref ai, .ref amd]))]) (cx := ([] : va_W)) (As := [.ref amd, .ref q218]) (rest := [.ref z]) (wr := [(z, .inr (5, [.ref ak, .ref ar, .ref al, .ref alk, .int (nI td), .ref ast, .int (nI aa), .ref ai, .ref amd]))]) ⟨hx, hb, hml, hown, hts⟩ hK hQ hP hD hS hA hZ hN (c_X5_more l G gr sa R L_2 f_2 amd q218 (F.length / 5) 5 rrF (fun i9 => [nI (cnt d 24), nI p9, nI 3, -1, nI d].getD i9 0) (by first | assumption | omega) (hsR) (fun j hj => ⟨_, _, (hsI j hj).l R⟩) (h5.l R)) (va_cwS 2 hts gX5_halve_X5_more rfl rfl rfl (by decide +kernel) ⟨by first | omega | (dsimp only; omega), by first | omega | (dsimp only; omega)⟩) [] [0] ⟨rfl, rfl, by decide, by decide, by decide⟩ rfl hl.1 rfl (Nat.le_of_ble_eq_true rfl) ⟨by first | omega | (dsimp only; omega), by first | omega | (dsimp only; omega)⟩ dX5_halve_243 (fun cm u_3 H locs hw hP hD hS => ?_)
            obtain ⟨L_3, f_3⟩ := u_3
            try dsimp only at hw
            have hP : va_P G.1 vwCl ([(z, .inr (5, [.ref ak, .ref ar, .ref al, .ref alk, .int (nI td), .ref ast, .int (nI aa), .ref ai, .ref amd]))] ++ va_pl (R ++ L_3) f_3) H := hP
            have hD : va_D A ([(z, .inr (5, [.ref ak, .ref ar, .ref al, .ref alk, .int (nI td), .ref ast, .int (nI aa), .ref ai, .ref amd]))] ++ va_pl (R ++ L_3) f_3) := hD
            obtain ⟨hx_3, hr_3⟩ := hw
            have hsim := hsim.mono hx_3
            have hib := hib.mono hx_3
            have hsF := hsF.mono hx_3
            have hsKi := hsKi.mono hx_3
            have h5 := h5.mono hx_3
            have hsFN : sF G gr L_3 f_3 cm (F ++ [nI (cnt d 24), nI p9, nI 3, -1, nI d]) := sF.push hF5 hr_3 (fun j hj => (hsI j hj).mono hx_3) h5
            refine va_put (D := G.1) (ci := 5) (v := .ref cm) (ty := .array (.array .int)) (C := RX5) (T := TX5) (N := 9) hx hb hts hin5 tyX5 tyX5_ok nmX5 hown hK hP hD hS 0 rfl rfl 8 (by decide) (hts (.fieldLink RX5 30 "FaultShrinkerLaw$Sim" "made" "[[I") (List.mem_of_getElem? (i := 1) rfl)) (fun _ h9 => h9) rfl (by decide +kernel) rfl rfl (Nat.le_of_ble_eq_true rfl) dX5_halve_246 (fun H locs hP hD hS => ?_)
            have hP : va_P G.1 vwCl ([(z, .inr (5, [.ref ak, .ref ar, .ref al, .ref alk, .int (nI td), .ref ast, .int (nI aa), .ref ai, .ref cm]))] ++ va_pl (R ++ L_3) f_3) _ := hP
            have hD : va_D A ([(z, .inr (5, [.ref ak, .ref ar, .ref al, .ref alk, .int (nI td), .ref ast, .int (nI aa), .ref ai, .ref cm]))] ++ va_pl (R ++ L_3) f_3) := hD
            refine lv_aload_n hx hb dX5_halve_249 rfl (lv_at hl 0 rfl) ?_
            refine lv_aload_n hx hb dX5_halve_250 rfl (lv_at hl 1 rfl) ?_
            refine lv_iload_n hx hb dX5_halve_251 rfl (lv_at hl 3 rfl) ?_
            refine lv_iload_n hx hb dX5_halve_252 rfl (lv_at hl 2 rfl) ?_
            refine lv_iload_n hx hb dX5_halve_253 rfl (lv_at hl 2 rfl) ?_
            refine lv_iadd hx hb dX5_halve_254 ?_
            refine cs_i (y := nI (p9 + p9)) (nI_add _ _) ?_
            refine va_mmin hx hb (by rw [hml]; exact hl.1.symm) hown (hts (.methodLink RX5 75 Lib.Math.min.name) (List.mem_of_getElem? (i := 3) rfl)) (hts (.static Lib.Math.min.name) (List.mem_of_getElem? (i := 4) rfl)) (hts (.initialized "java/lang/Math") (List.mem_of_getElem? (i := 5) rfl)) (hts (.code Lib.Math.min.name Lib.Math.min.code 2 (some .int)) (List.mem_of_getElem? (i := 6) rfl)) (Nat.le_trans (m := 1) (Nat.le_of_ble_eq_true rfl) (by first | omega | (dsimp only; omega))) (Nat.le_trans (m := 60) (Nat.le_of_ble_eq_true rfl) (by first | omega | (dsimp only; omega))) (by first | omega | (dsimp only; omega)) (by first | omega | (dsimp only; omega)) dX5_halve_255 ?_
            refine cs_i (y := nI (min (p9 * 2) (cnt d 24))) ((nI_min (by omega) (by omega)).trans (congrArg nI (by omega))) ?_
            refine p_vr (X := [(z, .inr (5, [.ref ak, .ref ar, .ref al, .ref alk, .int (nI td), .ref ast, .int (nI aa), .ref ai, .ref cm]))]) (cx := [(z, .inr (5, [.ref ak, .ref ar, .ref al, .ref alk, .int (nI td), .ref ast, .int (nI aa), .ref ai, .ref cm]))]) (As := [.ref b, .int (nI (min (p9 * 2) (cnt d 24)))]) (rest := []) (wr := ([] : va_W)) ⟨hx, hb, hml, hown, hts⟩ hK hQ hP hD hS hA hZ hN (ihr R L_3 f_3 z ak ar al alk ast ai cm td aa n rc k ne sp (by first | assumption | omega) (by first | assumption | omega) (by first | assumption | omega) (by first | assumption | omega) (by first | assumption | omega) (by first | assumption | omega) (by first | assumption | omega) b d (min (p9 * 2) (cnt d 24)) K3 (F ++ [nI (cnt d 24), nI p9, nI 3, -1, nI d]) d2 n2 K2 F2 (K2.length + F2.length + 2 * hph (cnt d 24) (min (p9 * 2) (cnt d 24)) - ((K3).length + (F ++ [nI (cnt d 24), nI p9, nI 3, -1, nI d]).length)) (tri K2.length + tri (F2.length / 5) + F2.length + psi (cnt d 24) (min (p9 * 2) (cnt d 24)) - (tri (K3).length + tri ((F ++ [nI (cnt d 24), nI p9, nI 3, -1, nI d]).length / 5) + (F ++ [nI (cnt d 24), nI p9, nI 3, -1, nI d]).length)) (hd) (hib) (by first | assumption | omega) (hIy) (hmuy) (hF5y) (hFly) (hsKi) (hKDi) (hsFN) (hRy) (by omega) (by omega)) (cwV 2 hts gX5_halve_X5_halve rfl rfl rfl (by decide +kernel) ⟨by first | omega | (dsimp only; omega), by first | omega | (dsimp only; omega)⟩) [0] [] ⟨rfl, rfl, by decide, by decide, by decide⟩ 0 5 rfl rfl rfl hl.1 rfl (Nat.le_of_ble_eq_true rfl) ⟨by first | omega | (dsimp only; omega), by first | omega | (dsimp only; omega)⟩ dX5_halve_258 (fun cr u_4 H locs hw hP hD hS => ?_)
            obtain ⟨⟨L_4, f_4⟩, an_4, am_4⟩ := u_4
            try dsimp only at hw
            have hP : va_P G.1 vwCl ([(z, .inr (5, [.ref ak, .ref ar, .ref al, .ref alk, .int (nI td), .ref ast, .int (nI aa), .ref an_4, .ref am_4]))] ++ va_pl (R ++ L_4) f_4) H := hP
            have hD : va_D A ([(z, .inr (5, [.ref ak, .ref ar, .ref al, .ref alk, .int (nI td), .ref ast, .int (nI aa), .ref an_4, .ref am_4]))] ++ va_pl (R ++ L_4) f_4) := hD
            obtain ⟨hx_4, hr_4, hsK_4, hsF_4⟩ := hw
            have hsim := hsim.mono hx_4
            have hib := hib.mono hx_4
            have hsF := hsF.mono hx_4
            have hsKi := hsKi.mono hx_4
            have h5 := h5.mono hx_4
            have hsFN := hsFN.mono hx_4
            refine W.widen (k := C9) (n := S9) (by first | omega | (dsimp only; omega)) (by first | omega | (dsimp only; omega)) ?_
            exact p_aret (rt := .array .int) hx hb hr ⟨.int, rfl⟩ hlocks hK hP hD hS (v := cr) ((L_4, f_4), an_4, am_4) (⟨((((hxi.trans hxj).trans hx_2).trans hx_3).trans hx_4), hr_4, hsK_4, hsF_4⟩) (rfl) dX5_halve_261
          · have c_207 := mt (nI_ltI (by omega) (by omega)).mpr c_207
            have hy9 : hst (spl k ne sp n rc) (d, p9, K, F) = (false, (d, p9, K3, F)) := by first | (rw [if_pos hp2] at e2; exact hst_4a (F := F) hc2 e1 hp2 e2 (by omega)) | exact hst_4b (F := F) hc2 e1 hp2 (by omega)
            have e5 := mgo_e hy9 hR9
            cases e5
            have hpsi := psi_e0 (cnt d 24) (by omega) p9 (by omega) (rng_t hpp hpm)
            have hphi := hph_num3 (cnt d 24) (by omega) p9 (by omega) hpp hpm
            have hps2 : (2 < p9 ∧ (if 2 < p9 then 2 * cnt d 24 * p9 else 0) = 2 * cnt d 24 * p9) ∨ (¬ 2 < p9 ∧ (if 2 < p9 then 2 * cnt d 24 * p9 else 0) = 0) := by by_cases z9 : 2 < p9 <;> first | exact Or.inl ⟨z9, if_pos z9⟩ | exact Or.inr ⟨z9, if_neg z9⟩
            refine lv_aload_n hx hb dX5_halve_210 rfl (lv_at hl 1 rfl) ?_
            refine W.widen (k := C9) (n := S9) (by first | omega | (dsimp only; omega)) (by first | omega | (dsimp only; omega)) ?_
            exact p_aret (rt := .array .int) hx hb hr ⟨.int, rfl⟩ hlocks hK hP hD hS (v := b) ((Lj, fj), ai, amd) (⟨(hxi.trans hxj), hib, hsKi, hsF⟩) (rfl) dX5_halve_211
        · have c_110 := mt (nI_leI (by omega) (by omega)).mpr c_110
          have hq := pto_num (m := cnt d 24) (n := p9) (k := i) (by omega) (by omega) hpp hpm
          have hm1 : i * cnt d 24 ≤ 24 * 24 := Nat.mul_le_mul (by omega) (by omega)
          have hm2 : (i + 1) * cnt d 24 ≤ 24 * 24 := Nat.mul_le_mul (by omega) (by omega)
          have hMi : 2 * cnt d 24 * (i + 1) = 2 * cnt d 24 * i + 2 * cnt d 24 := Nat.mul_succ _ _
          have hlkl := lk_ge Ki (nd d (pto d p9 i))
          have hlku := lk_le Ki (nd d (pto d p9 i))
          have htl := tri_le hlkl
          refine lv_iload_n hx hb dX5_halve_113 rfl (lv_at hl 2 rfl) ?_
          refine lv_iconst (v := nI 2) hx hb dX5_halve_114 (by decide +kernel) ?_
          refine lv_icmp_le (tgt := 205) hx hb dX5_halve_115 (by decide) (fun c_115 => ?_) (fun c_115 => ?_)
          · have c_115 := (nI_leI (by omega) (by omega)).mp c_115
            have hp2 : ¬ 2 < p9 := by omega
            obtain ⟨e7, e5⟩ := hgi hp2
            subst e7
            cases e5.symm
            rw [if_neg hp2] at e2
            cases e2
            refine lv_iload_n hx hb dX5_halve_205 rfl (lv_at hl 2 rfl) ?_
            refine lv_iload_n hx hb dX5_halve_206 rfl (lv_at hl 3 rfl) ?_
            refine lv_icmp_lt (tgt := 212) hx hb dX5_halve_207 (by decide) (fun c_207 => ?_) (fun c_207 => ?_)
            · have c_207 := (nI_ltI (by omega) (by omega)).mp c_207
              have hy9 : hst (spl k ne sp n rc) (d, p9, K, F) = (true, (d, min (p9 * 2) (cnt d 24), K1, F ++ [nI (cnt d 24), nI p9, nI 3, -1, nI d])) := by first | (rw [if_pos hp2] at e2; exact hst_3a (F := F) hc2 e1 hp2 e2 (by omega)) | exact hst_3b (F := F) hc2 e1 hp2 (by omega)
              have hpsi := psi_d0 (cnt d 24) (by omega) p9 (by omega) (rng_t hpp hpm) (by omega)
              have hphi := hph_num2 (cnt d 24) (by omega) p9 (by omega) hpp (by omega)
              have hps2 : (2 < p9 ∧ (if 2 < p9 then 2 * cnt d 24 * p9 else 0) = 2 * cnt d 24 * p9) ∨ (¬ 2 < p9 ∧ (if 2 < p9 then 2 * cnt d 24 * p9 else 0) = 0) := by by_cases z9 : 2 < p9 <;> first | exact Or.inl ⟨z9, if_pos z9⟩ | exact Or.inr ⟨z9, if_neg z9⟩
              obtain ⟨hIy, hmuy, hF5y, hFly, hRy⟩ := mgo_s hy9 hI9 hmu9 hF5 hFl hR9
              obtain ⟨g1, g2, g3, g4⟩ := hrn_gr hRy
              have hFL : (F ++ [nI (cnt d 24), nI p9, nI 3, -1, nI d]).length = F.length + 5 := by rw [List.length_append]; rfl
              have hFD : (F ++ [nI (cnt d 24), nI p9, nI 3, -1, nI d]).length / 5 = F.length / 5 + 1 := by omega
              have hFT : tri ((F ++ [nI (cnt d 24), nI p9, nI 3, -1, nI d]).length / 5) = tri (F.length / 5) + (F.length / 5 + 1) := by rw [hFD]; rfl
              refine lv_aload_n hx hb dX5_halve_212 rfl (lv_at hl 0 rfl) ?_
              refine lv_aload_n hx hb dX5_halve_213 rfl (lv_at hl 0 rfl) ?_
              refine va_get (D := G.1) (ci := 5) (v := .ref amd) (C := RX5) (T := TX5) (N := 9) hx hb hts hin5 hown hK hP 0 rfl rfl 8 (by decide) (hts (.fieldLink RX5 30 "FaultShrinkerLaw$Sim" "made" "[[I") (List.mem_of_getElem? (i := 1) rfl)) (fun _ h9 => h9) rfl dX5_halve_214 ?_
              refine lv_iconst (v := nI 5) hx hb dX5_halve_217 (by decide +kernel) ?_
              refine p_newI hx hb (hts (.arrayClass .int) (List.mem_of_getElem? (i := 2) rfl)) hK hP hD hS hA (N' := 5) rfl (by omega) (by first | omega | (dsimp only; omega)) (by first | omega | (dsimp only; omega)) dX5_halve_218 (fun q218 H hP hD hS => ?_)
              have hP : va_P G.1 vwCl ([(z, .inr (5, [.ref ak, .ref ar, .ref al, .ref alk, .int (nI td), .ref ast, .int (nI aa), .ref ai, .ref amd])), (q218, .inl (G.2.1, 5, .inl (nF (fun _ => 0))))] ++ va_pl (R ++ Lj) fj) _ := hP
              have hD : va_D A ([(z, .inr (5, [.ref ak, .ref ar, .ref al, .ref alk, .int (nI td), .ref ast, .int (nI aa), .ref ai, .ref amd])), (q218, .inl (G.2.1, 5, .inl (nF (fun _ => 0))))] ++ va_pl (R ++ Lj) fj) := hD
              have hP : va_P G.1 vwCl ([(z, .inr (5, [.ref ak, .ref ar, .ref al, .ref alk, .int (nI td), .ref ast, .int (nI aa), .ref ai, .ref amd])), (q218, .inl (G.2.1, 5, .inl (nF (fun _ => 0))))] ++ va_pl (R ++ Lj) fj) _ := hP
              have hD : va_D A ([(z, .inr (5, [.ref ak, .ref ar, .ref al, .ref alk, .int (nI td), .ref ast, .int (nI aa), .ref ai, .ref amd])), (q218, .inl (G.2.1, 5, .inl (nF (fun _ => 0))))] ++ va_pl (R ++ Lj) fj) := hD
              refine lv_dup hx hb dX5_halve_220 rfl ?_
              refine lv_iconst (v := nI 0) hx hb dX5_halve_221 (by decide +kernel) ?_
              refine lv_iload_n hx hb dX5_halve_222 rfl (lv_at hl 3 rfl) ?_
              refine va_iast hx hb hK hP hD hS 1 0 rfl rfl (vp_in_nI (by omega) (by omega)) dX5_halve_223 (fun H locs hP hD hS => ?_)
              rw [aF_upd _ (by omega)] at hP hD
              have hP : va_P G.1 vwCl ([(z, .inr (5, [.ref ak, .ref ar, .ref al, .ref alk, .int (nI td), .ref ast, .int (nI aa), .ref ai, .ref amd])), (q218, .inl (G.2.1, 5, .inl (va_up (nF (fun _ => 0)) 0 (nI (cnt d 24)))))] ++ va_pl (R ++ Lj) fj) _ := hP
              have hD : va_D A ([(z, .inr (5, [.ref ak, .ref ar, .ref al, .ref alk, .int (nI td), .ref ast, .int (nI aa), .ref ai, .ref amd])), (q218, .inl (G.2.1, 5, .inl (va_up (nF (fun _ => 0)) 0 (nI (cnt d 24)))))] ++ va_pl (R ++ Lj) fj) := hD
              refine lv_dup hx hb dX5_halve_224 rfl ?_
              refine lv_iconst (v := nI 1) hx hb dX5_halve_225 (by decide +kernel) ?_
              refine lv_iload_n hx hb dX5_halve_226 rfl (lv_at hl 2 rfl) ?_
              refine va_iast hx hb hK hP hD hS 1 0 rfl rfl (vp_in_nI (by omega) (by omega)) dX5_halve_227 (fun H locs hP hD hS => ?_)
              rw [aF_upd _ (by omega)] at hP hD
              have hP : va_P G.1 vwCl ([(z, .inr (5, [.ref ak, .ref ar, .ref al, .ref alk, .int (nI td), .ref ast, .int (nI aa), .ref ai, .ref amd])), (q218, .inl (G.2.1, 5, .inl (va_up (va_up (nF (fun _ => 0)) 0 (nI (cnt d 24))) 1 (nI p9))))] ++ va_pl (R ++ Lj) fj) _ := hP
              have hD : va_D A ([(z, .inr (5, [.ref ak, .ref ar, .ref al, .ref alk, .int (nI td), .ref ast, .int (nI aa), .ref ai, .ref amd])), (q218, .inl (G.2.1, 5, .inl (va_up (va_up (nF (fun _ => 0)) 0 (nI (cnt d 24))) 1 (nI p9))))] ++ va_pl (R ++ Lj) fj) := hD
              refine lv_dup hx hb dX5_halve_228 rfl ?_
              refine lv_iconst (v := nI 2) hx hb dX5_halve_229 (by decide +kernel) ?_
              refine lv_iconst (v := nI 3) hx hb dX5_halve_230 (by decide +kernel) ?_
              refine va_iast hx hb hK hP hD hS 1 0 rfl rfl (vp_in_nI (by omega) (by omega)) dX5_halve_231 (fun H locs hP hD hS => ?_)
              rw [aF_upd _ (by omega)] at hP hD
              have hP : va_P G.1 vwCl ([(z, .inr (5, [.ref ak, .ref ar, .ref al, .ref alk, .int (nI td), .ref ast, .int (nI aa), .ref ai, .ref amd])), (q218, .inl (G.2.1, 5, .inl (va_up (va_up (va_up (nF (fun _ => 0)) 0 (nI (cnt d 24))) 1 (nI p9)) 2 (nI 3))))] ++ va_pl (R ++ Lj) fj) _ := hP
              have hD : va_D A ([(z, .inr (5, [.ref ak, .ref ar, .ref al, .ref alk, .int (nI td), .ref ast, .int (nI aa), .ref ai, .ref amd])), (q218, .inl (G.2.1, 5, .inl (va_up (va_up (va_up (nF (fun _ => 0)) 0 (nI (cnt d 24))) 1 (nI p9)) 2 (nI 3))))] ++ va_pl (R ++ Lj) fj) := hD
              refine lv_dup hx hb dX5_halve_232 rfl ?_
              refine lv_iconst (v := nI 3) hx hb dX5_halve_233 (by decide +kernel) ?_
              refine lv_iconst (v := (-1)) hx hb dX5_halve_234 (by decide +kernel) ?_
              refine va_iast hx hb hK hP hD hS 1 0 rfl rfl (vp_in_nI (by omega) (by omega)) dX5_halve_235 (fun H locs hP hD hS => ?_)
              rw [aF_upd _ (by omega)] at hP hD
              have hP : va_P G.1 vwCl ([(z, .inr (5, [.ref ak, .ref ar, .ref al, .ref alk, .int (nI td), .ref ast, .int (nI aa), .ref ai, .ref amd])), (q218, .inl (G.2.1, 5, .inl (va_up (va_up (va_up (va_up (nF (fun _ => 0)) 0 (nI (cnt d 24))) 1 (nI p9)) 2 (nI 3)) 3 (-1))))] ++ va_pl (R ++ Lj) fj) _ := hP
              have hD : va_D A ([(z, .inr (5, [.ref ak, .ref ar, .ref al, .ref alk, .int (nI td), .ref ast, .int (nI aa), .ref ai, .ref amd])), (q218, .inl (G.2.1, 5, .inl (va_up (va_up (va_up (va_up (nF (fun _ => 0)) 0 (nI (cnt d 24))) 1 (nI p9)) 2 (nI 3)) 3 (-1))))] ++ va_pl (R ++ Lj) fj) := hD
              refine lv_dup hx hb dX5_halve_236 rfl ?_
              refine lv_iconst (v := nI 4) hx hb dX5_halve_237 (by decide +kernel) ?_
              refine lv_aload_n hx hb dX5_halve_238 rfl (lv_at hl 1 rfl) ?_
              refine p_si (X := [(z, .inr (5, [.ref ak, .ref ar, .ref al, .ref alk, .int (nI td), .ref ast, .int (nI aa), .ref ai, .ref amd])), (q218, .inl (G.2.1, 5, .inl (va_up (va_up (va_up (va_up (nF (fun _ => 0)) 0 (nI (cnt d 24))) 1 (nI p9)) 2 (nI 3)) 3 (-1))))]) (cx := ([] : va_W)) (As := [.ref b]) (rest := [.int (nI 4), .ref q218, .ref q218, .ref amd, .ref z]) (wr := [(z, .inr (5, [.ref ak, .ref ar, .ref al, .ref alk, .int (nI td), .ref ast, .int (nI aa), .ref ai, .ref amd])), (q218, .inl (G.2.1, 5, .inl (va_up (va_up (va_up (va_up (nF (fun _ => 0)) 0 (nI (cnt d 24))) 1 (nI p9)) 2 (nI 3)) 3 (-1))))]) ⟨hx, hb, hml, hown, hts⟩ hK hQ hP hD hS hA hZ hN (c_X5_bits l G gr sa R Lj fj b d (hd24) (hib)) (va_cwS 1 hts gX5_halve_X5_bits rfl rfl rfl (by decide +kernel) ⟨by first | omega | (dsimp only; omega), by first | omega | (dsimp only; omega)⟩) [] [0, 1] ⟨rfl, rfl, by decide, by decide, by decide⟩ rfl hl.1 rfl (Nat.le_of_ble_eq_true rfl) ⟨by first | omega | (dsimp only; omega), by first | omega | (dsimp only; omega)⟩ dX5_halve_239 (fun r u_5 H locs hw hP hD hS => ?_)
              try dsimp only at hw
              have hP : va_P G.1 vwCl ([(z, .inr (5, [.ref ak, .ref ar, .ref al, .ref alk, .int (nI td), .ref ast, .int (nI aa), .ref ai, .ref amd])), (q218, .inl (G.2.1, 5, .inl (va_up (va_up (va_up (va_up (nF (fun _ => 0)) 0 (nI (cnt d 24))) 1 (nI p9)) 2 (nI 3)) 3 (-1))))] ++ va_pl (R ++ Lj) fj) H := hP
              have hD : va_D A ([(z, .inr (5, [.ref ak, .ref ar, .ref al, .ref alk, .int (nI td), .ref ast, .int (nI aa), .ref ai, .ref amd])), (q218, .inl (G.2.1, 5, .inl (va_up (va_up (va_up (va_up (nF (fun _ => 0)) 0 (nI (cnt d 24))) 1 (nI p9)) 2 (nI 3)) 3 (-1))))] ++ va_pl (R ++ Lj) fj) := hD
              subst hw
              refine va_iast hx hb hK hP hD hS 1 0 rfl rfl (vp_in_nI (by omega) (by omega)) dX5_halve_242 (fun H locs hP hD hS => ?_)
              rw [aF_upd _ (by omega)] at hP hD
              have hP : va_P G.1 vwCl ([(z, .inr (5, [.ref ak, .ref ar, .ref al, .ref alk, .int (nI td), .ref ast, .int (nI aa), .ref ai, .ref amd])), (q218, .inl (G.2.1, 5, .inl (va_up (va_up (va_up (va_up (va_up (nF (fun _ => 0)) 0 (nI (cnt d 24))) 1 (nI p9)) 2 (nI 3)) 3 (-1)) 4 (nI d))))] ++ va_pl (R ++ Lj) fj) _ := hP
              have hD : va_D A ([(z, .inr (5, [.ref ak, .ref ar, .ref al, .ref alk, .int (nI td), .ref ast, .int (nI aa), .ref ai, .ref amd])), (q218, .inl (G.2.1, 5, .inl (va_up (va_up (va_up (va_up (va_up (nF (fun _ => 0)) 0 (nI (cnt d 24))) 1 (nI p9)) 2 (nI 3)) 3 (-1)) 4 (nI d))))] ++ va_pl (R ++ Lj) fj) := hD
              obtain ⟨hP, hD, hx_6, hmF, heF⟩ := p_frz (X := [(z, .inr (5, [.ref ak, .ref ar, .ref al, .ref alk, .int (nI td), .ref ast, .int (nI aa), .ref ai, .ref amd]))]) (RR := R) (L := Lj) (f := fj) hP hD
              obtain ⟨L_6, f_6, hLF, hfF⟩ : ∃ L9 f9, L9 = Lj ++ [q218] ∧ f9 = va_up fj q218 (.inl (G.2.1, 5, .inl (va_up (va_up (va_up (va_up (va_up (nF (fun _ => 0)) 0 (nI (cnt d 24))) 1 (nI p9)) 2 (nI 3)) 3 (-1)) 4 (nI d)))) := ⟨_, _, rfl, rfl⟩
              rw [← hLF, ← hfF] at hP hD hx_6
              rw [← hLF] at hmF
              rw [← hfF] at heF
              have h5 : fI G L_6 f_6 q218 5 (fun i9 => [nI (cnt d 24), nI p9, nI 3, -1, nI d].getD i9 0) := ⟨hmF, _, heF, (fun j hj => i5_e _ _ _ _ _ _ hj)⟩
              clear hmF heF hLF hfF
              have hsim := hsim.mono hx_6
              have hib := hib.mono hx_6
              have hsF := hsF.mono hx_6
              have hsKi := hsKi.mono hx_6
              have hP : va_P G.1 vwCl ([(z, .inr (5, [.ref ak, .ref ar, .ref al, .ref alk, .int (nI td), .ref ast, .int (nI aa), .ref ai, .ref amd]))] ++ va_pl (R ++ L_6) f_6) _ := hP
              have hD : va_D A ([(z, .inr (5, [.ref ak, .ref ar, .ref al, .ref alk, .int (nI td), .ref ast, .int (nI aa), .ref ai, .ref amd]))] ++ va_pl (R ++ L_6) f_6) := hD
              have hsF0 := hsF
              obtain ⟨rrF, hsR, hsI⟩ := hsF0
              refine p_sr (X := [(z, .inr (5, [.ref ak, .ref ar, .ref al, .ref alk, .int (nI td), .ref ast, .int (nI aa), .ref ai, .ref amd]))]) (cx := ([] : va_W)) (As := [.ref amd, .ref q218]) (rest := [.ref z]) (wr := [(z, .inr (5, [.ref ak, .ref ar, .ref al, .ref alk, .int (nI td), .ref ast, .int (nI aa), .ref ai, .ref amd]))]) ⟨hx, hb, hml, hown, hts⟩ hK hQ hP hD hS hA hZ hN (c_X5_more l G gr sa R L_6 f_6 amd q218 (F.length / 5) 5 rrF (fun i9 => [nI (cnt d 24), nI p9, nI 3, -1, nI d].getD i9 0) (by first | assumption | omega) (hsR) (fun j hj => ⟨_, _, (hsI j hj).l R⟩) (h5.l R)) (va_cwS 2 hts gX5_halve_X5_more rfl rfl rfl (by decide +kernel) ⟨by first | omega | (dsimp only; omega), by first | omega | (dsimp only; omega)⟩) [] [0] ⟨rfl, rfl, by decide, by decide, by decide⟩ rfl hl.1 rfl (Nat.le_of_ble_eq_true rfl) ⟨by first | omega | (dsimp only; omega), by first | omega | (dsimp only; omega)⟩ dX5_halve_243 (fun cm u_7 H locs hw hP hD hS => ?_)
              obtain ⟨L_7, f_7⟩ := u_7
              try dsimp only at hw
              have hP : va_P G.1 vwCl ([(z, .inr (5, [.ref ak, .ref ar, .ref al, .ref alk, .int (nI td), .ref ast, .int (nI aa), .ref ai, .ref amd]))] ++ va_pl (R ++ L_7) f_7) H := hP
              have hD : va_D A ([(z, .inr (5, [.ref ak, .ref ar, .ref al, .ref alk, .int (nI td), .ref ast, .int (nI aa), .ref ai, .ref amd]))] ++ va_pl (R ++ L_7) f_7) := hD
              obtain ⟨hx_7, hr_7⟩ := hw
              have hsim := hsim.mono hx_7
              have hib := hib.mono hx_7
              have hsF := hsF.mono hx_7
              have hsKi := hsKi.mono hx_7
              have h5 := h5.mono hx_7
              have hsFN : sF G gr L_7 f_7 cm (F ++ [nI (cnt d 24), nI p9, nI 3, -1, nI d]) := sF.push hF5 hr_7 (fun j hj => (hsI j hj).mono hx_7) h5
              refine va_put (D := G.1) (ci := 5) (v := .ref cm) (ty := .array (.array .int)) (C := RX5) (T := TX5) (N := 9) hx hb hts hin5 tyX5 tyX5_ok nmX5 hown hK hP hD hS 0 rfl rfl 8 (by decide) (hts (.fieldLink RX5 30 "FaultShrinkerLaw$Sim" "made" "[[I") (List.mem_of_getElem? (i := 1) rfl)) (fun _ h9 => h9) rfl (by decide +kernel) rfl rfl (Nat.le_of_ble_eq_true rfl) dX5_halve_246 (fun H locs hP hD hS => ?_)
              have hP : va_P G.1 vwCl ([(z, .inr (5, [.ref ak, .ref ar, .ref al, .ref alk, .int (nI td), .ref ast, .int (nI aa), .ref ai, .ref cm]))] ++ va_pl (R ++ L_7) f_7) _ := hP
              have hD : va_D A ([(z, .inr (5, [.ref ak, .ref ar, .ref al, .ref alk, .int (nI td), .ref ast, .int (nI aa), .ref ai, .ref cm]))] ++ va_pl (R ++ L_7) f_7) := hD
              refine lv_aload_n hx hb dX5_halve_249 rfl (lv_at hl 0 rfl) ?_
              refine lv_aload_n hx hb dX5_halve_250 rfl (lv_at hl 1 rfl) ?_
              refine lv_iload_n hx hb dX5_halve_251 rfl (lv_at hl 3 rfl) ?_
              refine lv_iload_n hx hb dX5_halve_252 rfl (lv_at hl 2 rfl) ?_
              refine lv_iload_n hx hb dX5_halve_253 rfl (lv_at hl 2 rfl) ?_
              refine lv_iadd hx hb dX5_halve_254 ?_
              refine cs_i (y := nI (p9 + p9)) (nI_add _ _) ?_
              refine va_mmin hx hb (by rw [hml]; exact hl.1.symm) hown (hts (.methodLink RX5 75 Lib.Math.min.name) (List.mem_of_getElem? (i := 3) rfl)) (hts (.static Lib.Math.min.name) (List.mem_of_getElem? (i := 4) rfl)) (hts (.initialized "java/lang/Math") (List.mem_of_getElem? (i := 5) rfl)) (hts (.code Lib.Math.min.name Lib.Math.min.code 2 (some .int)) (List.mem_of_getElem? (i := 6) rfl)) (Nat.le_trans (m := 1) (Nat.le_of_ble_eq_true rfl) (by first | omega | (dsimp only; omega))) (Nat.le_trans (m := 60) (Nat.le_of_ble_eq_true rfl) (by first | omega | (dsimp only; omega))) (by first | omega | (dsimp only; omega)) (by first | omega | (dsimp only; omega)) dX5_halve_255 ?_
              refine cs_i (y := nI (min (p9 * 2) (cnt d 24))) ((nI_min (by omega) (by omega)).trans (congrArg nI (by omega))) ?_
              refine p_vr (X := [(z, .inr (5, [.ref ak, .ref ar, .ref al, .ref alk, .int (nI td), .ref ast, .int (nI aa), .ref ai, .ref cm]))]) (cx := [(z, .inr (5, [.ref ak, .ref ar, .ref al, .ref alk, .int (nI td), .ref ast, .int (nI aa), .ref ai, .ref cm]))]) (As := [.ref b, .int (nI (min (p9 * 2) (cnt d 24)))]) (rest := []) (wr := ([] : va_W)) ⟨hx, hb, hml, hown, hts⟩ hK hQ hP hD hS hA hZ hN (ihr R L_7 f_7 z ak ar al alk ast ai cm td aa n rc k ne sp (by first | assumption | omega) (by first | assumption | omega) (by first | assumption | omega) (by first | assumption | omega) (by first | assumption | omega) (by first | assumption | omega) (by first | assumption | omega) b d (min (p9 * 2) (cnt d 24)) K1 (F ++ [nI (cnt d 24), nI p9, nI 3, -1, nI d]) d2 n2 K2 F2 (K2.length + F2.length + 2 * hph (cnt d 24) (min (p9 * 2) (cnt d 24)) - ((K1).length + (F ++ [nI (cnt d 24), nI p9, nI 3, -1, nI d]).length)) (tri K2.length + tri (F2.length / 5) + F2.length + psi (cnt d 24) (min (p9 * 2) (cnt d 24)) - (tri (K1).length + tri ((F ++ [nI (cnt d 24), nI p9, nI 3, -1, nI d]).length / 5) + (F ++ [nI (cnt d 24), nI p9, nI 3, -1, nI d]).length)) (hd) (hib) (by first | assumption | omega) (hIy) (hmuy) (hF5y) (hFly) (hsKi) (hKDi) (hsFN) (hRy) (by omega) (by omega)) (cwV 2 hts gX5_halve_X5_halve rfl rfl rfl (by decide +kernel) ⟨by first | omega | (dsimp only; omega), by first | omega | (dsimp only; omega)⟩) [0] [] ⟨rfl, rfl, by decide, by decide, by decide⟩ 0 5 rfl rfl rfl hl.1 rfl (Nat.le_of_ble_eq_true rfl) ⟨by first | omega | (dsimp only; omega), by first | omega | (dsimp only; omega)⟩ dX5_halve_258 (fun cr u_8 H locs hw hP hD hS => ?_)
              obtain ⟨⟨L_8, f_8⟩, an_8, am_8⟩ := u_8
              try dsimp only at hw
              have hP : va_P G.1 vwCl ([(z, .inr (5, [.ref ak, .ref ar, .ref al, .ref alk, .int (nI td), .ref ast, .int (nI aa), .ref an_8, .ref am_8]))] ++ va_pl (R ++ L_8) f_8) H := hP
              have hD : va_D A ([(z, .inr (5, [.ref ak, .ref ar, .ref al, .ref alk, .int (nI td), .ref ast, .int (nI aa), .ref an_8, .ref am_8]))] ++ va_pl (R ++ L_8) f_8) := hD
              obtain ⟨hx_8, hr_8, hsK_8, hsF_8⟩ := hw
              have hsim := hsim.mono hx_8
              have hib := hib.mono hx_8
              have hsF := hsF.mono hx_8
              have hsKi := hsKi.mono hx_8
              have h5 := h5.mono hx_8
              have hsFN := hsFN.mono hx_8
              refine W.widen (k := C9) (n := S9) (by first | omega | (dsimp only; omega)) (by first | omega | (dsimp only; omega)) ?_
              exact p_aret (rt := .array .int) hx hb hr ⟨.int, rfl⟩ hlocks hK hP hD hS (v := cr) ((L_8, f_8), an_8, am_8) (⟨((((hxi.trans hxj).trans hx_6).trans hx_7).trans hx_8), hr_8, hsK_8, hsF_8⟩) (rfl) dX5_halve_261
            · have c_207 := mt (nI_ltI (by omega) (by omega)).mpr c_207
              have hy9 : hst (spl k ne sp n rc) (d, p9, K, F) = (false, (d, p9, K1, F)) := by first | (rw [if_pos hp2] at e2; exact hst_4a (F := F) hc2 e1 hp2 e2 (by omega)) | exact hst_4b (F := F) hc2 e1 hp2 (by omega)
              have e5 := mgo_e hy9 hR9
              cases e5
              have hpsi := psi_e0 (cnt d 24) (by omega) p9 (by omega) (rng_t hpp hpm)
              have hphi := hph_num3 (cnt d 24) (by omega) p9 (by omega) hpp hpm
              have hps2 : (2 < p9 ∧ (if 2 < p9 then 2 * cnt d 24 * p9 else 0) = 2 * cnt d 24 * p9) ∨ (¬ 2 < p9 ∧ (if 2 < p9 then 2 * cnt d 24 * p9 else 0) = 0) := by by_cases z9 : 2 < p9 <;> first | exact Or.inl ⟨z9, if_pos z9⟩ | exact Or.inr ⟨z9, if_neg z9⟩
              refine lv_aload_n hx hb dX5_halve_210 rfl (lv_at hl 1 rfl) ?_
              refine W.widen (k := C9) (n := S9) (by first | omega | (dsimp only; omega)) (by first | omega | (dsimp only; omega)) ?_
              exact p_aret (rt := .array .int) hx hb hr ⟨.int, rfl⟩ hlocks hK hP hD hS (v := b) ((Lj, fj), ai, amd) (⟨(hxi.trans hxj), hib, hsKi, hsF⟩) (rfl) dX5_halve_211
          · have c_115 := mt (nI_leI (by omega) (by omega)).mpr c_115
            have c_115 : 2 < p9 := by omega
            have hpsi := psi_c0 (cnt d 24) (by omega) p9 (by omega) (rng_t hpp hpm) c_115 i (by omega)
            have hlk1 := fst1_lk (hfi c_115) (by omega)
            have htl1 := tri_le hlk1
            try simp only at hlk1 htl1
            refine lv_aload_n hx hb dX5_halve_118 rfl (lv_at hl 1 rfl) ?_
            refine lv_iload hx hb dX5_halve_119 (lv_at hl 4 rfl) ?_
            refine lv_iload_n hx hb dX5_halve_121 rfl (lv_at hl 3 rfl) ?_
            refine lv_imul hx hb dX5_halve_122 ?_
            refine cs_i (y := nI (i * (cnt d 24))) (pk_mul _ _) ?_
            refine lv_iload_n hx hb dX5_halve_123 rfl (lv_at hl 2 rfl) ?_
            refine lv_idiv hx hb dX5_halve_124 (nI_ne0 (by omega) (by omega)) ?_
            refine cs_i (y := nI ((i * (cnt d 24)) / p9)) (pk_div (by omega) (by omega) (by omega)) ?_
            refine lv_iload hx hb dX5_halve_125 (lv_at hl 4 rfl) ?_
            refine lv_iconst (v := nI 1) hx hb dX5_halve_127 (by decide +kernel) ?_
            refine lv_iadd hx hb dX5_halve_128 ?_
            refine cs_i (y := nI (i + 1)) (nI_add _ _) ?_
            refine lv_iload_n hx hb dX5_halve_129 rfl (lv_at hl 3 rfl) ?_
            refine lv_imul hx hb dX5_halve_130 ?_
            refine cs_i (y := nI ((i + 1) * (cnt d 24))) (pk_mul _ _) ?_
            refine lv_iload_n hx hb dX5_halve_131 rfl (lv_at hl 2 rfl) ?_
            refine lv_idiv hx hb dX5_halve_132 (nI_ne0 (by omega) (by omega)) ?_
            refine cs_i (y := nI (((i + 1) * (cnt d 24)) / p9)) (pk_div (by omega) (by omega) (by omega)) ?_
            refine p_sr (X := [(z, .inr (5, [.ref ak, .ref ar, .ref al, .ref alk, .int (nI td), .ref ast, .int (nI aa), .ref ai, .ref amd]))]) (cx := ([] : va_W)) (As := [.ref b, .int (nI (i * cnt d 24 / p9)), .int (nI ((i + 1) * cnt d 24 / p9))]) (rest := []) (wr := [(z, .inr (5, [.ref ak, .ref ar, .ref al, .ref alk, .int (nI td), .ref ast, .int (nI aa), .ref ai, .ref amd]))]) ⟨hx, hb, hml, hown, hts⟩ hK hQ hP hD hS hA hZ hN (c_X5_rest l G gr sa R Lj fj b (cnt d 24) (i * cnt d 24 / p9) ((i + 1) * cnt d 24 / p9) (fun j => nI (plc d j)) (by first | assumption | omega) (by first | assumption | omega) (by first | assumption | omega) (hib.l R)) (va_cwS 3 hts gX5_halve_X5_rest rfl rfl rfl (by decide +kernel) ⟨by first | omega | (dsimp only; omega), by first | omega | (dsimp only; omega)⟩) [] [0] ⟨rfl, rfl, by decide, by decide, by decide⟩ rfl hl.1 rfl (Nat.le_of_ble_eq_true rfl) ⟨by first | omega | (dsimp only; omega), by first | omega | (dsimp only; omega)⟩ dX5_halve_133 (fun cp u_9 H locs hw hP hD hS => ?_)
            obtain ⟨L_9, f_9⟩ := u_9
            try dsimp only at hw
            have hP : va_P G.1 vwCl ([(z, .inr (5, [.ref ak, .ref ar, .ref al, .ref alk, .int (nI td), .ref ast, .int (nI aa), .ref ai, .ref amd]))] ++ va_pl (R ++ L_9) f_9) H := hP
            have hD : va_D A ([(z, .inr (5, [.ref ak, .ref ar, .ref al, .ref alk, .int (nI td), .ref ast, .int (nI aa), .ref ai, .ref amd]))] ++ va_pl (R ++ L_9) f_9) := hD
            obtain ⟨hx_9, hr_9⟩ := hw
            have hsim := hsim.mono hx_9
            have hib := hib.mono hx_9
            have hsF := hsF.mono hx_9
            have hsKi := hsKi.mono hx_9
            have hpt : dI G L_9 f_9 cp (nd d (pto d p9 i)) := dI_rest (Nat.le_of_lt hq.1) hq.2.1 hr_9
            have hdx : nd d (pto d p9 i) < 2 ^ 24 := nd_lt hd24
            have hcx : cnt (nd d (pto d p9 i)) 24 = cnt d 24 - ((i + 1) * cnt d 24 / p9 - i * cnt d 24 / p9) := cnt_part_nd d (Nat.le_of_lt hq.1) hq.2.1
            refine lv_astore (lv' := [(5, .ref cp), (0, .ref z), (1, .ref b), (2, .int (nI p9)), (3, .int (nI (cnt d 24))), (4, .int (nI i))]) hx hb dX5_halve_136 hl (by decide) rfl (fun ls hl => ?_)
            refine lv_aload_n hx hb dX5_halve_138 rfl (lv_at hl 1 rfl) ?_
            refine lv_aload hx hb dX5_halve_139 (lv_at hl 0 rfl) ?_
            refine p_vi (X := [(z, .inr (5, [.ref ak, .ref ar, .ref al, .ref alk, .int (nI td), .ref ast, .int (nI aa), .ref ai, .ref amd]))]) (cx := [(z, .inr (5, [.ref ak, .ref ar, .ref al, .ref alk, .int (nI td), .ref ast, .int (nI aa), .ref ai, .ref amd]))]) (As := [.ref cp]) (rest := []) (wr := ([] : va_W)) ⟨hx, hb, hml, hown, hts⟩ hK hQ hP hD hS hA hZ hN (c_X5_taste l G gr sa R L_9 f_9 z ak ar al alk ast ai amd td aa n rc k ne sp (by first | assumption | omega) (by first | assumption | omega) (by first | assumption | omega) (by first | assumption | omega) (by first | assumption | omega) (by first | assumption | omega) (by first | assumption | omega) cp (nd d (pto d p9 i)) Ki (nd_lt hd) (hpt) (by first | assumption | omega) (hsKi) (hKDi)) (cwV 1 hts gX5_halve_X5_taste rfl rfl rfl (by decide +kernel) ⟨by first | omega | (dsimp only; omega), by first | omega | (dsimp only; omega)⟩) [0] [] ⟨rfl, rfl, by decide, by decide, by decide⟩ 0 5 rfl rfl rfl hl.1 rfl (Nat.le_of_ble_eq_true rfl) ⟨by first | omega | (dsimp only; omega), by first | omega | (dsimp only; omega)⟩ dX5_halve_141 (fun r u_10 H locs hw hP hD hS => ?_)
            obtain ⟨⟨L_10, f_10⟩, an_10⟩ := u_10
            try dsimp only at hw
            have hP : va_P G.1 vwCl ([(z, .inr (5, [.ref ak, .ref ar, .ref al, .ref alk, .int (nI td), .ref ast, .int (nI aa), .ref an_10, .ref amd]))] ++ va_pl (R ++ L_10) f_10) H := hP
            have hD : va_D A ([(z, .inr (5, [.ref ak, .ref ar, .ref al, .ref alk, .int (nI td), .ref ast, .int (nI aa), .ref an_10, .ref amd]))] ++ va_pl (R ++ L_10) f_10) := hD
            obtain ⟨hx_10, hw, hsN_10⟩ := hw
            subst hw
            have hsim := hsim.mono hx_10
            have hib := hib.mono hx_10
            have hsF := hsF.mono hx_10
            have hsKi := hsKi.mono hx_10
            have hpt := hpt.mono hx_10
            refine lv_if_ne (tgt := 150) hx hb dX5_halve_144 (by decide) (fun c_144 => ?_) (fun c_144 => ?_)
            · have c_144 := bI_n0 c_144
              have e5 : (some i, lk Ki (nd d (pto d p9 i))) = (o2, K3) := by rw [← hfi c_115, show p9 - i = (p9 - (i + 1)) + 1 by omega]; exact (fst1_t (mk := (fun k9 => nd d (pto d p9 k9))) c_144).symm
              cases e5
              rw [if_pos c_115] at e2
              have hy9 := hst_2 (F := F) hc2 e1 c_115 e2
              rw [← hcx] at hpsi
              have hphi := hph_num (m := cnt d 24) (m' := cnt (nd d (pto d p9 i)) 24) (n := p9) (n' := p9 - 1) (by omega) (by omega) (by omega) hpp hpm (by omega)
              obtain ⟨hIy, hmuy, hF5y, hFly, hRy⟩ := mgo_s hy9 hI9 hmu9 hF5 hFl hR9
              obtain ⟨g1, g2, g3, g4⟩ := hrn_gr hRy
              have hFL : (F ++ [nI (cnt d 24), nI p9, nI 2, nI i, nI (nd d (pto d p9 i))]).length = F.length + 5 := by rw [List.length_append]; rfl
              have hFD : (F ++ [nI (cnt d 24), nI p9, nI 2, nI i, nI (nd d (pto d p9 i))]).length / 5 = F.length / 5 + 1 := by omega
              have hFT : tri ((F ++ [nI (cnt d 24), nI p9, nI 2, nI i, nI (nd d (pto d p9 i))]).length / 5) = tri (F.length / 5) + (F.length / 5 + 1) := by rw [hFD]; rfl
              refine lv_aload_n hx hb dX5_halve_150 rfl (lv_at hl 1 rfl) ?_
              refine lv_aload_n hx hb dX5_halve_151 rfl (lv_at hl 1 rfl) ?_
              refine va_get (D := G.1) (ci := 5) (v := .ref amd) (C := RX5) (T := TX5) (N := 9) hx hb hts hin5 hown hK hP 0 rfl rfl 8 (by decide) (hts (.fieldLink RX5 30 "FaultShrinkerLaw$Sim" "made" "[[I") (List.mem_of_getElem? (i := 1) rfl)) (fun _ h9 => h9) rfl dX5_halve_152 ?_
              refine lv_iconst (v := nI 5) hx hb dX5_halve_155 (by decide +kernel) ?_
              refine p_newI hx hb (hts (.arrayClass .int) (List.mem_of_getElem? (i := 2) rfl)) hK hP hD hS hA (N' := 5) rfl (by omega) (by first | omega | (dsimp only; omega)) (by first | omega | (dsimp only; omega)) dX5_halve_156 (fun q156 H hP hD hS => ?_)
              have hP : va_P G.1 vwCl ([(z, .inr (5, [.ref ak, .ref ar, .ref al, .ref alk, .int (nI td), .ref ast, .int (nI aa), .ref an_10, .ref amd])), (q156, .inl (G.2.1, 5, .inl (nF (fun _ => 0))))] ++ va_pl (R ++ L_10) f_10) _ := hP
              have hD : va_D A ([(z, .inr (5, [.ref ak, .ref ar, .ref al, .ref alk, .int (nI td), .ref ast, .int (nI aa), .ref an_10, .ref amd])), (q156, .inl (G.2.1, 5, .inl (nF (fun _ => 0))))] ++ va_pl (R ++ L_10) f_10) := hD
              have hP : va_P G.1 vwCl ([(z, .inr (5, [.ref ak, .ref ar, .ref al, .ref alk, .int (nI td), .ref ast, .int (nI aa), .ref an_10, .ref amd])), (q156, .inl (G.2.1, 5, .inl (nF (fun _ => 0))))] ++ va_pl (R ++ L_10) f_10) _ := hP
              have hD : va_D A ([(z, .inr (5, [.ref ak, .ref ar, .ref al, .ref alk, .int (nI td), .ref ast, .int (nI aa), .ref an_10, .ref amd])), (q156, .inl (G.2.1, 5, .inl (nF (fun _ => 0))))] ++ va_pl (R ++ L_10) f_10) := hD
              refine lv_dup hx hb dX5_halve_158 rfl ?_
              refine lv_iconst (v := nI 0) hx hb dX5_halve_159 (by decide +kernel) ?_
              refine lv_iload_n hx hb dX5_halve_160 rfl (lv_at hl 4 rfl) ?_
              refine va_iast hx hb hK hP hD hS 1 0 rfl rfl (vp_in_nI (by omega) (by omega)) dX5_halve_161 (fun H locs hP hD hS => ?_)
              rw [aF_upd _ (by omega)] at hP hD
              have hP : va_P G.1 vwCl ([(z, .inr (5, [.ref ak, .ref ar, .ref al, .ref alk, .int (nI td), .ref ast, .int (nI aa), .ref an_10, .ref amd])), (q156, .inl (G.2.1, 5, .inl (va_up (nF (fun _ => 0)) 0 (nI (cnt d 24)))))] ++ va_pl (R ++ L_10) f_10) _ := hP
              have hD : va_D A ([(z, .inr (5, [.ref ak, .ref ar, .ref al, .ref alk, .int (nI td), .ref ast, .int (nI aa), .ref an_10, .ref amd])), (q156, .inl (G.2.1, 5, .inl (va_up (nF (fun _ => 0)) 0 (nI (cnt d 24)))))] ++ va_pl (R ++ L_10) f_10) := hD
              refine lv_dup hx hb dX5_halve_162 rfl ?_
              refine lv_iconst (v := nI 1) hx hb dX5_halve_163 (by decide +kernel) ?_
              refine lv_iload_n hx hb dX5_halve_164 rfl (lv_at hl 3 rfl) ?_
              refine va_iast hx hb hK hP hD hS 1 0 rfl rfl (vp_in_nI (by omega) (by omega)) dX5_halve_165 (fun H locs hP hD hS => ?_)
              rw [aF_upd _ (by omega)] at hP hD
              have hP : va_P G.1 vwCl ([(z, .inr (5, [.ref ak, .ref ar, .ref al, .ref alk, .int (nI td), .ref ast, .int (nI aa), .ref an_10, .ref amd])), (q156, .inl (G.2.1, 5, .inl (va_up (va_up (nF (fun _ => 0)) 0 (nI (cnt d 24))) 1 (nI p9))))] ++ va_pl (R ++ L_10) f_10) _ := hP
              have hD : va_D A ([(z, .inr (5, [.ref ak, .ref ar, .ref al, .ref alk, .int (nI td), .ref ast, .int (nI aa), .ref an_10, .ref amd])), (q156, .inl (G.2.1, 5, .inl (va_up (va_up (nF (fun _ => 0)) 0 (nI (cnt d 24))) 1 (nI p9))))] ++ va_pl (R ++ L_10) f_10) := hD
              refine lv_dup hx hb dX5_halve_166 rfl ?_
              refine lv_iconst (v := nI 2) hx hb dX5_halve_167 (by decide +kernel) ?_
              refine lv_iconst (v := nI 2) hx hb dX5_halve_168 (by decide +kernel) ?_
              refine va_iast hx hb hK hP hD hS 1 0 rfl rfl (vp_in_nI (by omega) (by omega)) dX5_halve_169 (fun H locs hP hD hS => ?_)
              rw [aF_upd _ (by omega)] at hP hD
              have hP : va_P G.1 vwCl ([(z, .inr (5, [.ref ak, .ref ar, .ref al, .ref alk, .int (nI td), .ref ast, .int (nI aa), .ref an_10, .ref amd])), (q156, .inl (G.2.1, 5, .inl (va_up (va_up (va_up (nF (fun _ => 0)) 0 (nI (cnt d 24))) 1 (nI p9)) 2 (nI 2))))] ++ va_pl (R ++ L_10) f_10) _ := hP
              have hD : va_D A ([(z, .inr (5, [.ref ak, .ref ar, .ref al, .ref alk, .int (nI td), .ref ast, .int (nI aa), .ref an_10, .ref amd])), (q156, .inl (G.2.1, 5, .inl (va_up (va_up (va_up (nF (fun _ => 0)) 0 (nI (cnt d 24))) 1 (nI p9)) 2 (nI 2))))] ++ va_pl (R ++ L_10) f_10) := hD
              refine lv_dup hx hb dX5_halve_170 rfl ?_
              refine lv_iconst (v := nI 3) hx hb dX5_halve_171 (by decide +kernel) ?_
              refine lv_iload hx hb dX5_halve_172 (lv_at hl 5 rfl) ?_
              refine va_iast hx hb hK hP hD hS 1 0 rfl rfl (vp_in_nI (by omega) (by omega)) dX5_halve_174 (fun H locs hP hD hS => ?_)
              rw [aF_upd _ (by omega)] at hP hD
              have hP : va_P G.1 vwCl ([(z, .inr (5, [.ref ak, .ref ar, .ref al, .ref alk, .int (nI td), .ref ast, .int (nI aa), .ref an_10, .ref amd])), (q156, .inl (G.2.1, 5, .inl (va_up (va_up (va_up (va_up (nF (fun _ => 0)) 0 (nI (cnt d 24))) 1 (nI p9)) 2 (nI 2)) 3 (nI i))))] ++ va_pl (R ++ L_10) f_10) _ := hP
              have hD : va_D A ([(z, .inr (5, [.ref ak, .ref ar, .ref al, .ref alk, .int (nI td), .ref ast, .int (nI aa), .ref an_10, .ref amd])), (q156, .inl (G.2.1, 5, .inl (va_up (va_up (va_up (va_up (nF (fun _ => 0)) 0 (nI (cnt d 24))) 1 (nI p9)) 2 (nI 2)) 3 (nI i))))] ++ va_pl (R ++ L_10) f_10) := hD
              refine lv_dup hx hb dX5_halve_175 rfl ?_
              refine lv_iconst (v := nI 4) hx hb dX5_halve_176 (by decide +kernel) ?_
              refine lv_aload hx hb dX5_halve_177 (lv_at hl 0 rfl) ?_
              refine p_si (X := [(z, .inr (5, [.ref ak, .ref ar, .ref al, .ref alk, .int (nI td), .ref ast, .int (nI aa), .ref an_10, .ref amd])), (q156, .inl (G.2.1, 5, .inl (va_up (va_up (va_up (va_up (nF (fun _ => 0)) 0 (nI (cnt d 24))) 1 (nI p9)) 2 (nI 2)) 3 (nI i))))]) (cx := ([] : va_W)) (As := [.ref cp]) (rest := [.int (nI 4), .ref q156, .ref q156, .ref amd, .ref z]) (wr := [(z, .inr (5, [.ref ak, .ref ar, .ref al, .ref alk, .int (nI td), .ref ast, .int (nI aa), .ref an_10, .ref amd])), (q156, .inl (G.2.1, 5, .inl (va_up (va_up (va_up (va_up (nF (fun _ => 0)) 0 (nI (cnt d 24))) 1 (nI p9)) 2 (nI 2)) 3 (nI i))))]) ⟨hx, hb, hml, hown, hts⟩ hK hQ hP hD hS hA hZ hN (c_X5_bits l G gr sa R L_10 f_10 cp (nd d (pto d p9 i)) (hdx) (hpt)) (va_cwS 1 hts gX5_halve_X5_bits rfl rfl rfl (by decide +kernel) ⟨by first | omega | (dsimp only; omega), by first | omega | (dsimp only; omega)⟩) [] [0, 1] ⟨rfl, rfl, by decide, by decide, by decide⟩ rfl hl.1 rfl (Nat.le_of_ble_eq_true rfl) ⟨by first | omega | (dsimp only; omega), by first | omega | (dsimp only; omega)⟩ dX5_halve_179 (fun r u_11 H locs hw hP hD hS => ?_)
              try dsimp only at hw
              have hP : va_P G.1 vwCl ([(z, .inr (5, [.ref ak, .ref ar, .ref al, .ref alk, .int (nI td), .ref ast, .int (nI aa), .ref an_10, .ref amd])), (q156, .inl (G.2.1, 5, .inl (va_up (va_up (va_up (va_up (nF (fun _ => 0)) 0 (nI (cnt d 24))) 1 (nI p9)) 2 (nI 2)) 3 (nI i))))] ++ va_pl (R ++ L_10) f_10) H := hP
              have hD : va_D A ([(z, .inr (5, [.ref ak, .ref ar, .ref al, .ref alk, .int (nI td), .ref ast, .int (nI aa), .ref an_10, .ref amd])), (q156, .inl (G.2.1, 5, .inl (va_up (va_up (va_up (va_up (nF (fun _ => 0)) 0 (nI (cnt d 24))) 1 (nI p9)) 2 (nI 2)) 3 (nI i))))] ++ va_pl (R ++ L_10) f_10) := hD
              subst hw
              refine va_iast hx hb hK hP hD hS 1 0 rfl rfl (vp_in_nI (by omega) (by omega)) dX5_halve_182 (fun H locs hP hD hS => ?_)
              rw [aF_upd _ (by omega)] at hP hD
              have hP : va_P G.1 vwCl ([(z, .inr (5, [.ref ak, .ref ar, .ref al, .ref alk, .int (nI td), .ref ast, .int (nI aa), .ref an_10, .ref amd])), (q156, .inl (G.2.1, 5, .inl (va_up (va_up (va_up (va_up (va_up (nF (fun _ => 0)) 0 (nI (cnt d 24))) 1 (nI p9)) 2 (nI 2)) 3 (nI i)) 4 (nI (nd d (pto d p9 i))))))] ++ va_pl (R ++ L_10) f_10) _ := hP
              have hD : va_D A ([(z, .inr (5, [.ref ak, .ref ar, .ref al, .ref alk, .int (nI td), .ref ast, .int (nI aa), .ref an_10, .ref amd])), (q156, .inl (G.2.1, 5, .inl (va_up (va_up (va_up (va_up (va_up (nF (fun _ => 0)) 0 (nI (cnt d 24))) 1 (nI p9)) 2 (nI 2)) 3 (nI i)) 4 (nI (nd d (pto d p9 i))))))] ++ va_pl (R ++ L_10) f_10) := hD
              obtain ⟨hP, hD, hx_12, hmF, heF⟩ := p_frz (X := [(z, .inr (5, [.ref ak, .ref ar, .ref al, .ref alk, .int (nI td), .ref ast, .int (nI aa), .ref an_10, .ref amd]))]) (RR := R) (L := L_10) (f := f_10) hP hD
              obtain ⟨L_12, f_12, hLF, hfF⟩ : ∃ L9 f9, L9 = L_10 ++ [q156] ∧ f9 = va_up f_10 q156 (.inl (G.2.1, 5, .inl (va_up (va_up (va_up (va_up (va_up (nF (fun _ => 0)) 0 (nI (cnt d 24))) 1 (nI p9)) 2 (nI 2)) 3 (nI i)) 4 (nI (nd d (pto d p9 i)))))) := ⟨_, _, rfl, rfl⟩
              rw [← hLF, ← hfF] at hP hD hx_12
              rw [← hLF] at hmF
              rw [← hfF] at heF
              have h5 : fI G L_12 f_12 q156 5 (fun i9 => [nI (cnt d 24), nI p9, nI 2, nI i, nI (nd d (pto d p9 i))].getD i9 0) := ⟨hmF, _, heF, (fun j hj => i5_e _ _ _ _ _ _ hj)⟩
              clear hmF heF hLF hfF
              have hsim := hsim.mono hx_12
              have hib := hib.mono hx_12
              have hsF := hsF.mono hx_12
              have hsKi := hsKi.mono hx_12
              have hpt := hpt.mono hx_12
              have hsN_10 := hsN_10.mono hx_12
              have hP : va_P G.1 vwCl ([(z, .inr (5, [.ref ak, .ref ar, .ref al, .ref alk, .int (nI td), .ref ast, .int (nI aa), .ref an_10, .ref amd]))] ++ va_pl (R ++ L_12) f_12) _ := hP
              have hD : va_D A ([(z, .inr (5, [.ref ak, .ref ar, .ref al, .ref alk, .int (nI td), .ref ast, .int (nI aa), .ref an_10, .ref amd]))] ++ va_pl (R ++ L_12) f_12) := hD
              have hsF0 := hsF
              obtain ⟨rrF, hsR, hsI⟩ := hsF0
              refine p_sr (X := [(z, .inr (5, [.ref ak, .ref ar, .ref al, .ref alk, .int (nI td), .ref ast, .int (nI aa), .ref an_10, .ref amd]))]) (cx := ([] : va_W)) (As := [.ref amd, .ref q156]) (rest := [.ref z]) (wr := [(z, .inr (5, [.ref ak, .ref ar, .ref al, .ref alk, .int (nI td), .ref ast, .int (nI aa), .ref an_10, .ref amd]))]) ⟨hx, hb, hml, hown, hts⟩ hK hQ hP hD hS hA hZ hN (c_X5_more l G gr sa R L_12 f_12 amd q156 (F.length / 5) 5 rrF (fun i9 => [nI (cnt d 24), nI p9, nI 2, nI i, nI (nd d (pto d p9 i))].getD i9 0) (by first | assumption | omega) (hsR) (fun j hj => ⟨_, _, (hsI j hj).l R⟩) (h5.l R)) (va_cwS 2 hts gX5_halve_X5_more rfl rfl rfl (by decide +kernel) ⟨by first | omega | (dsimp only; omega), by first | omega | (dsimp only; omega)⟩) [] [0] ⟨rfl, rfl, by decide, by decide, by decide⟩ rfl hl.1 rfl (Nat.le_of_ble_eq_true rfl) ⟨by first | omega | (dsimp only; omega), by first | omega | (dsimp only; omega)⟩ dX5_halve_183 (fun cm u_13 H locs hw hP hD hS => ?_)
              obtain ⟨L_13, f_13⟩ := u_13
              try dsimp only at hw
              have hP : va_P G.1 vwCl ([(z, .inr (5, [.ref ak, .ref ar, .ref al, .ref alk, .int (nI td), .ref ast, .int (nI aa), .ref an_10, .ref amd]))] ++ va_pl (R ++ L_13) f_13) H := hP
              have hD : va_D A ([(z, .inr (5, [.ref ak, .ref ar, .ref al, .ref alk, .int (nI td), .ref ast, .int (nI aa), .ref an_10, .ref amd]))] ++ va_pl (R ++ L_13) f_13) := hD
              obtain ⟨hx_13, hr_13⟩ := hw
              have hsim := hsim.mono hx_13
              have hib := hib.mono hx_13
              have hsF := hsF.mono hx_13
              have hsKi := hsKi.mono hx_13
              have hpt := hpt.mono hx_13
              have hsN_10 := hsN_10.mono hx_13
              have h5 := h5.mono hx_13
              have hsFN : sF G gr L_13 f_13 cm (F ++ [nI (cnt d 24), nI p9, nI 2, nI i, nI (nd d (pto d p9 i))]) := sF.push hF5 hr_13 (fun j hj => (hsI j hj).mono hx_13) h5
              refine va_put (D := G.1) (ci := 5) (v := .ref cm) (ty := .array (.array .int)) (C := RX5) (T := TX5) (N := 9) hx hb hts hin5 tyX5 tyX5_ok nmX5 hown hK hP hD hS 0 rfl rfl 8 (by decide) (hts (.fieldLink RX5 30 "FaultShrinkerLaw$Sim" "made" "[[I") (List.mem_of_getElem? (i := 1) rfl)) (fun _ h9 => h9) rfl (by decide +kernel) rfl rfl (Nat.le_of_ble_eq_true rfl) dX5_halve_186 (fun H locs hP hD hS => ?_)
              have hP : va_P G.1 vwCl ([(z, .inr (5, [.ref ak, .ref ar, .ref al, .ref alk, .int (nI td), .ref ast, .int (nI aa), .ref an_10, .ref cm]))] ++ va_pl (R ++ L_13) f_13) _ := hP
              have hD : va_D A ([(z, .inr (5, [.ref ak, .ref ar, .ref al, .ref alk, .int (nI td), .ref ast, .int (nI aa), .ref an_10, .ref cm]))] ++ va_pl (R ++ L_13) f_13) := hD
              refine lv_aload_n hx hb dX5_halve_189 rfl (lv_at hl 1 rfl) ?_
              refine lv_aload hx hb dX5_halve_190 (lv_at hl 0 rfl) ?_
              refine lv_iload_n hx hb dX5_halve_192 rfl (lv_at hl 3 rfl) ?_
              refine lv_iconst (v := nI 1) hx hb dX5_halve_193 (by decide +kernel) ?_
              refine lv_isub hx hb dX5_halve_194 ?_
              refine cs_i (y := nI (p9 - 1)) (pk_sub (by omega)) ?_
              refine p_vr (X := [(z, .inr (5, [.ref ak, .ref ar, .ref al, .ref alk, .int (nI td), .ref ast, .int (nI aa), .ref an_10, .ref cm]))]) (cx := [(z, .inr (5, [.ref ak, .ref ar, .ref al, .ref alk, .int (nI td), .ref ast, .int (nI aa), .ref an_10, .ref cm]))]) (As := [.ref cp, .int (nI (p9 - 1))]) (rest := []) (wr := ([] : va_W)) ⟨hx, hb, hml, hown, hts⟩ hK hQ hP hD hS hA hZ hN (ihr R L_13 f_13 z ak ar al alk ast an_10 cm td aa n rc k ne sp (by first | assumption | omega) (by first | assumption | omega) (by first | assumption | omega) (by first | assumption | omega) (by first | assumption | omega) (by first | assumption | omega) (by first | assumption | omega) cp (nd d (pto d p9 i)) (p9 - 1) (lk Ki (nd d (pto d p9 i))) (F ++ [nI (cnt d 24), nI p9, nI 2, nI i, nI (nd d (pto d p9 i))]) d2 n2 K2 F2 (K2.length + F2.length + 2 * hph (cnt (nd d (pto d p9 i)) 24) (p9 - 1) - ((lk Ki (nd d (pto d p9 i))).length + (F ++ [nI (cnt d 24), nI p9, nI 2, nI i, nI (nd d (pto d p9 i))]).length)) (tri K2.length + tri (F2.length / 5) + F2.length + psi (cnt (nd d (pto d p9 i)) 24) (p9 - 1) - (tri (lk Ki (nd d (pto d p9 i))).length + tri ((F ++ [nI (cnt d 24), nI p9, nI 2, nI i, nI (nd d (pto d p9 i))]).length / 5) + (F ++ [nI (cnt d 24), nI p9, nI 2, nI i, nI (nd d (pto d p9 i))]).length)) (nd_lt hd) (hpt) (by first | assumption | omega) (hIy) (hmuy) (hF5y) (hFly) (hsN_10) (KD_lk hKDi hdx) (hsFN) (hRy) (by omega) (by omega)) (cwV 2 hts gX5_halve_X5_halve rfl rfl rfl (by decide +kernel) ⟨by first | omega | (dsimp only; omega), by first | omega | (dsimp only; omega)⟩) [0] [] ⟨rfl, rfl, by decide, by decide, by decide⟩ 0 5 rfl rfl rfl hl.1 rfl (Nat.le_of_ble_eq_true rfl) ⟨by first | omega | (dsimp only; omega), by first | omega | (dsimp only; omega)⟩ dX5_halve_195 (fun cr u_14 H locs hw hP hD hS => ?_)
              obtain ⟨⟨L_14, f_14⟩, an_14, am_14⟩ := u_14
              try dsimp only at hw
              have hP : va_P G.1 vwCl ([(z, .inr (5, [.ref ak, .ref ar, .ref al, .ref alk, .int (nI td), .ref ast, .int (nI aa), .ref an_14, .ref am_14]))] ++ va_pl (R ++ L_14) f_14) H := hP
              have hD : va_D A ([(z, .inr (5, [.ref ak, .ref ar, .ref al, .ref alk, .int (nI td), .ref ast, .int (nI aa), .ref an_14, .ref am_14]))] ++ va_pl (R ++ L_14) f_14) := hD
              obtain ⟨hx_14, hr_14, hsK_14, hsF_14⟩ := hw
              have hsim := hsim.mono hx_14
              have hib := hib.mono hx_14
              have hsF := hsF.mono hx_14
              have hsKi := hsKi.mono hx_14
              have hpt := hpt.mono hx_14
              have hsN_10 := hsN_10.mono hx_14
              have h5 := h5.mono hx_14
              have hsFN := hsFN.mono hx_14
              refine W.widen (k := C9) (n := S9) (by first | omega | (dsimp only; omega)) (by first | omega | (dsimp only; omega)) ?_
              exact p_aret (rt := .array .int) hx hb hr ⟨.int, rfl⟩ hlocks hK hP hD hS (v := cr) ((L_14, f_14), an_14, am_14) (⟨((((((hxi.trans hxj).trans hx_9).trans hx_10).trans hx_12).trans hx_13).trans hx_14), hr_14, hsK_14, hsF_14⟩) (rfl) dX5_halve_198
            · have c_144 := bI_0 c_144
              refine lv_goto (tgt := 199) hx hb dX5_halve_147 (by decide) ?_
              refine lv_iinc (v := nI (i + 1)) (lv' := [(4, .int (nI (i + 1))), (5, .ref cp), (0, .ref z), (1, .ref b), (2, .int (nI p9)), (3, .int (nI (cnt d 24)))]) hx hb dX5_halve_199 hl (k := 5) rfl ((nI_succ i).symm) (by decide) rfl (fun ls hl => ?_)
              refine lv_goto (tgt := 107) hx hb dX5_halve_202 (by decide) ?_
              refine W.widen (k := 2 * p9 + 2 * (i + 1) + ((lk Ki (nd d (pto d p9 i))).length - K.length)) (n := 2 * cnt d 24 * p9 + 2 * cnt d 24 * (i + 1) + (tri (lk Ki (nd d (pto d p9 i))).length - tri K.length)) (by first | omega | (dsimp only; omega)) (by first | omega | (dsimp only; omega)) ?_
              exact ih ((i + 1, lk Ki (nd d (pto d p9 i)), L_10, f_10, an_10)) (by show p9 - (i + 1) < p9 - i; omega) (⟨by show i + 1 ≤ p9; omega, by show (lk Ki (nd d (pto d p9 i))).length ≤ K1.length + (i + 1); omega, by show K1.length ≤ (lk Ki (nd d (pto d p9 i))).length; omega, KD_lk hKDi hdx, ((hxj.trans hx_9).trans hx_10), hsN_10, fun z9 => (by show fst1 (spl k ne sp n rc) (fun k9 => nd d (pto d p9 k9)) (p9 - (i + 1)) (i + 1) (lk Ki (nd d (pto d p9 i))) = _; rw [← hfi z9, show p9 - i = (p9 - (i + 1)) + 1 by omega]; exact (fst1_f (mk := (fun k9 => nd d (pto d p9 k9))) c_144).symm), fun z9 => absurd c_115 z9⟩) _ _ _ hP hD hS (lv_sub (l' := [(0, .ref z), (1, .ref b), (2, .int (nI p9)), (3, .int (nI (cnt d 24))), (4, .int (nI (i + 1)))]) hl [2, 3, 4, 5, 0] rfl)
      · have c_16 := mt (nI_leI (by omega) (by omega)).mpr c_16
        have hq := pto_num (m := cnt d 24) (n := p9) (k := i) (by omega) (by omega) hpp hpm
        have hm1 : i * cnt d 24 ≤ 24 * 24 := Nat.mul_le_mul (by omega) (by omega)
        have hm2 : (i + 1) * cnt d 24 ≤ 24 * 24 := Nat.mul_le_mul (by omega) (by omega)
        have hMi : 2 * cnt d 24 * (i + 1) = 2 * cnt d 24 * i + 2 * cnt d 24 := Nat.mul_succ _ _
        have hlkl := lk_ge Ki (pto d p9 i)
        have hlku := lk_le Ki (pto d p9 i)
        have htl := tri_le hlkl
        have hpsi := psi_p0 (cnt d 24) (by omega) p9 (by omega) (rng_t hpp hpm) i (by omega)
        have hlk1 := fst1_lk hfi (by omega)
        have htl1 := tri_le hlk1
        refine lv_aload_n hx hb dX5_halve_19 rfl (lv_at hl 1 rfl) ?_
        refine lv_iload hx hb dX5_halve_20 (lv_at hl 4 rfl) ?_
        refine lv_iload_n hx hb dX5_halve_22 rfl (lv_at hl 3 rfl) ?_
        refine lv_imul hx hb dX5_halve_23 ?_
        refine cs_i (y := nI (i * (cnt d 24))) (pk_mul _ _) ?_
        refine lv_iload_n hx hb dX5_halve_24 rfl (lv_at hl 2 rfl) ?_
        refine lv_idiv hx hb dX5_halve_25 (nI_ne0 (by omega) (by omega)) ?_
        refine cs_i (y := nI ((i * (cnt d 24)) / p9)) (pk_div (by omega) (by omega) (by omega)) ?_
        refine lv_iload hx hb dX5_halve_26 (lv_at hl 4 rfl) ?_
        refine lv_iconst (v := nI 1) hx hb dX5_halve_28 (by decide +kernel) ?_
        refine lv_iadd hx hb dX5_halve_29 ?_
        refine cs_i (y := nI (i + 1)) (nI_add _ _) ?_
        refine lv_iload_n hx hb dX5_halve_30 rfl (lv_at hl 3 rfl) ?_
        refine lv_imul hx hb dX5_halve_31 ?_
        refine cs_i (y := nI ((i + 1) * (cnt d 24))) (pk_mul _ _) ?_
        refine lv_iload_n hx hb dX5_halve_32 rfl (lv_at hl 2 rfl) ?_
        refine lv_idiv hx hb dX5_halve_33 (nI_ne0 (by omega) (by omega)) ?_
        refine cs_i (y := nI (((i + 1) * (cnt d 24)) / p9)) (pk_div (by omega) (by omega) (by omega)) ?_
        refine p_sr (X := [(z, .inr (5, [.ref ak, .ref ar, .ref al, .ref alk, .int (nI td), .ref ast, .int (nI aa), .ref ai, .ref amd]))]) (cx := ([] : va_W)) (As := [.ref b, .int (nI (i * cnt d 24 / p9)), .int (nI ((i + 1) * cnt d 24 / p9))]) (rest := []) (wr := [(z, .inr (5, [.ref ak, .ref ar, .ref al, .ref alk, .int (nI td), .ref ast, .int (nI aa), .ref ai, .ref amd]))]) ⟨hx, hb, hml, hown, hts⟩ hK hQ hP hD hS hA hZ hN (c_X5_piece l G gr sa R Li fi b (cnt d 24) (i * cnt d 24 / p9) ((i + 1) * cnt d 24 / p9) (fun j => nI (plc d j)) (by first | assumption | omega) (by first | assumption | omega) (by first | assumption | omega) (hib.l R)) (va_cwS 3 hts gX5_halve_X5_piece rfl rfl rfl (by decide +kernel) ⟨by first | omega | (dsimp only; omega), by first | omega | (dsimp only; omega)⟩) [] [0] ⟨rfl, rfl, by decide, by decide, by decide⟩ rfl hl.1 rfl (Nat.le_of_ble_eq_true rfl) ⟨by first | omega | (dsimp only; omega), by first | omega | (dsimp only; omega)⟩ dX5_halve_34 (fun cp u_15 H locs hw hP hD hS => ?_)
        obtain ⟨L_15, f_15⟩ := u_15
        try dsimp only at hw
        have hP : va_P G.1 vwCl ([(z, .inr (5, [.ref ak, .ref ar, .ref al, .ref alk, .int (nI td), .ref ast, .int (nI aa), .ref ai, .ref amd]))] ++ va_pl (R ++ L_15) f_15) H := hP
        have hD : va_D A ([(z, .inr (5, [.ref ak, .ref ar, .ref al, .ref alk, .int (nI td), .ref ast, .int (nI aa), .ref ai, .ref amd]))] ++ va_pl (R ++ L_15) f_15) := hD
        obtain ⟨hx_15, hr_15⟩ := hw
        have hsim := hsim.mono hx_15
        have hib := hib.mono hx_15
        have hsF := hsF.mono hx_15
        have hsKi := hsKi.mono hx_15
        have hpt : dI G L_15 f_15 cp (pto d p9 i) := dI_piece hq hr_15
        have hdx : pto d p9 i < 2 ^ 24 := pto_lt d p9 i
        have hcx : cnt (pto d p9 i) 24 = (i + 1) * cnt d 24 / p9 - i * cnt d 24 / p9 := cnt_part d (Nat.le_of_lt hq.1) hq.2.1
        refine lv_astore (lv' := [(5, .ref cp), (0, .ref z), (1, .ref b), (2, .int (nI p9)), (3, .int (nI (cnt d 24))), (4, .int (nI i))]) hx hb dX5_halve_37 hl (by decide) rfl (fun ls hl => ?_)
        refine lv_aload_n hx hb dX5_halve_39 rfl (lv_at hl 1 rfl) ?_
        refine lv_aload hx hb dX5_halve_40 (lv_at hl 0 rfl) ?_
        refine p_vi (X := [(z, .inr (5, [.ref ak, .ref ar, .ref al, .ref alk, .int (nI td), .ref ast, .int (nI aa), .ref ai, .ref amd]))]) (cx := [(z, .inr (5, [.ref ak, .ref ar, .ref al, .ref alk, .int (nI td), .ref ast, .int (nI aa), .ref ai, .ref amd]))]) (As := [.ref cp]) (rest := []) (wr := ([] : va_W)) ⟨hx, hb, hml, hown, hts⟩ hK hQ hP hD hS hA hZ hN (c_X5_taste l G gr sa R L_15 f_15 z ak ar al alk ast ai amd td aa n rc k ne sp (by first | assumption | omega) (by first | assumption | omega) (by first | assumption | omega) (by first | assumption | omega) (by first | assumption | omega) (by first | assumption | omega) (by first | assumption | omega) cp (pto d p9 i) Ki (pto_ltn hd) (hpt) (by first | assumption | omega) (hsKi) (hKDi)) (cwV 1 hts gX5_halve_X5_taste rfl rfl rfl (by decide +kernel) ⟨by first | omega | (dsimp only; omega), by first | omega | (dsimp only; omega)⟩) [0] [] ⟨rfl, rfl, by decide, by decide, by decide⟩ 0 5 rfl rfl rfl hl.1 rfl (Nat.le_of_ble_eq_true rfl) ⟨by first | omega | (dsimp only; omega), by first | omega | (dsimp only; omega)⟩ dX5_halve_42 (fun r u_16 H locs hw hP hD hS => ?_)
        obtain ⟨⟨L_16, f_16⟩, an_16⟩ := u_16
        try dsimp only at hw
        have hP : va_P G.1 vwCl ([(z, .inr (5, [.ref ak, .ref ar, .ref al, .ref alk, .int (nI td), .ref ast, .int (nI aa), .ref an_16, .ref amd]))] ++ va_pl (R ++ L_16) f_16) H := hP
        have hD : va_D A ([(z, .inr (5, [.ref ak, .ref ar, .ref al, .ref alk, .int (nI td), .ref ast, .int (nI aa), .ref an_16, .ref amd]))] ++ va_pl (R ++ L_16) f_16) := hD
        obtain ⟨hx_16, hw, hsN_16⟩ := hw
        subst hw
        have hsim := hsim.mono hx_16
        have hib := hib.mono hx_16
        have hsF := hsF.mono hx_16
        have hsKi := hsKi.mono hx_16
        have hpt := hpt.mono hx_16
        refine lv_if_ne (tgt := 51) hx hb dX5_halve_45 (by decide) (fun c_45 => ?_) (fun c_45 => ?_)
        · have c_45 := bI_n0 c_45
          have e5 : (some i, lk Ki (pto d p9 i)) = (o1, K1) := by rw [← hfi, show p9 - i = (p9 - (i + 1)) + 1 by omega]; exact (fst1_t (mk := pto d p9) c_45).symm
          cases e5
          have hy9 := hst_1 (F := F) hc2 e1
          rw [← hcx] at hpsi
          have hphi := hph_num (m := cnt d 24) (m' := cnt (pto d p9 i) 24) (n := p9) (n' := 2) (by omega) (by omega) (by omega) hpp hpm (by omega)
          obtain ⟨hIy, hmuy, hF5y, hFly, hRy⟩ := mgo_s hy9 hI9 hmu9 hF5 hFl hR9
          obtain ⟨g1, g2, g3, g4⟩ := hrn_gr hRy
          have hFL : (F ++ [nI (cnt d 24), nI p9, nI 1, nI i, nI (pto d p9 i)]).length = F.length + 5 := by rw [List.length_append]; rfl
          have hFD : (F ++ [nI (cnt d 24), nI p9, nI 1, nI i, nI (pto d p9 i)]).length / 5 = F.length / 5 + 1 := by omega
          have hFT : tri ((F ++ [nI (cnt d 24), nI p9, nI 1, nI i, nI (pto d p9 i)]).length / 5) = tri (F.length / 5) + (F.length / 5 + 1) := by rw [hFD]; rfl
          refine lv_aload_n hx hb dX5_halve_51 rfl (lv_at hl 1 rfl) ?_
          refine lv_aload_n hx hb dX5_halve_52 rfl (lv_at hl 1 rfl) ?_
          refine va_get (D := G.1) (ci := 5) (v := .ref amd) (C := RX5) (T := TX5) (N := 9) hx hb hts hin5 hown hK hP 0 rfl rfl 8 (by decide) (hts (.fieldLink RX5 30 "FaultShrinkerLaw$Sim" "made" "[[I") (List.mem_of_getElem? (i := 1) rfl)) (fun _ h9 => h9) rfl dX5_halve_53 ?_
          refine lv_iconst (v := nI 5) hx hb dX5_halve_56 (by decide +kernel) ?_
          refine p_newI hx hb (hts (.arrayClass .int) (List.mem_of_getElem? (i := 2) rfl)) hK hP hD hS hA (N' := 5) rfl (by omega) (by first | omega | (dsimp only; omega)) (by first | omega | (dsimp only; omega)) dX5_halve_57 (fun q57 H hP hD hS => ?_)
          have hP : va_P G.1 vwCl ([(z, .inr (5, [.ref ak, .ref ar, .ref al, .ref alk, .int (nI td), .ref ast, .int (nI aa), .ref an_16, .ref amd])), (q57, .inl (G.2.1, 5, .inl (nF (fun _ => 0))))] ++ va_pl (R ++ L_16) f_16) _ := hP
          have hD : va_D A ([(z, .inr (5, [.ref ak, .ref ar, .ref al, .ref alk, .int (nI td), .ref ast, .int (nI aa), .ref an_16, .ref amd])), (q57, .inl (G.2.1, 5, .inl (nF (fun _ => 0))))] ++ va_pl (R ++ L_16) f_16) := hD
          have hP : va_P G.1 vwCl ([(z, .inr (5, [.ref ak, .ref ar, .ref al, .ref alk, .int (nI td), .ref ast, .int (nI aa), .ref an_16, .ref amd])), (q57, .inl (G.2.1, 5, .inl (nF (fun _ => 0))))] ++ va_pl (R ++ L_16) f_16) _ := hP
          have hD : va_D A ([(z, .inr (5, [.ref ak, .ref ar, .ref al, .ref alk, .int (nI td), .ref ast, .int (nI aa), .ref an_16, .ref amd])), (q57, .inl (G.2.1, 5, .inl (nF (fun _ => 0))))] ++ va_pl (R ++ L_16) f_16) := hD
          refine lv_dup hx hb dX5_halve_59 rfl ?_
          refine lv_iconst (v := nI 0) hx hb dX5_halve_60 (by decide +kernel) ?_
          refine lv_iload_n hx hb dX5_halve_61 rfl (lv_at hl 4 rfl) ?_
          refine va_iast hx hb hK hP hD hS 1 0 rfl rfl (vp_in_nI (by omega) (by omega)) dX5_halve_62 (fun H locs hP hD hS => ?_)
          rw [aF_upd _ (by omega)] at hP hD
          have hP : va_P G.1 vwCl ([(z, .inr (5, [.ref ak, .ref ar, .ref al, .ref alk, .int (nI td), .ref ast, .int (nI aa), .ref an_16, .ref amd])), (q57, .inl (G.2.1, 5, .inl (va_up (nF (fun _ => 0)) 0 (nI (cnt d 24)))))] ++ va_pl (R ++ L_16) f_16) _ := hP
          have hD : va_D A ([(z, .inr (5, [.ref ak, .ref ar, .ref al, .ref alk, .int (nI td), .ref ast, .int (nI aa), .ref an_16, .ref amd])), (q57, .inl (G.2.1, 5, .inl (va_up (nF (fun _ => 0)) 0 (nI (cnt d 24)))))] ++ va_pl (R ++ L_16) f_16) := hD
          refine lv_dup hx hb dX5_halve_63 rfl ?_
          refine lv_iconst (v := nI 1) hx hb dX5_halve_64 (by decide +kernel) ?_
          refine lv_iload_n hx hb dX5_halve_65 rfl (lv_at hl 3 rfl) ?_
          refine va_iast hx hb hK hP hD hS 1 0 rfl rfl (vp_in_nI (by omega) (by omega)) dX5_halve_66 (fun H locs hP hD hS => ?_)
          rw [aF_upd _ (by omega)] at hP hD
          have hP : va_P G.1 vwCl ([(z, .inr (5, [.ref ak, .ref ar, .ref al, .ref alk, .int (nI td), .ref ast, .int (nI aa), .ref an_16, .ref amd])), (q57, .inl (G.2.1, 5, .inl (va_up (va_up (nF (fun _ => 0)) 0 (nI (cnt d 24))) 1 (nI p9))))] ++ va_pl (R ++ L_16) f_16) _ := hP
          have hD : va_D A ([(z, .inr (5, [.ref ak, .ref ar, .ref al, .ref alk, .int (nI td), .ref ast, .int (nI aa), .ref an_16, .ref amd])), (q57, .inl (G.2.1, 5, .inl (va_up (va_up (nF (fun _ => 0)) 0 (nI (cnt d 24))) 1 (nI p9))))] ++ va_pl (R ++ L_16) f_16) := hD
          refine lv_dup hx hb dX5_halve_67 rfl ?_
          refine lv_iconst (v := nI 2) hx hb dX5_halve_68 (by decide +kernel) ?_
          refine lv_iconst (v := nI 1) hx hb dX5_halve_69 (by decide +kernel) ?_
          refine va_iast hx hb hK hP hD hS 1 0 rfl rfl (vp_in_nI (by omega) (by omega)) dX5_halve_70 (fun H locs hP hD hS => ?_)
          rw [aF_upd _ (by omega)] at hP hD
          have hP : va_P G.1 vwCl ([(z, .inr (5, [.ref ak, .ref ar, .ref al, .ref alk, .int (nI td), .ref ast, .int (nI aa), .ref an_16, .ref amd])), (q57, .inl (G.2.1, 5, .inl (va_up (va_up (va_up (nF (fun _ => 0)) 0 (nI (cnt d 24))) 1 (nI p9)) 2 (nI 1))))] ++ va_pl (R ++ L_16) f_16) _ := hP
          have hD : va_D A ([(z, .inr (5, [.ref ak, .ref ar, .ref al, .ref alk, .int (nI td), .ref ast, .int (nI aa), .ref an_16, .ref amd])), (q57, .inl (G.2.1, 5, .inl (va_up (va_up (va_up (nF (fun _ => 0)) 0 (nI (cnt d 24))) 1 (nI p9)) 2 (nI 1))))] ++ va_pl (R ++ L_16) f_16) := hD
          refine lv_dup hx hb dX5_halve_71 rfl ?_
          refine lv_iconst (v := nI 3) hx hb dX5_halve_72 (by decide +kernel) ?_
          refine lv_iload hx hb dX5_halve_73 (lv_at hl 5 rfl) ?_
          refine va_iast hx hb hK hP hD hS 1 0 rfl rfl (vp_in_nI (by omega) (by omega)) dX5_halve_75 (fun H locs hP hD hS => ?_)
          rw [aF_upd _ (by omega)] at hP hD
          have hP : va_P G.1 vwCl ([(z, .inr (5, [.ref ak, .ref ar, .ref al, .ref alk, .int (nI td), .ref ast, .int (nI aa), .ref an_16, .ref amd])), (q57, .inl (G.2.1, 5, .inl (va_up (va_up (va_up (va_up (nF (fun _ => 0)) 0 (nI (cnt d 24))) 1 (nI p9)) 2 (nI 1)) 3 (nI i))))] ++ va_pl (R ++ L_16) f_16) _ := hP
          have hD : va_D A ([(z, .inr (5, [.ref ak, .ref ar, .ref al, .ref alk, .int (nI td), .ref ast, .int (nI aa), .ref an_16, .ref amd])), (q57, .inl (G.2.1, 5, .inl (va_up (va_up (va_up (va_up (nF (fun _ => 0)) 0 (nI (cnt d 24))) 1 (nI p9)) 2 (nI 1)) 3 (nI i))))] ++ va_pl (R ++ L_16) f_16) := hD
          refine lv_dup hx hb dX5_halve_76 rfl ?_
          refine lv_iconst (v := nI 4) hx hb dX5_halve_77 (by decide +kernel) ?_
          refine lv_aload hx hb dX5_halve_78 (lv_at hl 0 rfl) ?_
          refine p_si (X := [(z, .inr (5, [.ref ak, .ref ar, .ref al, .ref alk, .int (nI td), .ref ast, .int (nI aa), .ref an_16, .ref amd])), (q57, .inl (G.2.1, 5, .inl (va_up (va_up (va_up (va_up (nF (fun _ => 0)) 0 (nI (cnt d 24))) 1 (nI p9)) 2 (nI 1)) 3 (nI i))))]) (cx := ([] : va_W)) (As := [.ref cp]) (rest := [.int (nI 4), .ref q57, .ref q57, .ref amd, .ref z]) (wr := [(z, .inr (5, [.ref ak, .ref ar, .ref al, .ref alk, .int (nI td), .ref ast, .int (nI aa), .ref an_16, .ref amd])), (q57, .inl (G.2.1, 5, .inl (va_up (va_up (va_up (va_up (nF (fun _ => 0)) 0 (nI (cnt d 24))) 1 (nI p9)) 2 (nI 1)) 3 (nI i))))]) ⟨hx, hb, hml, hown, hts⟩ hK hQ hP hD hS hA hZ hN (c_X5_bits l G gr sa R L_16 f_16 cp (pto d p9 i) (hdx) (hpt)) (va_cwS 1 hts gX5_halve_X5_bits rfl rfl rfl (by decide +kernel) ⟨by first | omega | (dsimp only; omega), by first | omega | (dsimp only; omega)⟩) [] [0, 1] ⟨rfl, rfl, by decide, by decide, by decide⟩ rfl hl.1 rfl (Nat.le_of_ble_eq_true rfl) ⟨by first | omega | (dsimp only; omega), by first | omega | (dsimp only; omega)⟩ dX5_halve_80 (fun r u_17 H locs hw hP hD hS => ?_)
          try dsimp only at hw
          have hP : va_P G.1 vwCl ([(z, .inr (5, [.ref ak, .ref ar, .ref al, .ref alk, .int (nI td), .ref ast, .int (nI aa), .ref an_16, .ref amd])), (q57, .inl (G.2.1, 5, .inl (va_up (va_up (va_up (va_up (nF (fun _ => 0)) 0 (nI (cnt d 24))) 1 (nI p9)) 2 (nI 1)) 3 (nI i))))] ++ va_pl (R ++ L_16) f_16) H := hP
          have hD : va_D A ([(z, .inr (5, [.ref ak, .ref ar, .ref al, .ref alk, .int (nI td), .ref ast, .int (nI aa), .ref an_16, .ref amd])), (q57, .inl (G.2.1, 5, .inl (va_up (va_up (va_up (va_up (nF (fun _ => 0)) 0 (nI (cnt d 24))) 1 (nI p9)) 2 (nI 1)) 3 (nI i))))] ++ va_pl (R ++ L_16) f_16) := hD
          subst hw
          refine va_iast hx hb hK hP hD hS 1 0 rfl rfl (vp_in_nI (by omega) (by omega)) dX5_halve_83 (fun H locs hP hD hS => ?_)
          rw [aF_upd _ (by omega)] at hP hD
          have hP : va_P G.1 vwCl ([(z, .inr (5, [.ref ak, .ref ar, .ref al, .ref alk, .int (nI td), .ref ast, .int (nI aa), .ref an_16, .ref amd])), (q57, .inl (G.2.1, 5, .inl (va_up (va_up (va_up (va_up (va_up (nF (fun _ => 0)) 0 (nI (cnt d 24))) 1 (nI p9)) 2 (nI 1)) 3 (nI i)) 4 (nI (pto d p9 i)))))] ++ va_pl (R ++ L_16) f_16) _ := hP
          have hD : va_D A ([(z, .inr (5, [.ref ak, .ref ar, .ref al, .ref alk, .int (nI td), .ref ast, .int (nI aa), .ref an_16, .ref amd])), (q57, .inl (G.2.1, 5, .inl (va_up (va_up (va_up (va_up (va_up (nF (fun _ => 0)) 0 (nI (cnt d 24))) 1 (nI p9)) 2 (nI 1)) 3 (nI i)) 4 (nI (pto d p9 i)))))] ++ va_pl (R ++ L_16) f_16) := hD
          obtain ⟨hP, hD, hx_18, hmF, heF⟩ := p_frz (X := [(z, .inr (5, [.ref ak, .ref ar, .ref al, .ref alk, .int (nI td), .ref ast, .int (nI aa), .ref an_16, .ref amd]))]) (RR := R) (L := L_16) (f := f_16) hP hD
          obtain ⟨L_18, f_18, hLF, hfF⟩ : ∃ L9 f9, L9 = L_16 ++ [q57] ∧ f9 = va_up f_16 q57 (.inl (G.2.1, 5, .inl (va_up (va_up (va_up (va_up (va_up (nF (fun _ => 0)) 0 (nI (cnt d 24))) 1 (nI p9)) 2 (nI 1)) 3 (nI i)) 4 (nI (pto d p9 i))))) := ⟨_, _, rfl, rfl⟩
          rw [← hLF, ← hfF] at hP hD hx_18
          rw [← hLF] at hmF
          rw [← hfF] at heF
          have h5 : fI G L_18 f_18 q57 5 (fun i9 => [nI (cnt d 24), nI p9, nI 1, nI i, nI (pto d p9 i)].getD i9 0) := ⟨hmF, _, heF, (fun j hj => i5_e _ _ _ _ _ _ hj)⟩
          clear hmF heF hLF hfF
          have hsim := hsim.mono hx_18
          have hib := hib.mono hx_18
          have hsF := hsF.mono hx_18
          have hsKi := hsKi.mono hx_18
          have hpt := hpt.mono hx_18
          have hsN_16 := hsN_16.mono hx_18
          have hP : va_P G.1 vwCl ([(z, .inr (5, [.ref ak, .ref ar, .ref al, .ref alk, .int (nI td), .ref ast, .int (nI aa), .ref an_16, .ref amd]))] ++ va_pl (R ++ L_18) f_18) _ := hP
          have hD : va_D A ([(z, .inr (5, [.ref ak, .ref ar, .ref al, .ref alk, .int (nI td), .ref ast, .int (nI aa), .ref an_16, .ref amd]))] ++ va_pl (R ++ L_18) f_18) := hD
          have hsF0 := hsF
          obtain ⟨rrF, hsR, hsI⟩ := hsF0
          refine p_sr (X := [(z, .inr (5, [.ref ak, .ref ar, .ref al, .ref alk, .int (nI td), .ref ast, .int (nI aa), .ref an_16, .ref amd]))]) (cx := ([] : va_W)) (As := [.ref amd, .ref q57]) (rest := [.ref z]) (wr := [(z, .inr (5, [.ref ak, .ref ar, .ref al, .ref alk, .int (nI td), .ref ast, .int (nI aa), .ref an_16, .ref amd]))]) ⟨hx, hb, hml, hown, hts⟩ hK hQ hP hD hS hA hZ hN (c_X5_more l G gr sa R L_18 f_18 amd q57 (F.length / 5) 5 rrF (fun i9 => [nI (cnt d 24), nI p9, nI 1, nI i, nI (pto d p9 i)].getD i9 0) (by first | assumption | omega) (hsR) (fun j hj => ⟨_, _, (hsI j hj).l R⟩) (h5.l R)) (va_cwS 2 hts gX5_halve_X5_more rfl rfl rfl (by decide +kernel) ⟨by first | omega | (dsimp only; omega), by first | omega | (dsimp only; omega)⟩) [] [0] ⟨rfl, rfl, by decide, by decide, by decide⟩ rfl hl.1 rfl (Nat.le_of_ble_eq_true rfl) ⟨by first | omega | (dsimp only; omega), by first | omega | (dsimp only; omega)⟩ dX5_halve_84 (fun cm u_19 H locs hw hP hD hS => ?_)
          obtain ⟨L_19, f_19⟩ := u_19
          try dsimp only at hw
          have hP : va_P G.1 vwCl ([(z, .inr (5, [.ref ak, .ref ar, .ref al, .ref alk, .int (nI td), .ref ast, .int (nI aa), .ref an_16, .ref amd]))] ++ va_pl (R ++ L_19) f_19) H := hP
          have hD : va_D A ([(z, .inr (5, [.ref ak, .ref ar, .ref al, .ref alk, .int (nI td), .ref ast, .int (nI aa), .ref an_16, .ref amd]))] ++ va_pl (R ++ L_19) f_19) := hD
          obtain ⟨hx_19, hr_19⟩ := hw
          have hsim := hsim.mono hx_19
          have hib := hib.mono hx_19
          have hsF := hsF.mono hx_19
          have hsKi := hsKi.mono hx_19
          have hpt := hpt.mono hx_19
          have hsN_16 := hsN_16.mono hx_19
          have h5 := h5.mono hx_19
          have hsFN : sF G gr L_19 f_19 cm (F ++ [nI (cnt d 24), nI p9, nI 1, nI i, nI (pto d p9 i)]) := sF.push hF5 hr_19 (fun j hj => (hsI j hj).mono hx_19) h5
          refine va_put (D := G.1) (ci := 5) (v := .ref cm) (ty := .array (.array .int)) (C := RX5) (T := TX5) (N := 9) hx hb hts hin5 tyX5 tyX5_ok nmX5 hown hK hP hD hS 0 rfl rfl 8 (by decide) (hts (.fieldLink RX5 30 "FaultShrinkerLaw$Sim" "made" "[[I") (List.mem_of_getElem? (i := 1) rfl)) (fun _ h9 => h9) rfl (by decide +kernel) rfl rfl (Nat.le_of_ble_eq_true rfl) dX5_halve_87 (fun H locs hP hD hS => ?_)
          have hP : va_P G.1 vwCl ([(z, .inr (5, [.ref ak, .ref ar, .ref al, .ref alk, .int (nI td), .ref ast, .int (nI aa), .ref an_16, .ref cm]))] ++ va_pl (R ++ L_19) f_19) _ := hP
          have hD : va_D A ([(z, .inr (5, [.ref ak, .ref ar, .ref al, .ref alk, .int (nI td), .ref ast, .int (nI aa), .ref an_16, .ref cm]))] ++ va_pl (R ++ L_19) f_19) := hD
          refine lv_aload_n hx hb dX5_halve_90 rfl (lv_at hl 1 rfl) ?_
          refine lv_aload hx hb dX5_halve_91 (lv_at hl 0 rfl) ?_
          refine lv_iconst (v := nI 2) hx hb dX5_halve_93 (by decide +kernel) ?_
          refine p_vr (X := [(z, .inr (5, [.ref ak, .ref ar, .ref al, .ref alk, .int (nI td), .ref ast, .int (nI aa), .ref an_16, .ref cm]))]) (cx := [(z, .inr (5, [.ref ak, .ref ar, .ref al, .ref alk, .int (nI td), .ref ast, .int (nI aa), .ref an_16, .ref cm]))]) (As := [.ref cp, .int (nI 2)]) (rest := []) (wr := ([] : va_W)) ⟨hx, hb, hml, hown, hts⟩ hK hQ hP hD hS hA hZ hN (ihr R L_19 f_19 z ak ar al alk ast an_16 cm td aa n rc k ne sp (by first | assumption | omega) (by first | assumption | omega) (by first | assumption | omega) (by first | assumption | omega) (by first | assumption | omega) (by first | assumption | omega) (by first | assumption | omega) cp (pto d p9 i) 2 (lk Ki (pto d p9 i)) (F ++ [nI (cnt d 24), nI p9, nI 1, nI i, nI (pto d p9 i)]) d2 n2 K2 F2 (K2.length + F2.length + 2 * hph (cnt (pto d p9 i) 24) 2 - ((lk Ki (pto d p9 i)).length + (F ++ [nI (cnt d 24), nI p9, nI 1, nI i, nI (pto d p9 i)]).length)) (tri K2.length + tri (F2.length / 5) + F2.length + psi (cnt (pto d p9 i) 24) 2 - (tri (lk Ki (pto d p9 i)).length + tri ((F ++ [nI (cnt d 24), nI p9, nI 1, nI i, nI (pto d p9 i)]).length / 5) + (F ++ [nI (cnt d 24), nI p9, nI 1, nI i, nI (pto d p9 i)]).length)) (pto_ltn hd) (hpt) (by first | assumption | omega) (hIy) (hmuy) (hF5y) (hFly) (hsN_16) (KD_lk hKDi hdx) (hsFN) (hRy) (by omega) (by omega)) (cwV 2 hts gX5_halve_X5_halve rfl rfl rfl (by decide +kernel) ⟨by first | omega | (dsimp only; omega), by first | omega | (dsimp only; omega)⟩) [0] [] ⟨rfl, rfl, by decide, by decide, by decide⟩ 0 5 rfl rfl rfl hl.1 rfl (Nat.le_of_ble_eq_true rfl) ⟨by first | omega | (dsimp only; omega), by first | omega | (dsimp only; omega)⟩ dX5_halve_94 (fun cr u_20 H locs hw hP hD hS => ?_)
          obtain ⟨⟨L_20, f_20⟩, an_20, am_20⟩ := u_20
          try dsimp only at hw
          have hP : va_P G.1 vwCl ([(z, .inr (5, [.ref ak, .ref ar, .ref al, .ref alk, .int (nI td), .ref ast, .int (nI aa), .ref an_20, .ref am_20]))] ++ va_pl (R ++ L_20) f_20) H := hP
          have hD : va_D A ([(z, .inr (5, [.ref ak, .ref ar, .ref al, .ref alk, .int (nI td), .ref ast, .int (nI aa), .ref an_20, .ref am_20]))] ++ va_pl (R ++ L_20) f_20) := hD
          obtain ⟨hx_20, hr_20, hsK_20, hsF_20⟩ := hw
          have hsim := hsim.mono hx_20
          have hib := hib.mono hx_20
          have hsF := hsF.mono hx_20
          have hsKi := hsKi.mono hx_20
          have hpt := hpt.mono hx_20
          have hsN_16 := hsN_16.mono hx_20
          have h5 := h5.mono hx_20
          have hsFN := hsFN.mono hx_20
          refine W.widen (k := C9) (n := S9) (by first | omega | (dsimp only; omega)) (by first | omega | (dsimp only; omega)) ?_
          exact p_aret (rt := .array .int) hx hb hr ⟨.int, rfl⟩ hlocks hK hP hD hS (v := cr) ((L_20, f_20), an_20, am_20) (⟨(((((hxi.trans hx_15).trans hx_16).trans hx_18).trans hx_19).trans hx_20), hr_20, hsK_20, hsF_20⟩) (rfl) dX5_halve_97
        · have c_45 := bI_0 c_45
          refine lv_goto (tgt := 98) hx hb dX5_halve_48 (by decide) ?_
          refine lv_iinc (v := nI (i + 1)) (lv' := [(4, .int (nI (i + 1))), (5, .ref cp), (0, .ref z), (1, .ref b), (2, .int (nI p9)), (3, .int (nI (cnt d 24)))]) hx hb dX5_halve_98 hl (k := 5) rfl ((nI_succ i).symm) (by decide) rfl (fun ls hl => ?_)
          refine lv_goto (tgt := 13) hx hb dX5_halve_101 (by decide) ?_
          refine W.widen (k := 2 * (i + 1) + ((lk Ki (pto d p9 i)).length - K.length)) (n := 2 * cnt d 24 * (i + 1) + (tri (lk Ki (pto d p9 i)).length - tri K.length)) (by first | omega | (dsimp only; omega)) (by first | omega | (dsimp only; omega)) ?_
          exact ih ((i + 1, lk Ki (pto d p9 i), L_16, f_16, an_16)) (by show p9 - (i + 1) < p9 - i; omega) (⟨by show i + 1 ≤ p9; omega, by show (lk Ki (pto d p9 i)).length ≤ K.length + (i + 1); omega, by show K.length ≤ (lk Ki (pto d p9 i)).length; omega, KD_lk hKDi hdx, ((hxi.trans hx_15).trans hx_16), hsN_16, by show fst1 (spl k ne sp n rc) (pto d p9) (p9 - (i + 1)) (i + 1) (lk Ki (pto d p9 i)) = _; rw [← hfi, show p9 - i = (p9 - (i + 1)) + 1 by omega]; exact (fst1_f (mk := pto d p9) c_45).symm⟩) _ _ _ hP hD hS (lv_sub (l' := [(0, .ref z), (1, .ref b), (2, .int (nI p9)), (3, .int (nI (cnt d 24))), (4, .int (nI (i + 1)))]) hl [2, 3, 4, 5, 0] rfl)
    · have c_5 := (nI_eq (by omega) (by omega)).mp c_5
      refine lv_aload_n hx hb dX5_halve_8 rfl (lv_at hl 2 rfl) ?_
      have e5 := mgo_e (hst_0 (sp := (spl k ne sp n rc)) (n := p9) (K := K) (F := F) (show cnt d 24 ≤ 1 by omega)) hR9
      cases e5
      refine W.widen (k := C9) (n := S9) (by first | omega | (dsimp only; omega)) (by first | omega | (dsimp only; omega)) ?_
      exact p_aret (rt := .array .int) hx hb hr ⟨.int, rfl⟩ hlocks hK hP hD hS (v := b) ((L, f), asn, amd) (⟨pX.rf, hib, hsK, hsF⟩) (rfl) dX5_halve_9
theorem c_X5_halve (l : Launch) (G : cG) (gr : ClassId) (sa : Nat → Nat) (R L : List Nat) (f : Nat → va_E) (fu : Nat) (z ak ar al alk ast asn amd td aa : Nat) (n rc : Nat) (k ne sp : Nat → Nat) (hn : n ≤ 24) (hk : ∀ j, j < n → k j < 16) (hrc : rc ≤ 6) (hne : ∀ j, j < 6 → ne j < 65536) (hsp : ∀ j, j < 6 → sp j < 65536) (hdj : ∀ j, j < 6 → ne j &&& sp j = 0) (hsim : simK G gr R L f ak ar n k rc ne sp) (b d p9 : Nat) (K : List Nat) (F : List Int32) (d2 n2 : Nat) (K2 : List Nat) (F2 : List Int32) (C9 S9 : Nat) (hd : d < 2 ^ n) (hib : dI G L f b d) (hsd : spl k ne sp n rc d = true) (hI9 : hIn (d, p9, K, F)) (hmu9 : hmu (cnt d 24) p9 < fu) (hF5 : F.length % 5 = 0) (hFl : F.length + 5 * fu ≤ 640) (hsK : sK G gr L f asn K) (hKd : KD K) (hsF : sF G gr L f amd F) (hR9 : hrn (spl k ne sp n rc) fu (d, p9, K, F) = (d2, n2, K2, F2)) (hC9 : K2.length + F2.length + 2 * hph (cnt d 24) p9 ≤ C9 + K.length + F.length) (hS9 : tri K2.length + tri (F2.length / 5) + F2.length + psi (cnt d 24) p9 ≤ S9 + tri K.length + tri (F.length / 5) + F.length) : pMR l G gr sa yX5_halve wsX5_halve ({ frames := 5 + fu, cells := C9, slots := S9, locals := 110 + 40 * fu }) [.ref z, .ref b, .int (nI p9)] ([(z, .inr (5, [.ref ak, .ref ar, .ref al, .ref alk, .int (nI td), .ref ast, .int (nI aa), .ref asn, .ref amd]))] ++ va_pl (R ++ L) f) (fun (r_ : Nat) (u : (List Nat × (Nat → va_E)) × Nat × Nat) => pX R L f u.1.1 u.1.2 ∧ dI G u.1.1 u.1.2 r_ d2 ∧ sK G gr u.1.1 u.1.2 u.2.1 K2 ∧ sF G gr u.1.1 u.1.2 u.2.2 F2) (fun (u : (List Nat × (Nat → va_E)) × Nat × Nat) => ([(z, .inr (5, [.ref ak, .ref ar, .ref al, .ref alk, .int (nI td), .ref ast, .int (nI aa), .ref u.2.1, .ref u.2.2]))] ++ va_pl (R ++ u.1.1) u.1.2)) := a_X5_halve l G gr sa fu R L f z ak ar al alk ast asn amd td aa n rc k ne sp hn hk hrc hne hsp hdj hsim b d p9 K F d2 n2 K2 F2 C9 S9 hd hib hsd hI9 hmu9 hF5 hFl hsK hKd hsF hR9 hC9 hS9
