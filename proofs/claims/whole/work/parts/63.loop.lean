set_option maxHeartbeats 4000000 in
set_option maxRecDepth 100000 in
theorem law_go {p : Program} {l : Launch} {e : Env} {s : State} {m : MethodId} {below : List Frame} {meth : Method} {c : Code} {A : Nat → Prop} {Q : State → Prop} {G : cG} (hl9 : l.stackTraces = false) (sa : Nat → Nat) (x a ka b nb sb t kn q fa fp q1 fa1 fp1 oj z zk zn zs zw zf zg sc L : Nat) (xs : Nat → Int32) (hx : p.tables.exec = Jvm.exec) (hb : c.code = cL_law) (hml : c.maxLocals = 9) (hts : ∀ w ∈ wsL_law, w.before #[Value.ref sc] s = true) (hown : s.vm.findClass RL = some m.cls) (hA : ∀ q, s.heap.size ≤ q → A q) (hK : va_K G.1 vwCl (cTy G) s) (hZ : cEx sa A s) (hNc : va_Nc eIS eIO s) (hX : va_X sc L xs s s.heap) (hsc : sc < s.heap.size) (hscA : ¬ A sc) (hL : L ≤ 2048) (hend : ∀ (H : Heap) (locs : List Loc) (ls : Array Slot) (cells slots : Nat), cells ≤ 1062 → slots ≤ 23049 → va_S A s.heap H locs → W p l e room_1 s m #[Value.ref sc] below meth c H locs cells slots Q (F0 m 1072 ls [])) : ∀ (N it : Nat), 513 - it < N → it ≤ 512 → ∀ (n rc sn ta dd pp st ts dd1 pp1 st1 ts1 kq al th tam stm : Nat) (kp : Bool) (k ne sp g g1 kw : Nat → Nat) (T fo : Nat → Int64) (fx fx1 fxm gx : Nat → Int32) (F : List Int32) (H : Heap) (locs : List Loc) (ls : Array Slot), lwInv it n rc sn dd st kq kp k ne sp g g1 T fx gx F → va_P G.1 vwCl [(x, .inr (4, [.ref a, .ref b, .ref t, .ref q, .ref q1, .int (nI kq), .int (nI al)])), (a, .inr (0, [.ref ka, .int (nI n)])), (ka, .inl (G.2.1, 24, .inl (nF k))), (b, .inr (1, [.ref nb, .ref sb, .int (nI rc)])), (nb, .inl (G.2.1, 6, .inl (nF ne))), (sb, .inl (G.2.1, 6, .inl (nF sp))), (t, .inr (3, [.ref a, .ref b, .ref kn, .long (lN sn), .int (nI ta)])), (kn, .inl (G.2.2, 4096, .inr (.inl T))), (q, .inr (2, [.ref fa, .ref fp, .int (nI dd), .int (nI pp), .int (nI st), .int (nI ts)])), (fa, .inl (G.2.1, 640, .inl fx)), (fp, .inl (G.2.1, 25, .inl (nF g))), (q1, .inr (2, [.ref fa1, .ref fp1, .int (nI dd1), .int (nI pp1), .int (nI st1), .int (nI ts1)])), (fa1, .inl (G.2.1, 640, .inl fx1)), (fp1, .inl (G.2.1, 25, .inl (nF g1))), (oj, .inl (G.2.2, 1, .inr (.inl fo))), (z, .inr (5, [.int (nI th), .int (nI n), .ref zk, .int (nI rc), .ref zn, .ref zs, .int (nI tam), .ref zw, .int (nI stm), .ref zf, .int (bI kp), .int (nI dd), .int (nI kq), .int (nI ts), .int (nI st), .ref zg, .int (nI al)])), (zk, .inl (G.2.1, 24, .inl (nF k))), (zn, .inl (G.2.1, 6, .inl (nF ne))), (zs, .inl (G.2.1, 6, .inl (nF sp))), (zw, .inl (G.2.1, 4096, .inl (nF kw))), (zf, .inl (G.2.1, 2560, .inl fxm)), (zg, .inl (G.2.1, 2560, .inl gx))] H → va_D A [(x, .inr (4, [.ref a, .ref b, .ref t, .ref q, .ref q1, .int (nI kq), .int (nI al)])), (a, .inr (0, [.ref ka, .int (nI n)])), (ka, .inl (G.2.1, 24, .inl (nF k))), (b, .inr (1, [.ref nb, .ref sb, .int (nI rc)])), (nb, .inl (G.2.1, 6, .inl (nF ne))), (sb, .inl (G.2.1, 6, .inl (nF sp))), (t, .inr (3, [.ref a, .ref b, .ref kn, .long (lN sn), .int (nI ta)])), (kn, .inl (G.2.2, 4096, .inr (.inl T))), (q, .inr (2, [.ref fa, .ref fp, .int (nI dd), .int (nI pp), .int (nI st), .int (nI ts)])), (fa, .inl (G.2.1, 640, .inl fx)), (fp, .inl (G.2.1, 25, .inl (nF g))), (q1, .inr (2, [.ref fa1, .ref fp1, .int (nI dd1), .int (nI pp1), .int (nI st1), .int (nI ts1)])), (fa1, .inl (G.2.1, 640, .inl fx1)), (fp1, .inl (G.2.1, 25, .inl (nF g1))), (oj, .inl (G.2.2, 1, .inr (.inl fo))), (z, .inr (5, [.int (nI th), .int (nI n), .ref zk, .int (nI rc), .ref zn, .ref zs, .int (nI tam), .ref zw, .int (nI stm), .ref zf, .int (bI kp), .int (nI dd), .int (nI kq), .int (nI ts), .int (nI st), .ref zg, .int (nI al)])), (zk, .inl (G.2.1, 24, .inl (nF k))), (zn, .inl (G.2.1, 6, .inl (nF ne))), (zs, .inl (G.2.1, 6, .inl (nF sp))), (zw, .inl (G.2.1, 4096, .inl (nF kw))), (zf, .inl (G.2.1, 2560, .inl fxm)), (zg, .inl (G.2.1, 2560, .inl gx))] → va_S A s.heap H locs → lv_has ls 9 [(0, .ref sc), (1, .ref x), (2, .ref z), (3, .ref oj), (4, .int (nI (4 * it)))] → W p l e room_1 s m #[Value.ref sc] below meth c H locs (22 + it) (14761 + 6 * it) Q (F0 m 23 ls []) := by
  intro N
  induction N with
  | zero => intro it h; exact absurd h (Nat.not_lt_zero _)
  | succ N ih =>
    intro it hN hit n rc sn ta dd pp st ts dd1 pp1 st1 ts1 kq al th tam stm kp k ne sp g g1 kw T fo fx fx1 fxm gx F H locs ls hinv hP hD hS hl
    refine lv_iload hx hb dL_law_23 (lv_at hl 4 rfl) ?_
    refine lv_aload_n hx hb dL_law_25 rfl (lv_at hl 0 rfl) ?_
    refine va_slen hx hb hX hsc hscA hS dL_law_26 ?_
    refine cs_i (y := nI L) rfl ?_
    refine lv_iconst (v := nI 4) hx hb dL_law_27 (by decide +kernel) ?_
    refine lv_isub hx hb dL_law_28 ?_
    refine lv_icmp_gt (tgt := 1072) hx hb dL_law_29 (by decide) (fun c_29 => ?_) (fun c_29 => ?_)
    · exact hend H locs ls _ _ (by omega) (by omega) hS
    have hi : 4 * it + 4 ≤ L := by
      rw [fa_lt, pk_sub_toInt (by omega) (by omega), nI_toInt (by omega)] at c_29; omega
    have hbk : lwBack p l e s m below meth c A Q G x a ka b nb sb t kn q fa fp q1 fa1 fp1 oj z zk zn zs zw zf zg sc it := by
      intro n' rc' sn' ta' dd' pp' st' ts' dd1' pp1' st1' ts1' kq' al' th' tam' stm' kp' k' ne' sp' g' g1' kw' T' fo' fx' fx1' fxm' gx' F' H' locs' ls' hinv' hP' hD' hS' hl'
      have e4 : nI (4 * it) + Int32.ofInt 4 = nI (4 * (it + 1)) := by rw [Nat.mul_succ]; exact nI_add (4 * it) 4
      refine lv_iinc (v := nI (4 * (it + 1))) (lv' := [(4, .int (nI (4 * (it + 1)))), (0, .ref sc), (1, .ref x), (2, .ref z), (3, .ref oj)]) hx hb dL_law_1066 hl' (k := 4) rfl e4 (by decide) rfl (fun ls9 hl9' => ?_)
      refine lv_goto (tgt := 23) hx hb dL_law_1069 (by decide) ?_
      by_cases h9 : it + 1 ≤ 512
      · exact ih (it + 1) (by omega) h9 n' rc' sn' ta' dd' pp' st' ts' dd1' pp1' st1' ts1' kq' al' th' tam' stm' kp' k' ne' sp' g' g1' kw' T' fo' fx' fx1' fxm' gx' F' _ _ _ hinv' hP' hD' hS' (lv_sub hl9' [1, 2, 3, 4, 0] rfl)
      · exfalso; exact h9 (by omega)
    refine lv_aload_n hx hb dL_law_32 rfl (lv_at hl 0 rfl) ?_
    refine lv_iload hx hb dL_law_33 (lv_at hl 4 rfl) ?_
    refine va_sld hx hb hX hsc hscA hS (vp_in_nI (by omega) (by omega)) dL_law_35 ?_
    refine lv_bipush (v := nI 31) hx hb dL_law_36 (by decide +kernel) ?_
    refine lv_iand hx hb dL_law_38 ?_
    obtain ⟨w, hw, ew⟩ := pk_andE (xs (nI (4 * it)).toNatClampNeg) (m := nI 31) 5 (by decide +kernel)
    refine cs_i ew ?_
    by_cases cw_0 : w = 0
    · subst cw_0
      refine lv_tableIn (off := 85) (tgt := 124) hx hb dL_law_39 (by decide +kernel) (by decide +kernel) (by decide +kernel) (by decide +kernel) ?_
      exact law_c0 hl9 sa x a ka b nb sb t kn q fa fp q1 fa1 fp1 oj z zk zn zs zw zf zg sc it L xs n rc sn ta dd pp st ts dd1 pp1 st1 ts1 kq al th tam stm kp k ne sp g g1 kw T fo fx fx1 fxm gx F hx hb hml hts hown hA hK hZ hNc hX hsc hscA hi hL hinv hbk hP hD hS hl
    by_cases cw_1 : w = 1
    · subst cw_1
      refine lv_tableIn (off := 141) (tgt := 180) hx hb dL_law_39 (by decide +kernel) (by decide +kernel) (by decide +kernel) (by decide +kernel) ?_
      exact law_c1 hl9 sa x a ka b nb sb t kn q fa fp q1 fa1 fp1 oj z zk zn zs zw zf zg sc it L xs n rc sn ta dd pp st ts dd1 pp1 st1 ts1 kq al th tam stm kp k ne sp g g1 kw T fo fx fx1 fxm gx F hx hb hml hts hown hA hK hZ hNc hX hsc hscA hi hL hinv hbk hP hD hS hl
    by_cases cw_2 : w = 2
    · subst cw_2
      refine lv_tableIn (off := 197) (tgt := 236) hx hb dL_law_39 (by decide +kernel) (by decide +kernel) (by decide +kernel) (by decide +kernel) ?_
      exact law_c2 hl9 sa x a ka b nb sb t kn q fa fp q1 fa1 fp1 oj z zk zn zs zw zf zg sc it L xs n rc sn ta dd pp st ts dd1 pp1 st1 ts1 kq al th tam stm kp k ne sp g g1 kw T fo fx fx1 fxm gx F hx hb hml hts hown hA hK hZ hNc hX hsc hscA hi hL hinv hbk hP hD hS hl
    by_cases cw_3 : w = 3
    · subst cw_3
      refine lv_tableIn (off := 253) (tgt := 292) hx hb dL_law_39 (by decide +kernel) (by decide +kernel) (by decide +kernel) (by decide +kernel) ?_
      exact law_c3 hl9 sa x a ka b nb sb t kn q fa fp q1 fa1 fp1 oj z zk zn zs zw zf zg sc it L xs n rc sn ta dd pp st ts dd1 pp1 st1 ts1 kq al th tam stm kp k ne sp g g1 kw T fo fx fx1 fxm gx F hx hb hml hts hown hA hK hZ hNc hX hsc hscA hi hL hinv hbk hP hD hS hl
    by_cases cw_4 : w = 4
    · subst cw_4
      refine lv_tableIn (off := 297) (tgt := 336) hx hb dL_law_39 (by decide +kernel) (by decide +kernel) (by decide +kernel) (by decide +kernel) ?_
      exact law_c4 hl9 sa x a ka b nb sb t kn q fa fp q1 fa1 fp1 oj z zk zn zs zw zf zg sc it L xs n rc sn ta dd pp st ts dd1 pp1 st1 ts1 kq al th tam stm kp k ne sp g g1 kw T fo fx fx1 fxm gx F hx hb hml hts hown hA hK hZ hNc hX hsc hscA hi hL hinv hbk hP hD hS hl
    by_cases cw_5 : w = 5
    · subst cw_5
      refine lv_tableIn (off := 400) (tgt := 439) hx hb dL_law_39 (by decide +kernel) (by decide +kernel) (by decide +kernel) (by decide +kernel) ?_
      exact law_c5 hl9 sa x a ka b nb sb t kn q fa fp q1 fa1 fp1 oj z zk zn zs zw zf zg sc it L xs n rc sn ta dd pp st ts dd1 pp1 st1 ts1 kq al th tam stm kp k ne sp g g1 kw T fo fx fx1 fxm gx F hx hb hml hts hown hA hK hZ hNc hX hsc hscA hi hL hinv hbk hP hD hS hl
    by_cases cw_6 : w = 6
    · subst cw_6
      refine lv_tableIn (off := 503) (tgt := 542) hx hb dL_law_39 (by decide +kernel) (by decide +kernel) (by decide +kernel) (by decide +kernel) ?_
      exact law_c6 hl9 sa x a ka b nb sb t kn q fa fp q1 fa1 fp1 oj z zk zn zs zw zf zg sc it L xs n rc sn ta dd pp st ts dd1 pp1 st1 ts1 kq al th tam stm kp k ne sp g g1 kw T fo fx fx1 fxm gx F hx hb hml hts hown hA hK hZ hNc hX hsc hscA hi hL hinv hbk hP hD hS hl
    by_cases cw_7 : w = 7
    · subst cw_7
      refine lv_tableIn (off := 571) (tgt := 610) hx hb dL_law_39 (by decide +kernel) (by decide +kernel) (by decide +kernel) (by decide +kernel) ?_
      exact law_c7 hl9 sa x a ka b nb sb t kn q fa fp q1 fa1 fp1 oj z zk zn zs zw zf zg sc it L xs n rc sn ta dd pp st ts dd1 pp1 st1 ts1 kq al th tam stm kp k ne sp g g1 kw T fo fx fx1 fxm gx F hx hb hml hts hown hA hK hZ hNc hX hsc hscA hi hL hinv hbk hP hD hS hl
    by_cases cw_8 : w = 8
    · subst cw_8
      refine lv_tableIn (off := 634) (tgt := 673) hx hb dL_law_39 (by decide +kernel) (by decide +kernel) (by decide +kernel) (by decide +kernel) ?_
      exact law_c8 hl9 sa x a ka b nb sb t kn q fa fp q1 fa1 fp1 oj z zk zn zs zw zf zg sc it L xs n rc sn ta dd pp st ts dd1 pp1 st1 ts1 kq al th tam stm kp k ne sp g g1 kw T fo fx fx1 fxm gx F hx hb hml hts hown hA hK hZ hNc hX hsc hscA hi hL hinv hbk hP hD hS hl
    by_cases cw_9 : w = 9
    · subst cw_9
      refine lv_tableIn (off := 647) (tgt := 686) hx hb dL_law_39 (by decide +kernel) (by decide +kernel) (by decide +kernel) (by decide +kernel) ?_
      exact law_c9 hl9 sa x a ka b nb sb t kn q fa fp q1 fa1 fp1 oj z zk zn zs zw zf zg sc it L xs n rc sn ta dd pp st ts dd1 pp1 st1 ts1 kq al th tam stm kp k ne sp g g1 kw T fo fx fx1 fxm gx F hx hb hml hts hown hA hK hZ hNc hX hsc hscA hi hL hinv hbk hP hD hS hl
    by_cases cw_10 : w = 10
    · subst cw_10
      refine lv_tableIn (off := 703) (tgt := 742) hx hb dL_law_39 (by decide +kernel) (by decide +kernel) (by decide +kernel) (by decide +kernel) ?_
      exact law_c10 hl9 sa x a ka b nb sb t kn q fa fp q1 fa1 fp1 oj z zk zn zs zw zf zg sc it L xs n rc sn ta dd pp st ts dd1 pp1 st1 ts1 kq al th tam stm kp k ne sp g g1 kw T fo fx fx1 fxm gx F hx hb hml hts hown hA hK hZ hNc hX hsc hscA hi hL hinv hbk hP hD hS hl
    by_cases cw_11 : w = 11
    · subst cw_11
      refine lv_tableIn (off := 771) (tgt := 810) hx hb dL_law_39 (by decide +kernel) (by decide +kernel) (by decide +kernel) (by decide +kernel) ?_
      exact law_c11 hl9 sa x a ka b nb sb t kn q fa fp q1 fa1 fp1 oj z zk zn zs zw zf zg sc it L xs n rc sn ta dd pp st ts dd1 pp1 st1 ts1 kq al th tam stm kp k ne sp g g1 kw T fo fx fx1 fxm gx F hx hb hml hts hown hA hK hZ hNc hX hsc hscA hi hL hinv hbk hP hD hS hl
    by_cases cw_12 : w = 12
    · subst cw_12
      refine lv_tableIn (off := 827) (tgt := 866) hx hb dL_law_39 (by decide +kernel) (by decide +kernel) (by decide +kernel) (by decide +kernel) ?_
      exact law_c12 hl9 sa x a ka b nb sb t kn q fa fp q1 fa1 fp1 oj z zk zn zs zw zf zg sc it L xs n rc sn ta dd pp st ts dd1 pp1 st1 ts1 kq al th tam stm kp k ne sp g g1 kw T fo fx fx1 fxm gx F hx hb hml hts hown hA hK hZ hNc hX hsc hscA hi hL hinv hbk hP hD hS hl
    by_cases cw_13 : w = 13
    · subst cw_13
      refine lv_tableIn (off := 883) (tgt := 922) hx hb dL_law_39 (by decide +kernel) (by decide +kernel) (by decide +kernel) (by decide +kernel) ?_
      exact law_c13 hl9 sa x a ka b nb sb t kn q fa fp q1 fa1 fp1 oj z zk zn zs zw zf zg sc it L xs n rc sn ta dd pp st ts dd1 pp1 st1 ts1 kq al th tam stm kp k ne sp g g1 kw T fo fx fx1 fxm gx F hx hb hml hts hown hA hK hZ hNc hX hsc hscA hi hL hinv hbk hP hD hS hl
    by_cases cw_14 : w = 14
    · subst cw_14
      refine lv_tableIn (off := 896) (tgt := 935) hx hb dL_law_39 (by decide +kernel) (by decide +kernel) (by decide +kernel) (by decide +kernel) ?_
      exact law_c14 hl9 sa x a ka b nb sb t kn q fa fp q1 fa1 fp1 oj z zk zn zs zw zf zg sc it L xs n rc sn ta dd pp st ts dd1 pp1 st1 ts1 kq al th tam stm kp k ne sp g g1 kw T fo fx fx1 fxm gx F hx hb hml hts hown hA hK hZ hNc hX hsc hscA hi hL hinv hbk hP hD hS hl
    by_cases cw_15 : w = 15
    · subst cw_15
      refine lv_tableIn (off := 959) (tgt := 998) hx hb dL_law_39 (by decide +kernel) (by decide +kernel) (by decide +kernel) (by decide +kernel) ?_
      exact law_c15 hl9 sa x a ka b nb sb t kn q fa fp q1 fa1 fp1 oj z zk zn zs zw zf zg sc it L xs n rc sn ta dd pp st ts dd1 pp1 st1 ts1 kq al th tam stm kp k ne sp g g1 kw T fo fx fx1 fxm gx F hx hb hml hts hown hA hK hZ hNc hX hsc hscA hi hL hinv hbk hP hD hS hl
    by_cases cw_16 : w = 16
    · subst cw_16
      refine lv_tableIn (off := 972) (tgt := 1011) hx hb dL_law_39 (by decide +kernel) (by decide +kernel) (by decide +kernel) (by decide +kernel) ?_
      exact law_c16 hl9 sa x a ka b nb sb t kn q fa fp q1 fa1 fp1 oj z zk zn zs zw zf zg sc it L xs n rc sn ta dd pp st ts dd1 pp1 st1 ts1 kq al th tam stm kp k ne sp g g1 kw T fo fx fx1 fxm gx F hx hb hml hts hown hA hK hZ hNc hX hsc hscA hi hL hinv hbk hP hD hS hl
    by_cases cw_17 : w = 17
    · subst cw_17
      refine lv_tableIn (off := 1013) (tgt := 1052) hx hb dL_law_39 (by decide +kernel) (by decide +kernel) (by decide +kernel) (by decide +kernel) ?_
      exact law_c17 hl9 sa x a ka b nb sb t kn q fa fp q1 fa1 fp1 oj z zk zn zs zw zf zg sc it L xs n rc sn ta dd pp st ts dd1 pp1 st1 ts1 kq al th tam stm kp k ne sp g g1 kw T fo fx fx1 fxm gx F hx hb hml hts hown hA hK hZ hNc hX hsc hscA hi hL hinv hbk hP hD hS hl
    refine lv_tableOut (tgt := 1066) hx hb dL_law_39 (Or.inr (by rw [nI_toInt (by omega)]; omega)) (by decide +kernel) ?_
    refine W.widen (k := 22 + (it + 1)) (n := 14761 + 6 * (it + 1)) (by omega) (by omega) ?_
    exact hbk n rc sn ta dd pp st ts dd1 pp1 st1 ts1 kq al th tam stm kp k ne sp g g1 kw T fo fx fx1 fxm gx F H locs ls (lwInv_same hinv) hP hD hS hl
