set_option maxRecDepth 100000 in
theorem in5_X5_thrown : ∀ w ∈ wsX50, w ∈ wsX5_thrown := by decide +kernel
set_option maxHeartbeats 4000000 in
set_option maxRecDepth 100000 in
theorem c_X5_thrown (l : Launch) (G : cG) (z zk zn zs zw zf zg th n rc ta st : Nat) (kp : Bool) (kd kq kt ks al : Nat) : cMI l G yX5_thrown wsX5_thrown ({ frames := 0, cells := 0, slots := 0, locals := 0 }) [.ref z] [(z, .inr (5, [.int (nI th), .int (nI n), .ref zk, .int (nI rc), .ref zn, .ref zs, .int (nI ta), .ref zw, .int (nI st), .ref zf, .int (bI kp), .int (nI kd), .int (nI kq), .int (nI kt), .int (nI ks), .ref zg, .int (nI al)]))] (fun (r_ : Int32) (_ : Unit) => r_ = nI th) (fun (_ : Unit) => [(z, .inr (5, [.int (nI th), .int (nI n), .ref zk, .int (nI rc), .ref zn, .ref zs, .int (nI ta), .ref zw, .int (nI st), .ref zf, .int (bI kp), .int (nI kd), .int (nI kq), .int (nI kt), .int (nI ks), .ref zg, .int (nI al)]))]) := by
  refine cs_sI (own := RX5) (cc := cX5_thrown) (maxL := 1) (ret := (some .int)) (by decide) rfl rfl (Nat.le_of_ble_eq_true rfl) ?_
  intro p e s m below meth c A hx hb hr hml hts hown hlocks hinit hA hK hP hD hS ls hl
  have hin5 := in5_X5_thrown
  have hl : lv_has ls 1 [(0, .ref z)] := hl
  refine lv_aload_n hx hb dX5_thrown_0 rfl (lv_at hl 0 rfl) ?_
  refine va_get (D := G.1) (ci := 5) (v := .int (nI th)) (C := RX5) (T := TX5) (N := 17) hx hb hts hin5 hown hK hP 0 rfl rfl 0 (by decide) (hts (.fieldLink RX5 28 "FaultShrinkerModel" "thrown" "I") (List.mem_of_getElem? (i := 1) rfl)) (fun _ h9 => h9) rfl dX5_thrown_1 ?_
  exact cs_iret hx hb hr hlocks hK hP hD hS (v := nI th) () (by first | rfl | assumption) rfl dX5_thrown_4

set_option maxRecDepth 100000 in
theorem in5_X5_no : ∀ w ∈ wsX50, w ∈ wsX5_no := by decide +kernel
set_option maxHeartbeats 4000000 in
set_option maxRecDepth 100000 in
theorem c_X5_no (l : Launch) (G : cG) (z zk zn zs zw zf zg th n rc ta st : Nat) (kp : Bool) (kd kq kt ks al : Nat) (v : Nat) : cMI l G yX5_no wsX5_no ({ frames := 0, cells := 0, slots := 0, locals := 0 }) [.ref z, .int (nI v)] [(z, .inr (5, [.int (nI th), .int (nI n), .ref zk, .int (nI rc), .ref zn, .ref zs, .int (nI ta), .ref zw, .int (nI st), .ref zf, .int (bI kp), .int (nI kd), .int (nI kq), .int (nI kt), .int (nI ks), .ref zg, .int (nI al)]))] (fun (r_ : Int32) (_ : Unit) => r_ = nI 0) (fun (_ : Unit) => [(z, .inr (5, [.int (nI v), .int (nI n), .ref zk, .int (nI rc), .ref zn, .ref zs, .int (nI ta), .ref zw, .int (nI st), .ref zf, .int (bI kp), .int (nI kd), .int (nI kq), .int (nI kt), .int (nI ks), .ref zg, .int (nI al)]))]) := by
  refine cs_sI (own := RX5) (cc := cX5_no) (maxL := 2) (ret := (some .int)) (by decide) rfl rfl (Nat.le_of_ble_eq_true rfl) ?_
  intro p e s m below meth c A hx hb hr hml hts hown hlocks hinit hA hK hP hD hS ls hl
  have hin5 := in5_X5_no
  have hl : lv_has ls 2 [(0, .ref z), (1, .int (nI v))] := hl
  refine lv_aload_n hx hb dX5_no_0 rfl (lv_at hl 0 rfl) ?_
  refine lv_iload_n hx hb dX5_no_1 rfl (lv_at hl 1 rfl) ?_
  refine va_put (D := G.1) (ci := 5) (v := .int (nI v)) (ty := .int) (C := RX5) (T := TX5) (N := 17) hx hb hts hin5 tyX5 tyX5_ok nmX5 hown hK hP hD hS 0 rfl rfl 0 (by decide) (hts (.fieldLink RX5 28 "FaultShrinkerModel" "thrown" "I") (List.mem_of_getElem? (i := 1) rfl)) (fun _ h9 => h9) rfl (by decide +kernel) rfl rfl (Nat.le_of_ble_eq_true rfl) dX5_no_2 (fun H locs hP hD hS => ?_)
  have hP : va_P G.1 vwCl [(z, .inr (5, [.int (nI v), .int (nI n), .ref zk, .int (nI rc), .ref zn, .ref zs, .int (nI ta), .ref zw, .int (nI st), .ref zf, .int (bI kp), .int (nI kd), .int (nI kq), .int (nI kt), .int (nI ks), .ref zg, .int (nI al)]))] H := hP
  have hD : va_D A [(z, .inr (5, [.int (nI v), .int (nI n), .ref zk, .int (nI rc), .ref zn, .ref zs, .int (nI ta), .ref zw, .int (nI st), .ref zf, .int (bI kp), .int (nI kd), .int (nI kq), .int (nI kt), .int (nI ks), .ref zg, .int (nI al)]))] := hD
  refine lv_iconst (v := nI 0) hx hb dX5_no_5 (by decide +kernel) ?_
  exact cs_iret hx hb hr hlocks hK hP hD hS (v := nI 0) () (by first | rfl | assumption) rfl dX5_no_6

set_option maxHeartbeats 4000000 in
set_option maxRecDepth 100000 in
theorem c_X5_isIn (l : Launch) (G : cG) (v lo hi : Int32) : cMI l G yX5_isIn wsX5_isIn ({ frames := 0, cells := 0, slots := 0, locals := 0 }) [.int v, .int lo, .int hi] [] (fun (r_ : Int32) (_ : Unit) => r_ = bI (inI v lo hi)) (fun (_ : Unit) => []) := by
  refine cs_sI (own := RX5) (cc := cX5_isIn) (maxL := 3) (ret := (some .boolean)) (by decide) rfl rfl (Nat.le_of_ble_eq_true rfl) ?_
  intro p e s m below meth c A hx hb hr hml hts hown hlocks hinit hA hK hP hD hS ls hl
  have hl : lv_has ls 3 [(0, .int v), (1, .int lo), (2, .int hi)] := hl
  refine lv_iload_n hx hb dX5_isIn_0 rfl (lv_at hl 0 rfl) ?_
  refine lv_iload_n hx hb dX5_isIn_1 rfl (lv_at hl 1 rfl) ?_
  refine lv_icmp_lt (tgt := 14) hx hb dX5_isIn_2 (by decide) (fun c_2 => ?_) (fun c_2 => ?_)
  · refine lv_iconst (v := nI 0) hx hb dX5_isIn_14 (by decide +kernel) ?_
    exact cs_zret hx hb hr hlocks hK hP hD hS (v := nI 0) (rfl) () (by first | (rw [inI_t c_2 c_7]; rfl) | (rw [inI_f1 c_2]; rfl) | (rw [inI_f2 c_7]; rfl)) rfl dX5_isIn_15
  · refine lv_iload_n hx hb dX5_isIn_5 rfl (lv_at hl 0 rfl) ?_
    refine lv_iload_n hx hb dX5_isIn_6 rfl (lv_at hl 2 rfl) ?_
    refine lv_icmp_gt (tgt := 14) hx hb dX5_isIn_7 (by decide) (fun c_7 => ?_) (fun c_7 => ?_)
    · refine lv_iconst (v := nI 0) hx hb dX5_isIn_14 (by decide +kernel) ?_
      exact cs_zret hx hb hr hlocks hK hP hD hS (v := nI 0) (rfl) () (by first | (rw [inI_t c_2 c_7]; rfl) | (rw [inI_f1 c_2]; rfl) | (rw [inI_f2 c_7]; rfl)) rfl dX5_isIn_15
    · refine lv_iconst (v := nI 1) hx hb dX5_isIn_10 (by decide +kernel) ?_
      refine lv_goto (tgt := 15) hx hb dX5_isIn_11 (by decide) ?_
      exact cs_zret hx hb hr hlocks hK hP hD hS (v := nI 1) (rfl) () (by first | (rw [inI_t c_2 c_7]; rfl) | (rw [inI_f1 c_2]; rfl) | (rw [inI_f2 c_7]; rfl)) rfl dX5_isIn_15

set_option maxRecDepth 100000 in
theorem in5_X5_isRule : ∀ w ∈ wsX50, w ∈ wsX5_isRule := by decide +kernel
set_option maxHeartbeats 4000000 in
set_option maxRecDepth 100000 in
theorem c_X5_isRule (l : Launch) (G : cG) (z zk zn zs zw zf zg th n rc ta st : Nat) (kp : Bool) (kd kq kt ks al : Nat) (hn : n ≤ 24) (hrc : rc ≤ 6) (x : Int32) : cMI l G yX5_isRule wsX5_isRule ({ frames := 1, cells := 0, slots := 0, locals := 22 }) [.ref z, .int x] [(z, .inr (5, [.int (nI th), .int (nI n), .ref zk, .int (nI rc), .ref zn, .ref zs, .int (nI ta), .ref zw, .int (nI st), .ref zf, .int (bI kp), .int (nI kd), .int (nI kq), .int (nI kt), .int (nI ks), .ref zg, .int (nI al)]))] (fun (r_ : Int32) (_ : Unit) => r_ = bI (hp x rc)) (fun (_ : Unit) => [(z, .inr (5, [.int (nI th), .int (nI n), .ref zk, .int (nI rc), .ref zn, .ref zs, .int (nI ta), .ref zw, .int (nI st), .ref zf, .int (bI kp), .int (nI kd), .int (nI kq), .int (nI kt), .int (nI ks), .ref zg, .int (nI al)]))]) := by
  refine cs_sI (own := RX5) (cc := cX5_isRule) (maxL := 2) (ret := (some .boolean)) (by decide) rfl rfl (Nat.le_of_ble_eq_true rfl) ?_
  intro p e s m below meth c A hx hb hr hml hts hown hlocks hinit hA hK hP hD hS ls hl
  have hin5 := in5_X5_isRule
  have hl : lv_has ls 2 [(0, .ref z), (1, .int x)] := hl
  refine lv_iload_n hx hb dX5_isRule_0 rfl (lv_at hl 1 rfl) ?_
  refine lv_iconst (v := nI 0) hx hb dX5_isRule_1 (by decide +kernel) ?_
  refine lv_aload_n hx hb dX5_isRule_2 rfl (lv_at hl 0 rfl) ?_
  refine va_get (D := G.1) (ci := 5) (v := .int (nI rc)) (C := RX5) (T := TX5) (N := 17) hx hb hts hin5 hown hK hP 0 rfl rfl 3 (by decide) (hts (.fieldLink RX5 32 "FaultShrinkerModel" "rules" "I") (List.mem_of_getElem? (i := 1) rfl)) (fun _ h9 => h9) rfl dX5_isRule_3 ?_
  refine lv_iconst (v := nI 1) hx hb dX5_isRule_6 (by decide +kernel) ?_
  refine lv_isub hx hb dX5_isRule_7 ?_
  refine cs_i (y := nI rc - nI 1) (rfl) ?_
  refine cs_si (As := [.int x, .int (nI 0), .int (nI rc - nI 1)]) (rest := []) (wr := [(z, .inr (5, [.int (nI th), .int (nI n), .ref zk, .int (nI rc), .ref zn, .ref zs, .int (nI ta), .ref zw, .int (nI st), .ref zf, .int (bI kp), .int (nI kd), .int (nI kq), .int (nI kt), .int (nI ks), .ref zg, .int (nI al)]))]) ⟨hx, hb, hml, hown, hts⟩ hK hP hD hS hA (c_X5_isIn l G x (nI 0) (nI rc - nI 1)) (va_cwS 3 hts gX5_isRule_X5_isIn rfl rfl rfl (by decide +kernel) ⟨Nat.le_of_ble_eq_true rfl, Nat.le_of_ble_eq_true rfl⟩) [] [0] ⟨rfl, rfl, by decide, by decide, by decide⟩ rfl hl.1 rfl (Nat.le_of_ble_eq_true rfl) ⟨Nat.le_of_ble_eq_true rfl, Nat.le_of_ble_eq_true rfl⟩ dX5_isRule_8 (fun r u H locs hw hP hD hS => ?_)
  have hP : va_P G.1 vwCl [(z, .inr (5, [.int (nI th), .int (nI n), .ref zk, .int (nI rc), .ref zn, .ref zs, .int (nI ta), .ref zw, .int (nI st), .ref zf, .int (bI kp), .int (nI kd), .int (nI kq), .int (nI kt), .int (nI ks), .ref zg, .int (nI al)]))] H := hP.sub [0] rfl
  have hD : va_D A [(z, .inr (5, [.int (nI th), .int (nI n), .ref zk, .int (nI rc), .ref zn, .ref zs, .int (nI ta), .ref zw, .int (nI st), .ref zf, .int (bI kp), .int (nI kd), .int (nI kq), .int (nI kt), .int (nI ks), .ref zg, .int (nI al)]))] := hD.sub [0] (by decide) rfl
  subst hw
  refine cs_i (y := bI (hp x rc)) (congrArg bI (inI_hp x (by omega))) ?_
  exact cs_zret hx hb hr hlocks hK hP hD hS (v := bI (hp x rc)) (bI_nar _) () (by first | rfl | assumption) rfl dX5_isRule_11

set_option maxRecDepth 100000 in
theorem in5_X5_isPlace : ∀ w ∈ wsX50, w ∈ wsX5_isPlace := by decide +kernel
set_option maxHeartbeats 4000000 in
set_option maxRecDepth 100000 in
theorem c_X5_isPlace (l : Launch) (G : cG) (z zk zn zs zw zf zg th n rc ta st : Nat) (kp : Bool) (kd kq kt ks al : Nat) (hn : n ≤ 24) (hrc : rc ≤ 6) (x : Int32) : cMI l G yX5_isPlace wsX5_isPlace ({ frames := 1, cells := 0, slots := 0, locals := 22 }) [.ref z, .int x] [(z, .inr (5, [.int (nI th), .int (nI n), .ref zk, .int (nI rc), .ref zn, .ref zs, .int (nI ta), .ref zw, .int (nI st), .ref zf, .int (bI kp), .int (nI kd), .int (nI kq), .int (nI kt), .int (nI ks), .ref zg, .int (nI al)]))] (fun (r_ : Int32) (_ : Unit) => r_ = bI (hp x n)) (fun (_ : Unit) => [(z, .inr (5, [.int (nI th), .int (nI n), .ref zk, .int (nI rc), .ref zn, .ref zs, .int (nI ta), .ref zw, .int (nI st), .ref zf, .int (bI kp), .int (nI kd), .int (nI kq), .int (nI kt), .int (nI ks), .ref zg, .int (nI al)]))]) := by
  refine cs_sI (own := RX5) (cc := cX5_isPlace) (maxL := 2) (ret := (some .boolean)) (by decide) rfl rfl (Nat.le_of_ble_eq_true rfl) ?_
  intro p e s m below meth c A hx hb hr hml hts hown hlocks hinit hA hK hP hD hS ls hl
  have hin5 := in5_X5_isPlace
  have hl : lv_has ls 2 [(0, .ref z), (1, .int x)] := hl
  refine lv_iload_n hx hb dX5_isPlace_0 rfl (lv_at hl 1 rfl) ?_
  refine lv_iconst (v := nI 0) hx hb dX5_isPlace_1 (by decide +kernel) ?_
  refine lv_aload_n hx hb dX5_isPlace_2 rfl (lv_at hl 0 rfl) ?_
  refine va_get (D := G.1) (ci := 5) (v := .int (nI n)) (C := RX5) (T := TX5) (N := 17) hx hb hts hin5 hown hK hP 0 rfl rfl 1 (by decide) (hts (.fieldLink RX5 39 "FaultShrinkerModel" "size" "I") (List.mem_of_getElem? (i := 1) rfl)) (fun _ h9 => h9) rfl dX5_isPlace_3 ?_
  refine lv_iconst (v := nI 1) hx hb dX5_isPlace_6 (by decide +kernel) ?_
  refine lv_isub hx hb dX5_isPlace_7 ?_
  refine cs_i (y := nI n - nI 1) (rfl) ?_
  refine cs_si (As := [.int x, .int (nI 0), .int (nI n - nI 1)]) (rest := []) (wr := [(z, .inr (5, [.int (nI th), .int (nI n), .ref zk, .int (nI rc), .ref zn, .ref zs, .int (nI ta), .ref zw, .int (nI st), .ref zf, .int (bI kp), .int (nI kd), .int (nI kq), .int (nI kt), .int (nI ks), .ref zg, .int (nI al)]))]) ⟨hx, hb, hml, hown, hts⟩ hK hP hD hS hA (c_X5_isIn l G x (nI 0) (nI n - nI 1)) (va_cwS 3 hts gX5_isPlace_X5_isIn rfl rfl rfl (by decide +kernel) ⟨Nat.le_of_ble_eq_true rfl, Nat.le_of_ble_eq_true rfl⟩) [] [0] ⟨rfl, rfl, by decide, by decide, by decide⟩ rfl hl.1 rfl (Nat.le_of_ble_eq_true rfl) ⟨Nat.le_of_ble_eq_true rfl, Nat.le_of_ble_eq_true rfl⟩ dX5_isPlace_8 (fun r u H locs hw hP hD hS => ?_)
  have hP : va_P G.1 vwCl [(z, .inr (5, [.int (nI th), .int (nI n), .ref zk, .int (nI rc), .ref zn, .ref zs, .int (nI ta), .ref zw, .int (nI st), .ref zf, .int (bI kp), .int (nI kd), .int (nI kq), .int (nI kt), .int (nI ks), .ref zg, .int (nI al)]))] H := hP.sub [0] rfl
  have hD : va_D A [(z, .inr (5, [.int (nI th), .int (nI n), .ref zk, .int (nI rc), .ref zn, .ref zs, .int (nI ta), .ref zw, .int (nI st), .ref zf, .int (bI kp), .int (nI kd), .int (nI kq), .int (nI kt), .int (nI ks), .ref zg, .int (nI al)]))] := hD.sub [0] (by decide) rfl
  subst hw
  refine cs_i (y := bI (hp x n)) (congrArg bI (inI_hp x (by omega))) ?_
  exact cs_zret hx hb hr hlocks hK hP hD hS (v := bI (hp x n)) (bI_nar _) () (by first | rfl | assumption) rfl dX5_isPlace_11

set_option maxRecDepth 100000 in
theorem in5_X5_whole : ∀ w ∈ wsX50, w ∈ wsX5_whole := by decide +kernel
set_option maxHeartbeats 4000000 in
set_option maxRecDepth 100000 in
theorem c_X5_whole (l : Launch) (G : cG) (z zk zn zs zw zf zg th n rc ta st : Nat) (kp : Bool) (kd kq kt ks al : Nat) (hn : n ≤ 24) (hrc : rc ≤ 6) : cMI l G yX5_whole wsX5_whole ({ frames := 0, cells := 0, slots := 0, locals := 0 }) [.ref z] [(z, .inr (5, [.int (nI th), .int (nI n), .ref zk, .int (nI rc), .ref zn, .ref zs, .int (nI ta), .ref zw, .int (nI st), .ref zf, .int (bI kp), .int (nI kd), .int (nI kq), .int (nI kt), .int (nI ks), .ref zg, .int (nI al)]))] (fun (r_ : Int32) (_ : Unit) => r_ = nI (2 ^ n - 1)) (fun (_ : Unit) => [(z, .inr (5, [.int (nI th), .int (nI n), .ref zk, .int (nI rc), .ref zn, .ref zs, .int (nI ta), .ref zw, .int (nI st), .ref zf, .int (bI kp), .int (nI kd), .int (nI kq), .int (nI kt), .int (nI ks), .ref zg, .int (nI al)]))]) := by
  refine cs_sI (own := RX5) (cc := cX5_whole) (maxL := 1) (ret := (some .int)) (by decide) rfl rfl (Nat.le_of_ble_eq_true rfl) ?_
  intro p e s m below meth c A hx hb hr hml hts hown hlocks hinit hA hK hP hD hS ls hl
  have hin5 := in5_X5_whole
  have hl : lv_has ls 1 [(0, .ref z)] := hl
  refine lv_iconst (v := nI 1) hx hb dX5_whole_0 (by decide +kernel) ?_
  refine lv_aload_n hx hb dX5_whole_1 rfl (lv_at hl 0 rfl) ?_
  refine va_get (D := G.1) (ci := 5) (v := .int (nI n)) (C := RX5) (T := TX5) (N := 17) hx hb hts hin5 hown hK hP 0 rfl rfl 1 (by decide) (hts (.fieldLink RX5 39 "FaultShrinkerModel" "size" "I") (List.mem_of_getElem? (i := 1) rfl)) (fun _ h9 => h9) rfl dX5_whole_2 ?_
  refine lv_ishl hx hb dX5_whole_5 ?_
  refine cs_i (y := nI (2 ^ n)) (nI_one_shl (by omega)) ?_
  refine lv_iconst (v := nI 1) hx hb dX5_whole_6 (by decide +kernel) ?_
  refine lv_isub hx hb dX5_whole_7 ?_
  refine cs_i (y := nI (2 ^ n - 1)) (pk_sub (Nat.one_le_two_pow)) ?_
  exact cs_iret hx hb hr hlocks hK hP hD hS (v := nI (2 ^ n - 1)) () (by first | rfl | assumption) rfl dX5_whole_8

set_option maxRecDepth 100000 in
theorem in5_X5_kindsOf : ∀ w ∈ wsX50, w ∈ wsX5_kindsOf := by decide +kernel
set_option maxHeartbeats 4000000 in
set_option maxRecDepth 100000 in
theorem c_X5_kindsOf (l : Launch) (G : cG) (z zk zn zs zw zf zg th n rc ta st : Nat) (kp : Bool) (kd kq kt ks al : Nat) (hn : n ≤ 24) (hrc : rc ≤ 6) (k : Nat → Nat) (hk : ∀ j, j < n → k j < 16) (d : Nat) (hd : d < 2 ^ 24) : cMI l G yX5_kindsOf wsX5_kindsOf ({ frames := 0, cells := 0, slots := 0, locals := 0 }) [.ref z, .int (nI d)] [(z, .inr (5, [.int (nI th), .int (nI n), .ref zk, .int (nI rc), .ref zn, .ref zs, .int (nI ta), .ref zw, .int (nI st), .ref zf, .int (bI kp), .int (nI kd), .int (nI kq), .int (nI kt), .int (nI ks), .ref zg, .int (nI al)])), (zk, .inl (G.2.1, 24, .inl (nF k)))] (fun (r_ : Int32) (_ : Unit) => r_ = nI (kds k d n)) (fun (_ : Unit) => [(z, .inr (5, [.int (nI th), .int (nI n), .ref zk, .int (nI rc), .ref zn, .ref zs, .int (nI ta), .ref zw, .int (nI st), .ref zf, .int (bI kp), .int (nI kd), .int (nI kq), .int (nI kt), .int (nI ks), .ref zg, .int (nI al)])), (zk, .inl (G.2.1, 24, .inl (nF k)))]) := by
  refine cs_sI (own := RX5) (cc := cX5_kindsOf) (maxL := 4) (ret := (some .int)) (by decide) rfl rfl (Nat.le_of_ble_eq_true rfl) ?_
  intro p e s m below meth c A hx hb hr hml hts hown hlocks hinit hA hK hP hD hS ls hl
  have hin5 := in5_X5_kindsOf
  have hl : lv_has ls 4 [(0, .ref z), (1, .int (nI d))] := hl
  refine lv_iconst (v := nI 0) hx hb dX5_kindsOf_0 (by decide +kernel) ?_
  refine lv_istore_n (lv' := [(2, .int (nI 0)), (0, .ref z), (1, .int (nI d))]) hx hb dX5_kindsOf_1 rfl hl (by decide) rfl (fun ls hl => ?_)
  refine lv_iconst (v := nI 0) hx hb dX5_kindsOf_2 (by decide +kernel) ?_
  refine lv_istore_n (lv' := [(3, .int (nI 0)), (2, .int (nI 0)), (0, .ref z), (1, .int (nI d))]) hx hb dX5_kindsOf_3 rfl hl (by decide) rfl (fun ls hl => ?_)
  refine cs_loop (G := G) (nL := 4) (σ := Nat) (fun (i : Nat) => n - i) (fun (i : Nat) => i ≤ n) (fun (i : Nat) => [(z, .inr (5, [.int (nI th), .int (nI n), .ref zk, .int (nI rc), .ref zn, .ref zs, .int (nI ta), .ref zw, .int (nI st), .ref zf, .int (bI kp), .int (nI kd), .int (nI kq), .int (nI kt), .int (nI ks), .ref zg, .int (nI al)])), (zk, .inl (G.2.1, 24, .inl (nF k)))]) (fun (i : Nat) => [(0, .ref z), (1, .int (nI d)), (2, .int (nI (kds k d i))), (3, .int (nI i))]) ?_ (0) (by show 0 ≤ n; omega) (hP.sub (ws' := [(z, .inr (5, [.int (nI th), .int (nI n), .ref zk, .int (nI rc), .ref zn, .ref zs, .int (nI ta), .ref zw, .int (nI st), .ref zf, .int (bI kp), .int (nI kd), .int (nI kq), .int (nI kt), .int (nI ks), .ref zg, .int (nI al)])), (zk, .inl (G.2.1, 24, .inl (nF k)))]) [0, 1] rfl) (hD.sub (ws' := [(z, .inr (5, [.int (nI th), .int (nI n), .ref zk, .int (nI rc), .ref zn, .ref zs, .int (nI ta), .ref zw, .int (nI st), .ref zf, .int (bI kp), .int (nI kd), .int (nI kq), .int (nI kt), .int (nI ks), .ref zg, .int (nI al)])), (zk, .inl (G.2.1, 24, .inl (nF k)))]) [0, 1] (by decide) rfl) hS (lv_sub (l' := [(0, .ref z), (1, .int (nI d)), (2, .int (nI (kds k d 0))), (3, .int (nI 0))]) hl [2, 3, 1, 0] rfl)
  rintro i hinv ih H locs ls hP hD hS hl
  have hP : va_P G.1 vwCl [(z, .inr (5, [.int (nI th), .int (nI n), .ref zk, .int (nI rc), .ref zn, .ref zs, .int (nI ta), .ref zw, .int (nI st), .ref zf, .int (bI kp), .int (nI kd), .int (nI kq), .int (nI kt), .int (nI ks), .ref zg, .int (nI al)])), (zk, .inl (G.2.1, 24, .inl (nF k)))] H := hP
  have hD : va_D A [(z, .inr (5, [.int (nI th), .int (nI n), .ref zk, .int (nI rc), .ref zn, .ref zs, .int (nI ta), .ref zw, .int (nI st), .ref zf, .int (bI kp), .int (nI kd), .int (nI kq), .int (nI kt), .int (nI ks), .ref zg, .int (nI al)])), (zk, .inl (G.2.1, 24, .inl (nF k)))] := hD
  have hl : lv_has ls 4 [(0, .ref z), (1, .int (nI d)), (2, .int (nI (kds k d i))), (3, .int (nI i))] := hl
  have hinv : i ≤ n := hinv
  refine lv_iload_n hx hb dX5_kindsOf_4 rfl (lv_at hl 3 rfl) ?_
  refine lv_aload_n hx hb dX5_kindsOf_5 rfl (lv_at hl 0 rfl) ?_
  refine va_get (D := G.1) (ci := 5) (v := .int (nI n)) (C := RX5) (T := TX5) (N := 17) hx hb hts hin5 hown hK hP 0 rfl rfl 1 (by decide) (hts (.fieldLink RX5 39 "FaultShrinkerModel" "size" "I") (List.mem_of_getElem? (i := 1) rfl)) (fun _ h9 => h9) rfl dX5_kindsOf_6 ?_
  refine lv_icmp_ge (tgt := 38) hx hb dX5_kindsOf_9 (by decide) (fun c_9 => ?_) (fun c_9 => ?_)
  · have c_9 := (nI_leI (by omega) (by omega)).mp c_9
    have e7 : i = n := by omega
    subst e7
    refine lv_iload_n hx hb dX5_kindsOf_38 rfl (lv_at hl 2 rfl) ?_
    exact cs_iret hx hb hr hlocks hK hP hD hS (v := nI (kds k d i)) () (by first | rfl | assumption) rfl dX5_kindsOf_39
  · have c_9 := mt (nI_leI (by omega) (by omega)).mpr c_9
    refine lv_iload_n hx hb dX5_kindsOf_12 rfl (lv_at hl 1 rfl) ?_
    refine lv_iload_n hx hb dX5_kindsOf_13 rfl (lv_at hl 3 rfl) ?_
    refine lv_ishr hx hb dX5_kindsOf_14 ?_
    refine cs_i (y := nI (d >>> i)) (nI_shr (by omega) (by omega)) ?_
    refine lv_iconst (v := nI 1) hx hb dX5_kindsOf_15 (by decide +kernel) ?_
    refine lv_iand hx hb dX5_kindsOf_16 ?_
    refine cs_i (y := bI (d.testBit i)) (by rw [fa_and]; exact bitI d i) ?_
    refine lv_iconst (v := nI 1) hx hb dX5_kindsOf_17 (by decide +kernel) ?_
    refine lv_icmp_ne (tgt := 32) hx hb dX5_kindsOf_18 (by decide) (fun c_18 => ?_) (fun c_18 => ?_)
    · have c_18 := bI_n1 c_18
      refine lv_iinc (v := nI (i + 1)) (lv' := [(3, .int (nI (i + 1))), (0, .ref z), (1, .int (nI d)), (2, .int (nI (kds k d i)))]) hx hb dX5_kindsOf_32 hl (k := 3) rfl ((nI_succ i).symm) (by decide) rfl (fun ls hl => ?_)
      have e8 : nI (kds k d i) = nI (kds k d (i + 1)) := by first | exact congrArg nI (kds_f c_18).symm | exact congrArg nI (kds_t c_18).symm
      rw [e8] at hl
      refine lv_goto (tgt := 4) hx hb dX5_kindsOf_35 (by decide) ?_
      exact ih (i + 1) (by show n - (i + 1) < n - i; omega) (by show (i + 1) ≤ n; omega) _ _ _ (hP.sub (ws' := [(z, .inr (5, [.int (nI th), .int (nI n), .ref zk, .int (nI rc), .ref zn, .ref zs, .int (nI ta), .ref zw, .int (nI st), .ref zf, .int (bI kp), .int (nI kd), .int (nI kq), .int (nI kt), .int (nI ks), .ref zg, .int (nI al)])), (zk, .inl (G.2.1, 24, .inl (nF k)))]) [0, 1] rfl) (hD.sub (ws' := [(z, .inr (5, [.int (nI th), .int (nI n), .ref zk, .int (nI rc), .ref zn, .ref zs, .int (nI ta), .ref zw, .int (nI st), .ref zf, .int (bI kp), .int (nI kd), .int (nI kq), .int (nI kt), .int (nI ks), .ref zg, .int (nI al)])), (zk, .inl (G.2.1, 24, .inl (nF k)))]) [0, 1] (by decide) rfl) hS (lv_sub (l' := [(0, .ref z), (1, .int (nI d)), (2, .int (nI (kds k d (i + 1)))), (3, .int (nI (i + 1)))]) hl [1, 2, 3, 0] rfl)
    · have c_18 := bI_1 c_18
      have hki := hk i (by omega)
      refine lv_iload_n hx hb dX5_kindsOf_21 rfl (lv_at hl 2 rfl) ?_
      refine lv_iconst (v := nI 1) hx hb dX5_kindsOf_22 (by decide +kernel) ?_
      refine lv_aload_n hx hb dX5_kindsOf_23 rfl (lv_at hl 0 rfl) ?_
      refine va_get (D := G.1) (ci := 5) (v := .ref zk) (C := RX5) (T := TX5) (N := 17) hx hb hts hin5 hown hK hP 0 rfl rfl 2 (by decide) (hts (.fieldLink RX5 9 "FaultShrinkerModel" "kind" "[I") (List.mem_of_getElem? (i := 2) rfl)) (fun _ h9 => h9) rfl dX5_kindsOf_24 ?_
      refine lv_iload_n hx hb dX5_kindsOf_27 rfl (lv_at hl 3 rfl) ?_
      refine va_iald hx hb hK hP 1 0 rfl rfl (vp_in_nI (by omega) (by omega)) dX5_kindsOf_28 ?_
      refine cs_i (y := nI (k i)) (nF_at _ (by omega)) ?_
      refine lv_ishl hx hb dX5_kindsOf_29 ?_
      refine cs_i (y := nI (2 ^ (k i))) (nI_one_shl (by omega)) ?_
      refine lv_ior hx hb dX5_kindsOf_30 ?_
      refine cs_i (y := nI ((kds k d i) ||| (2 ^ (k i)))) (fa_or _ _) ?_
      refine lv_istore_n (lv' := [(2, .int (nI ((kds k d i) ||| (2 ^ (k i))))), (0, .ref z), (1, .int (nI d)), (3, .int (nI i))]) hx hb dX5_kindsOf_31 rfl hl (by decide) rfl (fun ls hl => ?_)
      refine lv_iinc (v := nI (i + 1)) (lv' := [(3, .int (nI (i + 1))), (2, .int (nI ((kds k d i) ||| (2 ^ (k i))))), (0, .ref z), (1, .int (nI d))]) hx hb dX5_kindsOf_32 hl (k := 3) rfl ((nI_succ i).symm) (by decide) rfl (fun ls hl => ?_)
      have e8 : nI ((kds k d i) ||| (2 ^ (k i))) = nI (kds k d (i + 1)) := by first | exact congrArg nI (kds_f c_18).symm | exact congrArg nI (kds_t c_18).symm
      rw [e8] at hl
      refine lv_goto (tgt := 4) hx hb dX5_kindsOf_35 (by decide) ?_
      exact ih (i + 1) (by show n - (i + 1) < n - i; omega) (by show (i + 1) ≤ n; omega) _ _ _ (hP.sub (ws' := [(z, .inr (5, [.int (nI th), .int (nI n), .ref zk, .int (nI rc), .ref zn, .ref zs, .int (nI ta), .ref zw, .int (nI st), .ref zf, .int (bI kp), .int (nI kd), .int (nI kq), .int (nI kt), .int (nI ks), .ref zg, .int (nI al)])), (zk, .inl (G.2.1, 24, .inl (nF k)))]) [0, 1] rfl) (hD.sub (ws' := [(z, .inr (5, [.int (nI th), .int (nI n), .ref zk, .int (nI rc), .ref zn, .ref zs, .int (nI ta), .ref zw, .int (nI st), .ref zf, .int (bI kp), .int (nI kd), .int (nI kq), .int (nI kt), .int (nI ks), .ref zg, .int (nI al)])), (zk, .inl (G.2.1, 24, .inl (nF k)))]) [0, 1] (by decide) rfl) hS (lv_sub (l' := [(0, .ref z), (1, .int (nI d)), (2, .int (nI (kds k d (i + 1)))), (3, .int (nI (i + 1)))]) hl [2, 3, 1, 0] rfl)

set_option maxRecDepth 100000 in
theorem in5_X5_holds : ∀ w ∈ wsX50, w ∈ wsX5_holds := by decide +kernel
set_option maxHeartbeats 4000000 in
set_option maxRecDepth 100000 in
theorem c_X5_holds (l : Launch) (G : cG) (z zk zn zs zw zf zg th n rc ta st : Nat) (kp : Bool) (kd kq kt ks al : Nat) (hn : n ≤ 24) (hrc : rc ≤ 6) (ne sp : Nat → Nat) (hne : ∀ j, j < 6 → ne j < 65536) (hsp : ∀ j, j < 6 → sp j < 65536) (j kk : Nat) (hj : j < rc) (hkk : kk < 65536) : cMI l G yX5_holds wsX5_holds ({ frames := 0, cells := 0, slots := 0, locals := 0 }) [.ref z, .int (nI j), .int (nI kk)] [(z, .inr (5, [.int (nI th), .int (nI n), .ref zk, .int (nI rc), .ref zn, .ref zs, .int (nI ta), .ref zw, .int (nI st), .ref zf, .int (bI kp), .int (nI kd), .int (nI kq), .int (nI kt), .int (nI ks), .ref zg, .int (nI al)])), (zn, .inl (G.2.1, 6, .inl (nF ne))), (zs, .inl (G.2.1, 6, .inl (nF sp)))] (fun (r_ : Int32) (_ : Unit) => r_ = bI (hld (ne j) (sp j) kk)) (fun (_ : Unit) => [(z, .inr (5, [.int (nI th), .int (nI n), .ref zk, .int (nI rc), .ref zn, .ref zs, .int (nI ta), .ref zw, .int (nI st), .ref zf, .int (bI kp), .int (nI kd), .int (nI kq), .int (nI kt), .int (nI ks), .ref zg, .int (nI al)])), (zn, .inl (G.2.1, 6, .inl (nF ne))), (zs, .inl (G.2.1, 6, .inl (nF sp)))]) := by
  refine cs_sI (own := RX5) (cc := cX5_holds) (maxL := 3) (ret := (some .boolean)) (by decide) rfl rfl (Nat.le_of_ble_eq_true rfl) ?_
  intro p e s m below meth c A hx hb hr hml hts hown hlocks hinit hA hK hP hD hS ls hl
  have hin5 := in5_X5_holds
  have hl : lv_has ls 3 [(0, .ref z), (1, .int (nI j)), (2, .int (nI kk))] := hl
  have hnj := hne j (by omega)
  have hsj := hsp j (by omega)
  have hk1 : nd (ne j) kk < 65536 := nd_lt (n := 16) hnj
  have hk2 : sp j &&& kk < 65536 := Nat.lt_of_le_of_lt Nat.and_le_left hsj
  refine lv_aload_n hx hb dX5_holds_0 rfl (lv_at hl 0 rfl) ?_
  refine va_get (D := G.1) (ci := 5) (v := .ref zn) (C := RX5) (T := TX5) (N := 17) hx hb hts hin5 hown hK hP 0 rfl rfl 4 (by decide) (hts (.fieldLink RX5 13 "FaultShrinkerModel" "needs" "[I") (List.mem_of_getElem? (i := 1) rfl)) (fun _ h9 => h9) rfl dX5_holds_1 ?_
  refine lv_iload_n hx hb dX5_holds_4 rfl (lv_at hl 1 rfl) ?_
  refine va_iald hx hb hK hP 1 0 rfl rfl (vp_in_nI (by omega) (by omega)) dX5_holds_5 ?_
  refine cs_i (y := nI (ne j)) (nF_at _ (by omega)) ?_
  refine lv_if_eq (tgt := 37) hx hb dX5_holds_6 (by decide) (fun c_6 => ?_) (fun c_6 => ?_)
  · have c_6 := (nI_eq0 (by omega)).mp c_6
    refine lv_iconst (v := nI 0) hx hb dX5_holds_37 (by decide +kernel) ?_
    exact cs_zret hx hb hr hlocks hK hP hD hS (v := nI 0) (rfl) () (by first | (rw [hld_t c_6 (nd_0.mp c_19) (by rw [Nat.and_comm]; exact c_30)]; rfl) | (rw [hld_f1 c_6]; rfl) | (rw [hld_f2 (fun q9 => c_19 (nd_0.mpr q9))]; rfl) | (rw [hld_f3 (by rw [Nat.and_comm]; exact c_30)]; rfl)) rfl dX5_holds_38
  · have c_6 := mt (nI_eq0 (by omega)).mpr c_6
    refine lv_aload_n hx hb dX5_holds_9 rfl (lv_at hl 0 rfl) ?_
    refine va_get (D := G.1) (ci := 5) (v := .ref zn) (C := RX5) (T := TX5) (N := 17) hx hb hts hin5 hown hK hP 0 rfl rfl 4 (by decide) (hts (.fieldLink RX5 13 "FaultShrinkerModel" "needs" "[I") (List.mem_of_getElem? (i := 1) rfl)) (fun _ h9 => h9) rfl dX5_holds_10 ?_
    refine lv_iload_n hx hb dX5_holds_13 rfl (lv_at hl 1 rfl) ?_
    refine va_iald hx hb hK hP 1 0 rfl rfl (vp_in_nI (by omega) (by omega)) dX5_holds_14 ?_
    refine cs_i (y := nI (ne j)) (nF_at _ (by omega)) ?_
    refine lv_iload_n hx hb dX5_holds_15 rfl (lv_at hl 2 rfl) ?_
    refine lv_iconst (v := (-1)) hx hb dX5_holds_16 (by decide +kernel) ?_
    refine lv_ixor hx hb dX5_holds_17 ?_
    refine lv_iand hx hb dX5_holds_18 ?_
    refine cs_i (y := nI (nd (ne j) kk)) (nI_nd _ _) ?_
    refine lv_if_ne (tgt := 37) hx hb dX5_holds_19 (by decide) (fun c_19 => ?_) (fun c_19 => ?_)
    · have c_19 := (nI_ne0I (by omega)).mp c_19
      refine lv_iconst (v := nI 0) hx hb dX5_holds_37 (by decide +kernel) ?_
      exact cs_zret hx hb hr hlocks hK hP hD hS (v := nI 0) (rfl) () (by first | (rw [hld_t c_6 (nd_0.mp c_19) (by rw [Nat.and_comm]; exact c_30)]; rfl) | (rw [hld_f1 c_6]; rfl) | (rw [hld_f2 (fun q9 => c_19 (nd_0.mpr q9))]; rfl) | (rw [hld_f3 (by rw [Nat.and_comm]; exact c_30)]; rfl)) rfl dX5_holds_38
    · have c_19 := (nI_eq0 (by omega)).mp c_19
      refine lv_aload_n hx hb dX5_holds_22 rfl (lv_at hl 0 rfl) ?_
      refine va_get (D := G.1) (ci := 5) (v := .ref zs) (C := RX5) (T := TX5) (N := 17) hx hb hts hin5 hown hK hP 0 rfl rfl 5 (by decide) (hts (.fieldLink RX5 16 "FaultShrinkerModel" "spares" "[I") (List.mem_of_getElem? (i := 2) rfl)) (fun _ h9 => h9) rfl dX5_holds_23 ?_
      refine lv_iload_n hx hb dX5_holds_26 rfl (lv_at hl 1 rfl) ?_
      refine va_iald hx hb hK hP 2 0 rfl rfl (vp_in_nI (by omega) (by omega)) dX5_holds_27 ?_
      refine cs_i (y := nI (sp j)) (nF_at _ (by omega)) ?_
      refine lv_iload_n hx hb dX5_holds_28 rfl (lv_at hl 2 rfl) ?_
      refine lv_iand hx hb dX5_holds_29 ?_
      refine cs_i (y := nI ((sp j) &&& kk)) (fa_and _ _) ?_
      refine lv_if_ne (tgt := 37) hx hb dX5_holds_30 (by decide) (fun c_30 => ?_) (fun c_30 => ?_)
      · have c_30 := (nI_ne0I (by omega)).mp c_30
        refine lv_iconst (v := nI 0) hx hb dX5_holds_37 (by decide +kernel) ?_
        exact cs_zret hx hb hr hlocks hK hP hD hS (v := nI 0) (rfl) () (by first | (rw [hld_t c_6 (nd_0.mp c_19) (by rw [Nat.and_comm]; exact c_30)]; rfl) | (rw [hld_f1 c_6]; rfl) | (rw [hld_f2 (fun q9 => c_19 (nd_0.mpr q9))]; rfl) | (rw [hld_f3 (by rw [Nat.and_comm]; exact c_30)]; rfl)) rfl dX5_holds_38
      · have c_30 := (nI_eq0 (by omega)).mp c_30
        refine lv_iconst (v := nI 1) hx hb dX5_holds_33 (by decide +kernel) ?_
        refine lv_goto (tgt := 38) hx hb dX5_holds_34 (by decide) ?_
        exact cs_zret hx hb hr hlocks hK hP hD hS (v := nI 1) (rfl) () (by first | (rw [hld_t c_6 (nd_0.mp c_19) (by rw [Nat.and_comm]; exact c_30)]; rfl) | (rw [hld_f1 c_6]; rfl) | (rw [hld_f2 (fun q9 => c_19 (nd_0.mpr q9))]; rfl) | (rw [hld_f3 (by rw [Nat.and_comm]; exact c_30)]; rfl)) rfl dX5_holds_38

set_option maxRecDepth 100000 in
theorem in5_X5_isSpoilt : ∀ w ∈ wsX50, w ∈ wsX5_isSpoilt := by decide +kernel
set_option maxHeartbeats 4000000 in
set_option maxRecDepth 100000 in
theorem c_X5_isSpoilt (l : Launch) (G : cG) (z zk zn zs zw zf zg th n rc ta st : Nat) (kp : Bool) (kd kq kt ks al : Nat) (hn : n ≤ 24) (hrc : rc ≤ 6) (k : Nat → Nat) (ne sp : Nat → Nat) (hk : ∀ j, j < n → k j < 16) (hne : ∀ j, j < 6 → ne j < 65536) (hsp : ∀ j, j < 6 → sp j < 65536) (d : Nat) (hd : d < 2 ^ 24) : cMI l G yX5_isSpoilt wsX5_isSpoilt ({ frames := 1, cells := 0, slots := 0, locals := 23 }) [.ref z, .int (nI d)] [(z, .inr (5, [.int (nI th), .int (nI n), .ref zk, .int (nI rc), .ref zn, .ref zs, .int (nI ta), .ref zw, .int (nI st), .ref zf, .int (bI kp), .int (nI kd), .int (nI kq), .int (nI kt), .int (nI ks), .ref zg, .int (nI al)])), (zk, .inl (G.2.1, 24, .inl (nF k))), (zn, .inl (G.2.1, 6, .inl (nF ne))), (zs, .inl (G.2.1, 6, .inl (nF sp)))] (fun (r_ : Int32) (_ : Unit) => r_ = bI (spl k ne sp n rc d)) (fun (_ : Unit) => [(z, .inr (5, [.int (nI th), .int (nI n), .ref zk, .int (nI rc), .ref zn, .ref zs, .int (nI ta), .ref zw, .int (nI st), .ref zf, .int (bI kp), .int (nI kd), .int (nI kq), .int (nI kt), .int (nI ks), .ref zg, .int (nI al)])), (zk, .inl (G.2.1, 24, .inl (nF k))), (zn, .inl (G.2.1, 6, .inl (nF ne))), (zs, .inl (G.2.1, 6, .inl (nF sp)))]) := by
  refine cs_sI (own := RX5) (cc := cX5_isSpoilt) (maxL := 4) (ret := (some .boolean)) (by decide) rfl rfl (Nat.le_of_ble_eq_true rfl) ?_
  intro p e s m below meth c A hx hb hr hml hts hown hlocks hinit hA hK hP hD hS ls hl
  have hin5 := in5_X5_isSpoilt
  have hl : lv_has ls 4 [(0, .ref z), (1, .int (nI d))] := hl
  refine lv_aload_n hx hb dX5_isSpoilt_0 rfl (lv_at hl 0 rfl) ?_
  refine lv_iload_n hx hb dX5_isSpoilt_1 rfl (lv_at hl 1 rfl) ?_
  refine cs_vi (As := [.int (nI d)]) (rest := []) (wr := [(zn, .inl (G.2.1, 6, .inl (nF ne))), (zs, .inl (G.2.1, 6, .inl (nF sp)))]) ⟨hx, hb, hml, hown, hts⟩ hK hP hD hS hA (c_X5_kindsOf l G z zk zn zs zw zf zg th n rc ta st kp kd kq kt ks al (by first | assumption | omega) (by first | assumption | omega) k (by first | assumption | omega) d (by first | assumption | omega)) (cwV 1 hts gX5_isSpoilt_X5_kindsOf rfl rfl rfl (by decide +kernel) ⟨Nat.le_of_ble_eq_true rfl, Nat.le_of_ble_eq_true rfl⟩) [0, 1] [2, 3] ⟨rfl, rfl, by decide, by decide, by decide⟩ 0 5 rfl rfl rfl hl.1 rfl (Nat.le_of_ble_eq_true rfl) ⟨Nat.le_of_ble_eq_true rfl, Nat.le_of_ble_eq_true rfl⟩ dX5_isSpoilt_2 (fun r u H locs hw hP hD hS => ?_)
  have hP : va_P G.1 vwCl [(z, .inr (5, [.int (nI th), .int (nI n), .ref zk, .int (nI rc), .ref zn, .ref zs, .int (nI ta), .ref zw, .int (nI st), .ref zf, .int (bI kp), .int (nI kd), .int (nI kq), .int (nI kt), .int (nI ks), .ref zg, .int (nI al)])), (zk, .inl (G.2.1, 24, .inl (nF k))), (zn, .inl (G.2.1, 6, .inl (nF ne))), (zs, .inl (G.2.1, 6, .inl (nF sp)))] H := hP.sub [2, 3, 0, 1] rfl
  have hD : va_D A [(z, .inr (5, [.int (nI th), .int (nI n), .ref zk, .int (nI rc), .ref zn, .ref zs, .int (nI ta), .ref zw, .int (nI st), .ref zf, .int (bI kp), .int (nI kd), .int (nI kq), .int (nI kt), .int (nI ks), .ref zg, .int (nI al)])), (zk, .inl (G.2.1, 24, .inl (nF k))), (zn, .inl (G.2.1, 6, .inl (nF ne))), (zs, .inl (G.2.1, 6, .inl (nF sp)))] := hD.sub [2, 3, 0, 1] (by decide) rfl
  subst hw
  refine lv_istore_n (lv' := [(2, .int (nI (kds k d n))), (0, .ref z), (1, .int (nI d))]) hx hb dX5_isSpoilt_5 rfl hl (by decide) rfl (fun ls hl => ?_)
  refine lv_iconst (v := nI 0) hx hb dX5_isSpoilt_6 (by decide +kernel) ?_
  refine lv_istore_n (lv' := [(3, .int (nI 0)), (2, .int (nI (kds k d n))), (0, .ref z), (1, .int (nI d))]) hx hb dX5_isSpoilt_7 rfl hl (by decide) rfl (fun ls hl => ?_)
  refine cs_loop (G := G) (nL := 4) (σ := Nat) (fun (i : Nat) => rc - i) (fun (i : Nat) => i ≤ rc ∧ hcn ne sp (kds k d n) i = 0) (fun (i : Nat) => [(z, .inr (5, [.int (nI th), .int (nI n), .ref zk, .int (nI rc), .ref zn, .ref zs, .int (nI ta), .ref zw, .int (nI st), .ref zf, .int (bI kp), .int (nI kd), .int (nI kq), .int (nI kt), .int (nI ks), .ref zg, .int (nI al)])), (zk, .inl (G.2.1, 24, .inl (nF k))), (zn, .inl (G.2.1, 6, .inl (nF ne))), (zs, .inl (G.2.1, 6, .inl (nF sp)))]) (fun (i : Nat) => [(0, .ref z), (1, .int (nI d)), (2, .int (nI (kds k d n))), (3, .int (nI i))]) ?_ (0) (⟨Nat.zero_le _, rfl⟩) (hP.sub (ws' := [(z, .inr (5, [.int (nI th), .int (nI n), .ref zk, .int (nI rc), .ref zn, .ref zs, .int (nI ta), .ref zw, .int (nI st), .ref zf, .int (bI kp), .int (nI kd), .int (nI kq), .int (nI kt), .int (nI ks), .ref zg, .int (nI al)])), (zk, .inl (G.2.1, 24, .inl (nF k))), (zn, .inl (G.2.1, 6, .inl (nF ne))), (zs, .inl (G.2.1, 6, .inl (nF sp)))]) [0, 1, 2, 3] rfl) (hD.sub (ws' := [(z, .inr (5, [.int (nI th), .int (nI n), .ref zk, .int (nI rc), .ref zn, .ref zs, .int (nI ta), .ref zw, .int (nI st), .ref zf, .int (bI kp), .int (nI kd), .int (nI kq), .int (nI kt), .int (nI ks), .ref zg, .int (nI al)])), (zk, .inl (G.2.1, 24, .inl (nF k))), (zn, .inl (G.2.1, 6, .inl (nF ne))), (zs, .inl (G.2.1, 6, .inl (nF sp)))]) [0, 1, 2, 3] (by decide) rfl) hS (lv_sub (l' := [(0, .ref z), (1, .int (nI d)), (2, .int (nI (kds k d n))), (3, .int (nI 0))]) hl [2, 3, 1, 0] rfl)
  rintro i hinv ih H locs ls hP hD hS hl
  have hP : va_P G.1 vwCl [(z, .inr (5, [.int (nI th), .int (nI n), .ref zk, .int (nI rc), .ref zn, .ref zs, .int (nI ta), .ref zw, .int (nI st), .ref zf, .int (bI kp), .int (nI kd), .int (nI kq), .int (nI kt), .int (nI ks), .ref zg, .int (nI al)])), (zk, .inl (G.2.1, 24, .inl (nF k))), (zn, .inl (G.2.1, 6, .inl (nF ne))), (zs, .inl (G.2.1, 6, .inl (nF sp)))] H := hP
  have hD : va_D A [(z, .inr (5, [.int (nI th), .int (nI n), .ref zk, .int (nI rc), .ref zn, .ref zs, .int (nI ta), .ref zw, .int (nI st), .ref zf, .int (bI kp), .int (nI kd), .int (nI kq), .int (nI kt), .int (nI ks), .ref zg, .int (nI al)])), (zk, .inl (G.2.1, 24, .inl (nF k))), (zn, .inl (G.2.1, 6, .inl (nF ne))), (zs, .inl (G.2.1, 6, .inl (nF sp)))] := hD
  have hl : lv_has ls 4 [(0, .ref z), (1, .int (nI d)), (2, .int (nI (kds k d n))), (3, .int (nI i))] := hl
  have hinv : i ≤ rc ∧ hcn ne sp (kds k d n) i = 0 := hinv
  obtain ⟨hi, hci⟩ := hinv
  refine lv_iload_n hx hb dX5_isSpoilt_8 rfl (lv_at hl 3 rfl) ?_
  refine lv_aload_n hx hb dX5_isSpoilt_9 rfl (lv_at hl 0 rfl) ?_
  refine va_get (D := G.1) (ci := 5) (v := .int (nI rc)) (C := RX5) (T := TX5) (N := 17) hx hb hts hin5 hown hK hP 0 rfl rfl 3 (by decide) (hts (.fieldLink RX5 32 "FaultShrinkerModel" "rules" "I") (List.mem_of_getElem? (i := 1) rfl)) (fun _ h9 => h9) rfl dX5_isSpoilt_10 ?_
  refine lv_icmp_ge (tgt := 33) hx hb dX5_isSpoilt_13 (by decide) (fun c_13 => ?_) (fun c_13 => ?_)
  · have c_13 := (nI_leI (by omega) (by omega)).mp c_13
    have e7 : i = rc := by omega
    subst e7
    refine lv_iconst (v := nI 0) hx hb dX5_isSpoilt_33 (by decide +kernel) ?_
    exact cs_zret hx hb hr hlocks hK hP hD hS (v := nI 0) (rfl) () (by unfold spl; rw [decide_eq_false (by omega)]; rfl) rfl dX5_isSpoilt_34
  · have c_13 := mt (nI_leI (by omega) (by omega)).mpr c_13
    refine lv_aload_n hx hb dX5_isSpoilt_16 rfl (lv_at hl 0 rfl) ?_
    refine lv_iload_n hx hb dX5_isSpoilt_17 rfl (lv_at hl 3 rfl) ?_
    refine lv_iload_n hx hb dX5_isSpoilt_18 rfl (lv_at hl 2 rfl) ?_
    refine cs_vi (As := [.int (nI i), .int (nI (kds k d n))]) (rest := []) (wr := [(zk, .inl (G.2.1, 24, .inl (nF k)))]) ⟨hx, hb, hml, hown, hts⟩ hK hP hD hS hA (c_X5_holds l G z zk zn zs zw zf zg th n rc ta st kp kd kq kt ks al (by first | assumption | omega) (by first | assumption | omega) ne sp (by first | assumption | omega) (by first | assumption | omega) i (kds k d n) (by first | assumption | omega) (kds_lt hk)) (cwV 2 hts gX5_isSpoilt_X5_holds rfl rfl rfl (by decide +kernel) ⟨Nat.le_of_ble_eq_true rfl, Nat.le_of_ble_eq_true rfl⟩) [0, 2, 3] [1] ⟨rfl, rfl, by decide, by decide, by decide⟩ 0 5 rfl rfl rfl hl.1 rfl (Nat.le_of_ble_eq_true rfl) ⟨Nat.le_of_ble_eq_true rfl, Nat.le_of_ble_eq_true rfl⟩ dX5_isSpoilt_19 (fun r u H locs hw hP hD hS => ?_)
    have hP : va_P G.1 vwCl [(z, .inr (5, [.int (nI th), .int (nI n), .ref zk, .int (nI rc), .ref zn, .ref zs, .int (nI ta), .ref zw, .int (nI st), .ref zf, .int (bI kp), .int (nI kd), .int (nI kq), .int (nI kt), .int (nI ks), .ref zg, .int (nI al)])), (zk, .inl (G.2.1, 24, .inl (nF k))), (zn, .inl (G.2.1, 6, .inl (nF ne))), (zs, .inl (G.2.1, 6, .inl (nF sp)))] H := hP.sub [1, 0, 2, 3] rfl
    have hD : va_D A [(z, .inr (5, [.int (nI th), .int (nI n), .ref zk, .int (nI rc), .ref zn, .ref zs, .int (nI ta), .ref zw, .int (nI st), .ref zf, .int (bI kp), .int (nI kd), .int (nI kq), .int (nI kt), .int (nI ks), .ref zg, .int (nI al)])), (zk, .inl (G.2.1, 24, .inl (nF k))), (zn, .inl (G.2.1, 6, .inl (nF ne))), (zs, .inl (G.2.1, 6, .inl (nF sp)))] := hD.sub [1, 0, 2, 3] (by decide) rfl
    subst hw
    refine lv_if_eq (tgt := 27) hx hb dX5_isSpoilt_22 (by decide) (fun c_22 => ?_) (fun c_22 => ?_)
    · have c_22 := bI_0 c_22
      refine lv_iinc (v := nI (i + 1)) (lv' := [(3, .int (nI (i + 1))), (0, .ref z), (1, .int (nI d)), (2, .int (nI (kds k d n)))]) hx hb dX5_isSpoilt_27 hl (k := 3) rfl ((nI_succ i).symm) (by decide) rfl (fun ls hl => ?_)
      refine lv_goto (tgt := 8) hx hb dX5_isSpoilt_30 (by decide) ?_
      exact ih (i + 1) (by show rc - (i + 1) < rc - i; omega) (⟨by show i + 1 ≤ rc; omega, by show hcn ne sp (kds k d n) (i + 1) = 0; rw [hcn_f c_22]; exact hci⟩) _ _ _ (hP.sub (ws' := [(z, .inr (5, [.int (nI th), .int (nI n), .ref zk, .int (nI rc), .ref zn, .ref zs, .int (nI ta), .ref zw, .int (nI st), .ref zf, .int (bI kp), .int (nI kd), .int (nI kq), .int (nI kt), .int (nI ks), .ref zg, .int (nI al)])), (zk, .inl (G.2.1, 24, .inl (nF k))), (zn, .inl (G.2.1, 6, .inl (nF ne))), (zs, .inl (G.2.1, 6, .inl (nF sp)))]) [0, 1, 2, 3] rfl) (hD.sub (ws' := [(z, .inr (5, [.int (nI th), .int (nI n), .ref zk, .int (nI rc), .ref zn, .ref zs, .int (nI ta), .ref zw, .int (nI st), .ref zf, .int (bI kp), .int (nI kd), .int (nI kq), .int (nI kt), .int (nI ks), .ref zg, .int (nI al)])), (zk, .inl (G.2.1, 24, .inl (nF k))), (zn, .inl (G.2.1, 6, .inl (nF ne))), (zs, .inl (G.2.1, 6, .inl (nF sp)))]) [0, 1, 2, 3] (by decide) rfl) hS (lv_sub (l' := [(0, .ref z), (1, .int (nI d)), (2, .int (nI (kds k d n))), (3, .int (nI (i + 1)))]) hl [1, 2, 3, 0] rfl)
    · have c_22 := bI_n0 c_22
      refine lv_iconst (v := nI 1) hx hb dX5_isSpoilt_25 (by decide +kernel) ?_
      exact cs_zret hx hb hr hlocks hK hP hD hS (v := nI 1) (rfl) () (by rw [spl_t (by omega) c_22]; rfl) rfl dX5_isSpoilt_26
