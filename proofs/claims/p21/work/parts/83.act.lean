/-! ===== what holds between the calls ===== -/
abbrev aInv (G : cG) (gr : ClassId) (ak ar zl alk ast n rc sn dd st kq m9 : Nat) (k ne sp g g1 : Nat → Nat) (fx hk9 : Nat → Int32) (T : Nat → Int64) (F : List Int32) (R L : List Nat) (f : Nat → va_E) : Prop :=
  n ≤ 24 ∧ (∀ j, j < n → k j < 16) ∧ rc ≤ 6 ∧ (∀ j, j < 6 → ne j < 65536) ∧ (∀ j, j < 6 → sp j < 65536) ∧ (∀ j, j < 6 → ne j &&& sp j = 0) ∧ (∀ j, rc ≤ j → ne j = 0 ∧ sp j = 0) ∧ simK G gr R L f ak ar n k rc ne sp ∧ TB T sn ∧ g 0 = 0 ∧ g1 0 = 0 ∧ kq < 65536 ∧ dd < 2 ^ 24 ∧ st = F.length / 5 ∧ F.length ≤ 640 ∧ FR fx F ∧ m9 < 1000 ∧ kR hk9 m9 kq ∧ dI G L f zl dd ∧ fI G L f alk m9 hk9 ∧ sF G gr L f ast F
theorem add_e (k : Nat → Nat) (z : Nat → Int32) {n w j : Nat} (hw : w < 16) (hj : j < n + 1) : va_up (fa_fill (fun j9 => nI (k j9)) z n) n (nI w) j = nI (va_up k n (vN (nI w)) j) := by
  rw [vN_nI (by omega)]
  by_cases q : j = n
  · rw [q, va_up_self, va_up_self]
  · rw [va_up_ne _ _ q, va_up_ne _ _ q, fa_fill_in (by omega)]
theorem add_k {k : Nat → Nat} {n w : Nat} (hk : ∀ j, j < n → k j < 16) (hw : w < 16) : ∀ j, j < n + 1 → va_up k n (vN (nI w)) j < 16 := fun j hj => by
  rw [vN_nI (by omega)]
  by_cases q : j = n
  · rw [q, va_up_self]; exact hw
  · rw [va_up_ne _ _ q]; exact hk j (by omega)
theorem drop_e (k : Nat → Nat) {n w j : Nat} (hw : w < n) (hn : n ≤ 24) (hj : j < n - 1) : nI (k (if j < w then j else j + (w + 1 - w))) = nI (tkt k (vN (nI w)) (n - 1) j) := by
  rw [vN_nI (by omega)]
  unfold tkt
  by_cases q : j < w
  · rw [if_pos q, if_neg (by omega)]
  · rw [if_neg q, if_pos (by omega), show w + 1 - w = 1 by omega]
theorem drop_k {k : Nat → Nat} {n w : Nat} (hk : ∀ j, j < n → k j < 16) (hw : w < n) (hn : n ≤ 24) : ∀ j, j < n - 1 → tkt k (vN (nI w)) (n - 1) j < 16 := fun j hj => by
  unfold tkt
  split
  · exact hk _ (by omega)
  · exact hk _ (by omega)
theorem fI.sub {G : cG} {P P' : List Nat} {f : Nat → va_E} {a n : Nat} {g : Nat → Int32} (h : fI G P f a n g) (hs : ∀ a ∈ P, a ∈ P') : fI G P' f a n g := ⟨hs _ h.1, h.2⟩
theorem simK.rule {G : cG} {gr : ClassId} {R R1 L L2 : List Nat} {f f1 f2 : Nat → va_E} {ak ar n rc q cm : Nat} {k ne sp : Nat → Nat} {z : Nat → Int32} (h : simK G gr R L f ak ar n k rc ne sp) (hz : ne rc = 0 ∧ sp rc = 0) (hR1 : R1 = R ++ [q]) (hq : f1 q = .inl (G.2.1, 16, .inl z)) (hz0 : ∀ j, j < 16 → z j = 0)
    (hxR : pX R L f L f1) (hx : pX R1 L f1 L2 f2) (hc : fR gr L2 f2 cm (rc + 1) (fun j => if j < rc then R.getD j 0 else q)) : simK G gr R1 L2 f2 ak cm n k (rc + 1) ne sp := by
  obtain ⟨h1, h2, h3, h4⟩ := h
  subst hR1
  refine ⟨(h1.mono hxR).mono hx, by rw [List.length_append, h2]; rfl, hc.to (fun j hj => ?_), fun j hj => ?_⟩
  · by_cases w : j < rc
    · rw [if_pos w, getD_app_l _ _ _ (by omega)]
    · rw [if_neg w, getD_app_r _ _ _ (by omega), show j - R.length = 0 by omega]; rfl
  · by_cases w : j < rc
    · rw [getD_app_l _ _ _ (by omega)]
      exact (((h4 j w).monoR hxR).sub (fun a ha => List.mem_append_left _ ha)).monoR hx
    · have e : j = rc := by omega
      subst e
      rw [getD_app_r _ _ _ (by omega), show j - R.length = 0 by omega, hz.1, hz.2]
      have h5 : fI G (R ++ [q]) f1 q 16 (rwv 0 0) := ⟨List.mem_append_right _ (List.mem_singleton.mpr rfl), z, hq, fun i hi => by rw [hz0 i hi]; unfold rwv; rw [Nat.zero_testBit]; rfl⟩
      exact h5.monoR hx
theorem p_apart {A : Nat → Prop} {X : va_W} {R L : List Nat} {f : Nat → va_E} (hD : va_D A (X ++ va_pl (R ++ L) f)) : (∀ a ∈ R, ∀ b ∈ L, b ≠ a) ∧ ∀ i j, i < R.length → j < R.length → R.getD i 0 = R.getD j 0 → i = j := by
  have at' : ∀ i, i < (R ++ L).length → (X ++ va_pl (R ++ L) f)[X.length + i]? = some ((R ++ L).getD i 0, f ((R ++ L).getD i 0)) := by
    intro i hi
    rw [List.getElem?_append_right (by omega), Nat.add_sub_cancel_left]
    simp only [va_pl, List.getElem?_map]
    rw [List.getElem?_eq_getElem hi, List.getD_eq_getElem?_getD, List.getElem?_eq_getElem hi]
    rfl
  constructor
  · intro a ha b hb e
    subst e
    obtain ⟨i, hi, e1⟩ := getD_mem.mp ha
    obtain ⟨j, hj, e2⟩ := getD_mem.mp hb
    have h1 := at' i (by rw [List.length_append]; omega)
    have h2 := at' (R.length + j) (by rw [List.length_append]; omega)
    rw [getD_app_l _ _ _ hi, e1] at h1
    rw [getD_app_r _ _ _ (Nat.le_add_right _ _), Nat.add_sub_cancel_left, e2] at h2
    have := hD.1 _ _ _ _ h1 h2 rfl
    omega
  · intro i j hi hj e
    have h1 := at' i (by rw [List.length_append]; omega)
    have h2 := at' j (by rw [List.length_append]; omega)
    rw [getD_app_l _ _ _ hi] at h1
    rw [getD_app_l _ _ _ hj, ← e] at h2
    have := hD.1 _ _ _ _ h1 h2 rfl
    omega
theorem simK.put {G : cG} {gr : ClassId} {R L : List Nat} {f : Nat → va_E} {ak ar n rc w : Nat} {k ne sp ne' sp' : Nat → Nat} {z : Nat → Int32} (h : simK G gr R L f ak ar n k rc ne sp) (hL : ∀ a ∈ R, ∀ b ∈ L, b ≠ a) (hR : ∀ i j, i < R.length → j < R.length → R.getD i 0 = R.getD j 0 → i = j) (hw : w < rc)
    (hz : ∀ j, j < 16 → z j = rwv (ne' w) (sp' w) j) (ho : ∀ j, j ≠ w → ne' j = ne j ∧ sp' j = sp j) : simK G gr R L (va_up f (R.getD w 0) (.inl (G.2.1, 16, .inl z))) ak ar n k rc ne' sp' ∧ pX [] L f L (va_up f (R.getD w 0) (.inl (G.2.1, 16, .inl z))) := by
  obtain ⟨h1, h2, h3, h4⟩ := h
  have hm := (h4 w hw).1
  have hx : pX [] L f L (va_up f (R.getD w 0) (.inl (G.2.1, 16, .inl z))) := ⟨fun a ha => absurd ha List.not_mem_nil, fun b hb => ⟨hb, va_up_ne _ _ (hL _ hm b hb)⟩⟩
  refine ⟨⟨h1.mono hx, h2, h3.mono hx, fun j hj => ?_⟩, hx⟩
  by_cases q : j = w
  · subst q
    exact ⟨hm, z, va_up_self _ _ _, hz⟩
  · obtain ⟨g1, g2, g3, g4⟩ := h4 j hj
    refine ⟨g1, g2, ?_, fun i hi => by rw [(ho j q).1, (ho j q).2]; exact g4 i hi⟩
    rw [va_up_ne _ _ (fun e => q (hR j w (by omega) (by omega) e))]
    exact g3
theorem wb_lt {x j : Nat} (h : x < 65536) (hj : j < 16) (b : Bool) : wb x j b < 65536 := by
  unfold wb
  cases b
  · rw [if_neg (by decide)]; exact nd_lt (n := 16) h
  · rw [if_pos rfl]
    exact Nat.or_lt_two_pow (n := 16) h (Nat.pow_lt_pow_right (by decide) hj)
theorem wbt_bit (x j : Nat) (b : Bool) (i : Nat) : (wb x j b).testBit i = if i = j then b else x.testBit i := by
  unfold wb
  cases b
  · rw [if_neg (by decide), nd_bit, Nat.testBit_two_pow]
    by_cases q : i = j
    · subst q; simp
    · rw [if_neg q, decide_eq_false (fun z => q z.symm)]; simp
  · rw [if_pos rfl, Nat.testBit_or, Nat.testBit_two_pow]
    by_cases q : i = j
    · subst q; simp
    · rw [if_neg q, decide_eq_false (fun z => q z.symm)]; simp
theorem wb_dj {x y j : Nat} {b : Bool} (h : x &&& y = 0) (hb : b = true → y.testBit j = false) : wb x j b &&& y = 0 := by
  apply Nat.eq_of_testBit_eq
  intro i
  have h1 : (x &&& y).testBit i = false := by rw [h]; exact Nat.zero_testBit i
  rw [Nat.testBit_and] at h1
  rw [Nat.testBit_and, wbt_bit, Nat.zero_testBit]
  by_cases q : i = j
  · rw [if_pos q, q]
    cases b
    · rfl
    · rw [hb rfl]; rfl
  · rw [if_neg q]; exact h1
/-- a bit of a rule put: the row that stands then -/
theorem put_ne {x y w : Nat} {b : Bool} (h : b = true → y.testBit w = false) (hy : b = false → y.testBit w = false) {j : Nat} : va_up (rwv x y) w (if b then nI 1 else nI 0) j = rwv (wb x w b) y j := by
  by_cases q : j = w
  · subst q
    rw [va_up_self]
    unfold rwv
    rw [wbt_bit, if_pos rfl]
    cases b
    · rw [hy rfl]; rfl
    · rfl
  · rw [va_up_ne _ _ q]
    unfold rwv
    rw [wbt_bit, if_neg q]
theorem put_sp {x y w : Nat} {b : Bool} (h : x.testBit w = false) {j : Nat} : va_up (rwv x y) w (if b then -1 else nI 0) j = rwv x (wb y w b) j := by
  by_cases q : j = w
  · subst q
    rw [va_up_self]
    unfold rwv
    rw [wbt_bit, if_pos rfl, h]
    cases b <;> rfl
  · rw [va_up_ne _ _ q]
    unfold rwv
    rw [wbt_bit, if_neg q]
theorem vup_all {p : Nat → Prop} {ne : Nat → Nat} {w x : Nat} (h : ∀ j, j < 6 → p (ne j)) (hx : p x) : ∀ j, j < 6 → p (va_up ne w x j) := fun j hj => by
  by_cases q : j = w
  · rw [q, va_up_self]; exact hx
  · rw [va_up_ne _ _ q]; exact h j hj
theorem stc_ok {w k rc : Nat} {b : Bool} {ag : Nat → Nat} (hw : w < rc) (hrc : rc ≤ 6) (hk : k < 16) (h : b = true → (ag w).testBit k = false) : stc (nI w) (nI k) b rc ag = 0 := by
  unfold stc
  rw [if_pos ⟨hp_nI2 hw (by omega), hp_nI2 hk (by decide)⟩, vN_nI (by omega), vN_nI (by omega)]
  rw [if_neg]
  rintro ⟨q1, q2⟩
  rw [h q1] at q2; cases q2
theorem stc_no {w k rc : Nat} {ag : Nat → Nat} (hw : w < rc) (hrc : rc ≤ 6) (hk : k < 16) (h : (ag w).testBit k = true) : stc (nI w) (nI k) true rc ag = 2 := by
  unfold stc
  rw [if_pos ⟨hp_nI2 hw (by omega), hp_nI2 hk (by decide)⟩, vN_nI (by omega), vN_nI (by omega), if_pos ⟨rfl, h⟩]
section PR5
variable {p : Program} {l : Launch} {e : Env} {R : Room} {s : State} {m : MethodId} {args : Array Value} {below : List Frame} {meth : Method} {c : Code} {H H0 : Heap} {locs : List Loc} {cells slots : Nat} {Q : State → Prop}
variable {cc : ByteArray} {pc : Nat} {ls : Array Slot} {rest st0 : List Value} {A : Nat → Prop} {G : cG} {gr : ClassId} {ws wc wr X : va_W} {P L RR : List Nat} {f : Nat → va_E} {a n : Nat}
/-- a place of a rule's row is written -/
theorem p_iastR (hx : p.tables.exec = Jvm.exec) (hb : c.code = cc) (hK : va_K G.1 vwCl (cTy G) s) (hP : va_P G.1 vwCl (X ++ va_pl P f) H) (hD : va_D A (X ++ va_pl P f)) (hS : va_S A H0 H locs) {g : Nat → Int32} (hI : fI G P f a n g) {i v : Int32} {j : Nat} (hi : i = nI j) (hj : j < n) (hj2 : j < 2 ^ 31) (hdg : decode cc pc = .ok (.iastore, 1))
    (kk : ∀ (z : Nat → Int32) (H1 : Heap) (locs1 : List Loc), (∀ j9, j9 < n → z j9 = va_up g j v j9) → va_P G.1 vwCl (X ++ va_pl P (va_up f a (.inl (G.2.1, n, .inl z)))) H1 → va_D A (X ++ va_pl P (va_up f a (.inl (G.2.1, n, .inl z)))) → va_S A H0 H1 locs1 → W p l e R s m args below meth c H1 locs1 cells slots Q (F0 m (pc + 1) ls rest)) :
    W p l e R s m args below meth c H locs cells slots Q (F0 m pc ls (.int v :: .int i :: .ref a :: rest)) := by
  obtain ⟨h1, h, h2, h3⟩ := hI
  obtain ⟨k, hk⟩ := va_pl_get (X := X) (f := f) h1
  subst hi
  refine va_iast hx hb hK hP hD hS k 0 (by rw [hk, h2]) rfl (p_in hj hj2) hdg (fun H1 locs1 hP1 hD1 hS1 => ?_)
  rw [aF_upd _ hj2, va_pl_set hD h1 hk] at hP1 hD1
  refine kk (va_up h j v) H1 locs1 (fun j9 h9 => ?_) hP1 hD1 hS1
  by_cases q : j9 = j
  · rw [q, va_up_self, va_up_self]
  · rw [va_up_ne _ _ q, va_up_ne _ _ q, h3 j9 h9]
/-- a place that is come to more than once -/
theorem p_cut {pcJ : Nat} {rJ : List Value} (kk : W p l e R s m args below meth c H locs cells slots Q (F0 m pcJ ls rJ)) (br : W p l e R s m args below meth c H locs cells slots Q (F0 m pcJ ls rJ) → W p l e R s m args below meth c H locs cells slots Q (F0 m pc ls st0)) : W p l e R s m args below meth c H locs cells slots Q (F0 m pc ls st0) := br kk
end PR5
