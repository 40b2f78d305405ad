/-! ===== more of the ends of searches; bits; rows ===== -/
theorem hst_no {sp : Nat → Bool} {x : hS4} (h : (hst sp x).1 = false) : (hst sp x).2.1 = x.1 ∧ (hst sp x).2.2.2.2 = x.2.2.2 ∧ (hIn x → (hst sp x).2.2.2.1.length ≤ 1798) := by
  obtain ⟨d, n, K, F⟩ := x
  have key : hIn (d, n, K, F) → ¬ cnt d 24 ≤ 1 → ¬ n < cnt d 24 → K.length + 2 * n ≤ 1798 := fun hI c c4 => by
    obtain ⟨h1, h2, h3, h4⟩ := hI
    simp only at h1 h2 h3 h4
    have hm := cnt_le d 24
    have := hph_num3 (cnt d 24) (by omega) n (by omega) h2 (by omega)
    omega
  by_cases c : cnt d 24 ≤ 1
  · rw [hst_0 c]; exact ⟨rfl, rfl, fun hI => by have := hI.2.2.2; simp only at this; show K.length ≤ 1798; omega⟩
  · obtain ⟨o1, K1, e1⟩ : ∃ o K1, fst1 sp (pto d n) n 0 K = (o, K1) := ⟨_, _, rfl⟩
    have hL1 := fst1_mn _ _ _ _ _ _ e1
    rcases o1 with _ | k1
    · by_cases c2 : 2 < n
      · obtain ⟨o2, K2, e2⟩ : ∃ o K2, fst1 sp (fun k => nd d (pto d n k)) n 0 K1 = (o, K2) := ⟨_, _, rfl⟩
        have hL2 := fst1_mn _ _ _ _ _ _ e2
        rcases o2 with _ | k2
        · by_cases c4 : n < cnt d 24
          · rw [hst_3a c e1 c2 e2 c4] at h; cases h
          · rw [hst_4a c e1 c2 e2 c4]; exact ⟨rfl, rfl, fun hI => by have := key hI c c4; show K2.length ≤ 1798; omega⟩
        · rw [hst_2 c e1 c2 e2] at h; cases h
      · by_cases c4 : n < cnt d 24
        · rw [hst_3b c e1 c2 c4] at h; cases h
        · rw [hst_4b c e1 c2 c4]; exact ⟨rfl, rfl, fun hI => by have := key hI c c4; show K1.length ≤ 1798; omega⟩
    · rw [hst_1 c e1] at h; cases h
theorem hrn_bd (sp : Nat → Bool) : ∀ f x, hIn x → x.2.2.2.length % 5 = 0 → x.2.2.2.length + 5 * f ≤ 640 → (hrn sp f x).1 < 2 ^ 24 ∧ (hrn sp f x).2.2.2.length % 5 = 0 ∧ (hrn sp f x).2.2.2.length ≤ 640 ∧ (hrn sp f x).2.2.1.length ≤ 1798 ∧ (x.1 < 2 ^ 23 → (hrn sp f x).1 < 2 ^ 23)
  | 0, x, h, h5, hF => by
    obtain ⟨q1, q2, q3, q4⟩ := h
    exact ⟨q1, h5, by show x.2.2.2.length ≤ 640; omega, by show x.2.2.1.length ≤ 1798; omega, fun q => q⟩
  | f + 1, x, h, h5, hF => by
    cases e : (hst sp x).1
    · rw [hrn_no e]; obtain ⟨q1, q2, q3⟩ := hst_no e; rw [q1, q2]; exact ⟨h.1, h5, by omega, q3 h, id⟩
    · obtain ⟨a, b, c, d⟩ := hst_ok sp x h e
      rw [hrn_go e]
      obtain ⟨r1, r2, r3, r4, r5⟩ := hrn_bd sp f (hst sp x).2 a (by omega) (by omega)
      exact ⟨r1, r2, r3, r4, fun q => r5 (d q)⟩
theorem hal_bd {sp : Nat → Bool} {w d2 n2 : Nat} {K2 : List Nat} {F2 : List Int32} (hw : w < 2 ^ 24) (hR : hal sp w = (d2, n2, K2, F2)) : d2 < 2 ^ 24 ∧ F2.length % 5 = 0 ∧ F2.length ≤ 640 ∧ K2.length ≤ 1798 ∧ (w < 2 ^ 23 → d2 < 2 ^ 23) := by
  cases hs : sp w
  · rw [hal_f hs] at hR; cases hR; exact ⟨by decide, rfl, by decide, by show 1 ≤ 1798; decide, fun _ => by decide⟩
  · obtain ⟨a, b, c⟩ := hal_m hw hs hR
    have := hrn_bd sp 128 _ a rfl (Nat.le_refl _)
    rw [c] at this
    exact this
theorem bI_inj {a b : Bool} (h : bI a = bI b) : a = b := by
  cases a <;> cases b <;> first | rfl | (exact absurd h (by decide))
theorem wb_x {bits j : Nat} {b : Bool} (h : ¬ bits.testBit j = b) : bits ^^^ 2 ^ j = wb bits j b := by
  apply Nat.eq_of_testBit_eq
  intro i
  unfold wb
  cases b
  · have h2 : bits.testBit j = true := by cases e : bits.testBit j; exact absurd e h; rfl
    rw [if_neg (by decide), nd_bit, Nat.testBit_xor, Nat.testBit_two_pow]
    by_cases q : j = i
    · subst q; simp [h2]
    · simp [q]
  · have h2 : bits.testBit j = false := by cases e : bits.testBit j; rfl; exact absurd e h
    rw [if_pos rfl, Nat.testBit_or, Nat.testBit_xor, Nat.testBit_two_pow]
    by_cases q : j = i
    · subst q; simp [h2]
    · simp [q]
theorem wb_same {bits j : Nat} {b : Bool} (h : bits.testBit j = b) : wb bits j b = bits := by
  apply Nat.eq_of_testBit_eq
  intro i
  unfold wb
  cases b
  · rw [if_neg (by decide), nd_bit, Nat.testBit_two_pow]
    by_cases q : j = i
    · subst q; simp [h]
    · simp [q]
  · rw [if_pos rfl, Nat.testBit_or, Nat.testBit_two_pow]
    by_cases q : j = i
    · subst q; simp [h]
    · simp [q]
theorem va_up_same (f : Nat → Nat) (j : Nat) : va_up f j (f j) = f := by
  funext i
  by_cases q : i = j
  · subst q; simp [va_up]
  · simp [va_up, q]
theorem FR_cpy {fx gx : Nat → Int32} {F : List Int32} {n : Nat} (h : FR fx F) (hn : n = F.length) : FR (va_cpy fx gx 0 0 n) F := by
  intro j hj
  unfold va_cpy
  rw [if_pos ⟨Nat.zero_le _, by omega⟩, Nat.zero_add, Nat.sub_zero]
  exact h j hj
/-- a row while a place comes back, moved down to behind i -/
def rst (k : Nat → Nat) (j n i : Nat) : Nat → Nat := fun q => if i < q ∧ q < n then k q else tkt k j (n - 1) q
theorem rst_0 (k : Nat → Nat) (j n : Nat) : rst k j n (n - 1) = tkt k j (n - 1) := by
  funext q
  unfold rst
  rw [if_neg (by omega)]
theorem rst_s (k : Nat → Nat) {j n i : Nat} (h : j < i) (hi : i < n) : va_up (rst k j n i) i (rst k j n i (i - 1)) = rst k j n (i - 1) := by
  funext q
  by_cases e : q = i
  · subst e
    simp only [va_up, rst, tkt]
    rw [if_pos trivial, if_neg (by omega), if_pos (by omega), if_pos (by omega), Nat.sub_add_cancel (by omega)]
  · simp only [va_up, rst]
    rw [if_neg e]
    by_cases c : i < q ∧ q < n
    · rw [if_pos c, if_pos (by omega)]
    · rw [if_neg c, if_neg (by omega)]
theorem rst_e (k : Nat → Nat) {j n : Nat} (h : j < n) : va_up (rst k j n j) j (k j) = k := by
  funext q
  by_cases e : q = j
  · subst e; simp [va_up]
  · simp only [va_up, rst, tkt]
    rw [if_neg e]
    by_cases c : j < q ∧ q < n
    · rw [if_pos c]
    · rw [if_neg c, if_neg (by omega)]
/-- the tastings without a place -/
def wth (k ne sp : Nat → Nat) (n rc p : Nat) : Nat := (hal (spl (tkt k p (n - 1)) ne sp (n - 1) rc) (2 ^ (n - 1) - 1)).2.2.1.length
theorem hal_K (sp : Nat → Bool) {w : Nat} (hw : w < 2 ^ 24) : (hal sp w).2.2.1.length ≤ 1798 := (hal_bd (sp := sp) hw rfl).2.2.2.1
theorem wth_le {k ne sp : Nat → Nat} {n rc : Nat} (hn : n ≤ 24) (p : Nat) : wth k ne sp n rc p ≤ 1798 :=
  hal_K _ (by have := two_pow24 (n := n - 1) (by omega); omega)
theorem oI_m1 {o : Option Nat} (h : ∀ k, o = some k → k < 2 ^ 31) : oI o = -1 ↔ o = none := by
  rcases o with _ | k
  · exact ⟨fun _ => rfl, fun _ => rfl⟩
  · exact ⟨fun q => absurd q (nI_nem1 (h k rfl)), fun q => by cases q⟩
theorem cnt_0 : ∀ n, cnt 0 n = 0
  | 0 => rfl
  | n + 1 => by rw [cnt_f (Nat.zero_testBit n), cnt_0 n]
theorem cnt_pos {d n : Nat} (h : ¬ d = 0) (hd : d < 2 ^ n) : 0 < cnt d n := by
  rcases Nat.eq_zero_or_pos (cnt d n) with q | q
  · exfalso
    apply h
    apply Nat.eq_of_testBit_eq
    intro i
    rw [Nat.zero_testBit]
    rcases Nat.lt_or_ge i n with z | z
    · cases e : d.testBit i
      · rfl
      · have := cnt_kth e z; omega
    · exact Nat.testBit_lt_two_pow (Nat.lt_of_lt_of_le hd (Nat.pow_le_pow_right (by decide) z))
  · exact q
theorem adc_0 {x : Int32} {n : Nat} (h : hp x 16 = true) (h2 : ¬ n = 24) : adc x n = 0 := by unfold adc; rw [if_pos h, if_neg h2]
theorem wld_0 {sp : Nat → Bool} {w9 d2 n2 : Nat} {K2 : List Nat} {F2 : List Int32} (h : hal sp w9 = (d2, n2, K2, F2)) : wld sp w9 0 = d2 ∧ wld sp w9 1 = K2.length ∧ wld sp w9 2 = F2.length / 5 := by
  refine ⟨?_, ?_, ?_⟩
  · show (hal sp w9).1 = d2; rw [h]
  · show (hal sp w9).2.2.1.length = _; rw [h]
  · show (hal sp w9).2.2.2.length / 5 = _; rw [h]
theorem wld_3 {sp : Nat → Bool} {w9 d2 : Nat} {K2 : List Nat} (h : obl sp w9 = (d2, K2)) : wld sp w9 3 = d2 ∧ wld sp w9 4 = K2.length := by
  refine ⟨?_, ?_⟩
  · show (obl sp w9).1 = d2; rw [h]
  · show (obl sp w9).2.length = _; rw [h]
/-- the checksum of a whole state -/
def dgs (k ne sp : Nat → Nat) (n rc D Kq Kt al : Nat) (F : List Int32) : Int64 :=
  mx (mxn (fun w => nI (wld (spl k ne sp n rc) (2 ^ n - 1) w)) 5
    (mxn (fun j => F.getD j 0) (5 * (F.length / 5))
      (mxn (fun j => nI (plc D j)) (cnt D 24)
        (mxq (fun r w => nI (tld k ne sp n Kq r w)) 5 rc
          (mxn (fun p => nI (k p)) n
            (mxn (fun w => nI (cfc k ne sp n rc D (F.length / 5) Kt al w)) 7 1499))))))
    (nI (lst ne (kds k (2 ^ n - 1) n) rc))
theorem mxn_0 (f : Nat → Int32) (d : Int64) : mxn f 0 d = d := rfl
theorem mxq_0 (f : Nat → Nat → Int32) (w : Nat) (d : Int64) : mxq f w 0 d = d := rfl
