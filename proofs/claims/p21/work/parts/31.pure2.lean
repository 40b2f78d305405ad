/-! ===== what the steps tell, in a row of ints ===== -/
def FR (f : Nat → Int32) (F : List Int32) : Prop := ∀ j, j < F.length → f j = F.getD j 0
theorem FR_nil (f : Nat → Int32) : FR f [] := fun _ h => absurd h (Nat.not_lt_zero _)
theorem FR_5 {f : Nat → Int32} {F : List Int32} {st : Nat} (h : FR f F) (hF : F.length = 5 * st) (a b c d e : Int32) : FR (va_up (va_up (va_up (va_up (va_up f (st * 5) a) (st * 5 + 1) b) (st * 5 + 2) c) (st * 5 + 3) d) (st * 5 + 4) e) (F ++ [a, b, c, d, e]) := by
  intro j hj
  rw [List.length_append] at hj
  simp only [List.length_cons, List.length_nil] at hj
  unfold va_up
  rw [List.getD_eq_getElem?_getD]
  by_cases q : j < F.length
  · rw [if_neg (by omega), if_neg (by omega), if_neg (by omega), if_neg (by omega), if_neg (by omega), List.getElem?_append_left q, ← List.getD_eq_getElem?_getD]
    exact h j q
  · rw [List.getElem?_append_right (by omega), hF]
    have h5 : j - 5 * st = 0 ∨ j - 5 * st = 1 ∨ j - 5 * st = 2 ∨ j - 5 * st = 3 ∨ j - 5 * st = 4 := by omega
    rcases h5 with z | z | z | z | z
    · rw [z, if_neg (by omega), if_neg (by omega), if_neg (by omega), if_neg (by omega), if_pos (by omega)]; rfl
    · rw [z, if_neg (by omega), if_neg (by omega), if_neg (by omega), if_pos (by omega)]; rfl
    · rw [z, if_neg (by omega), if_neg (by omega), if_pos (by omega)]; rfl
    · rw [z, if_neg (by omega), if_pos (by omega)]; rfl
    · rw [z, if_pos (by omega)]; rfl
/-! ===== the first places of a dish ===== -/
def alw (d : Nat) : Nat → Nat
  | 0 => 0
  | n + 1 => if d.testBit n then alw d n ||| 2 ^ n else alw d n
theorem alw_t {d n : Nat} (h : d.testBit n = true) : alw d (n + 1) = alw d n ||| 2 ^ n := if_pos h
theorem alw_f {d n : Nat} (h : d.testBit n = false) : alw d (n + 1) = alw d n := if_neg (by rw [h]; decide)
theorem cnt_t {d n : Nat} (h : d.testBit n = true) : cnt d (n + 1) = cnt d n + 1 := by rw [cnt_succ, if_pos h]
theorem cnt_f {d n : Nat} (h : d.testBit n = false) : cnt d (n + 1) = cnt d n := by rw [cnt_succ, if_neg (by rw [h]; decide)]; rfl
theorem prt_f {d a b n : Nat} (h : d.testBit n = false ∨ ¬ cnt d n < b) : prt d a b (n + 1) = prt d a b n := by
  show (if d.testBit n && (decide (a ≤ cnt d n) && decide (cnt d n < b)) then prt d a b n ||| 2 ^ n else prt d a b n) = _
  rcases h with h | h
  · rw [h, Bool.false_and, if_neg (by decide)]
  · rw [decide_eq_false h, Bool.and_false, Bool.and_false, if_neg (by decide)]
theorem prt_t {d b n : Nat} (h : d.testBit n = true) (h2 : cnt d n < b) : prt d 0 b (n + 1) = prt d 0 b n ||| 2 ^ n := by
  show (if d.testBit n && (decide (0 ≤ cnt d n) && decide (cnt d n < b)) then prt d 0 b n ||| 2 ^ n else prt d 0 b n) = _
  rw [h, decide_eq_true h2, decide_eq_true (Nat.zero_le _)]; rfl
theorem prt_all (d : Nat) {b : Nat} : ∀ n, cnt d n ≤ b → prt d 0 b n = alw d n
  | 0, _ => rfl
  | n + 1, h => by
    cases hb : d.testBit n
    · rw [cnt_f hb] at h
      rw [prt_f (Or.inl hb), alw_f hb, prt_all d n h]
    · rw [cnt_t hb] at h
      rw [prt_t hb (by omega), alw_t hb, prt_all d n (by omega)]
theorem fp_t {d i : Nat} {g : Nat → Nat} (hb : d.testBit i = true) (h : ∀ j, j ≤ cnt d i → g j = prt d 0 j i) : ∀ j, j ≤ cnt d (i + 1) → va_up g (cnt d i + 1) (alw d i ||| 2 ^ i) j = prt d 0 j (i + 1) := by
  intro j hj
  rw [cnt_t hb] at hj
  unfold va_up
  by_cases q : j = cnt d i + 1
  · rw [if_pos q, q, prt_all d (i + 1) (by rw [cnt_t hb]; exact Nat.le_refl _), alw_t hb]
  · rw [if_neg q, h j (by omega), prt_f (Or.inr (by omega))]
theorem fp_f {d i : Nat} {g : Nat → Nat} (hb : d.testBit i = false) (h : ∀ j, j ≤ cnt d i → g j = prt d 0 j i) : ∀ j, j ≤ cnt d (i + 1) → g j = prt d 0 j (i + 1) := by
  intro j hj
  rw [cnt_f hb] at hj
  rw [h j hj, prt_f (Or.inl hb)]
/-! ===== a turn, case by case ===== -/
theorem hst_0 {sp : Nat → Bool} {d n : Nat} {K : List Nat} {F : List Int32} (h : cnt d 24 ≤ 1) : hst sp (d, n, K, F) = (false, (d, n, K, F)) := if_pos h
theorem hst_1 {sp : Nat → Bool} {d n k : Nat} {K K1 : List Nat} {F : List Int32} (h : ¬ cnt d 24 ≤ 1) (e1 : fst1 sp (pto d n) n 0 K = (some k, K1)) : hst sp (d, n, K, F) = (true, (pto d n k, 2, K1, F ++ [nI (cnt d 24), nI n, nI 1, nI k, nI (pto d n k)])) := by
  unfold hst; simp only; rw [if_neg h, e1]
theorem hst_2 {sp : Nat → Bool} {d n k : Nat} {K K1 K2 : List Nat} {F : List Int32} (h : ¬ cnt d 24 ≤ 1) (e1 : fst1 sp (pto d n) n 0 K = (none, K1)) (h3 : 2 < n) (e2 : fst1 sp (fun k => nd d (pto d n k)) n 0 K1 = (some k, K2)) : hst sp (d, n, K, F) = (true, (nd d (pto d n k), n - 1, K2, F ++ [nI (cnt d 24), nI n, nI 2, nI k, nI (nd d (pto d n k))])) := by
  unfold hst; simp only; rw [if_neg h, e1]; simp only; rw [if_pos h3, e2]
theorem hst_3a {sp : Nat → Bool} {d n : Nat} {K K1 K2 : List Nat} {F : List Int32} (h : ¬ cnt d 24 ≤ 1) (e1 : fst1 sp (pto d n) n 0 K = (none, K1)) (h3 : 2 < n) (e2 : fst1 sp (fun k => nd d (pto d n k)) n 0 K1 = (none, K2)) (h4 : n < cnt d 24) : hst sp (d, n, K, F) = (true, (d, min (n * 2) (cnt d 24), K2, F ++ [nI (cnt d 24), nI n, nI 3, -1, nI d])) := by
  unfold hst; simp only; rw [if_neg h, e1]; simp only; rw [if_pos h3, e2]; simp only; rw [if_pos h4]
theorem hst_3b {sp : Nat → Bool} {d n : Nat} {K K1 : List Nat} {F : List Int32} (h : ¬ cnt d 24 ≤ 1) (e1 : fst1 sp (pto d n) n 0 K = (none, K1)) (h3 : ¬ 2 < n) (h4 : n < cnt d 24) : hst sp (d, n, K, F) = (true, (d, min (n * 2) (cnt d 24), K1, F ++ [nI (cnt d 24), nI n, nI 3, -1, nI d])) := by
  unfold hst; simp only; rw [if_neg h, e1]; simp only; rw [if_neg h3]; simp only; rw [if_pos h4]
theorem hst_4a {sp : Nat → Bool} {d n : Nat} {K K1 K2 : List Nat} {F : List Int32} (h : ¬ cnt d 24 ≤ 1) (e1 : fst1 sp (pto d n) n 0 K = (none, K1)) (h3 : 2 < n) (e2 : fst1 sp (fun k => nd d (pto d n k)) n 0 K1 = (none, K2)) (h4 : ¬ n < cnt d 24) : hst sp (d, n, K, F) = (false, (d, n, K2, F)) := by
  unfold hst; simp only; rw [if_neg h, e1]; simp only; rw [if_pos h3, e2]; simp only; rw [if_neg h4]
theorem hst_4b {sp : Nat → Bool} {d n : Nat} {K K1 : List Nat} {F : List Int32} (h : ¬ cnt d 24 ≤ 1) (e1 : fst1 sp (pto d n) n 0 K = (none, K1)) (h3 : ¬ 2 < n) (h4 : ¬ n < cnt d 24) : hst sp (d, n, K, F) = (false, (d, n, K1, F)) := by
  unfold hst; simp only; rw [if_neg h, e1]; simp only; rw [if_neg h3]; simp only; rw [if_neg h4]
/-- an answer that is a number, or -1 -/
def oI (o : Option Nat) : Int32 := match o with | none => -1 | some k => nI k
/-- a counter that goes down to -1 -/
def pI (i : Nat) : Int32 := nI i + Int32.ofInt (-1)
theorem pI_s (j : Nat) : pI (j + 1) = nI j := by
  unfold pI; rw [nI_dec (Nat.succ_pos j)]; rfl
theorem pI_0 {i : Nat} (hi : i ≤ 24) : pI i < 0 ↔ i = 0 := by
  cases i with
  | zero => exact ⟨fun _ => rfl, fun _ => by decide +kernel⟩
  | succ j => rw [pI_s, nI_lt0 (by omega)]; omega
theorem nd_pow_f {d j : Nat} (h : nd d (2 ^ j) = d) : d.testBit j = false := by
  have h1 := nd_bit d (2 ^ j) j
  rw [h, Nat.testBit_two_pow_self, Bool.not_true, Bool.and_false] at h1
  exact h1
theorem nd_pow_t {d j : Nat} (h : ¬ nd d (2 ^ j) = d) : d.testBit j = true := by
  cases hb : d.testBit j
  · refine absurd (Nat.eq_of_testBit_eq fun i => ?_) h
    rw [nd_bit, Nat.testBit_two_pow]
    by_cases q : j = i
    · subst q; rw [hb]; rfl
    · rw [decide_eq_false q, Bool.not_false, Bool.and_true]
  · rfl
theorem lk_nil (x : Nat) : lk [] x = [x] := lk_new List.not_mem_nil
theorem cnt_kth {d p i : Nat} (hb : d.testBit i = true) (h : i < p) : cnt d i < cnt d p := by
  have h1 := cnt_mono d (i := i + 1) (j := p) h
  rw [cnt_t hb] at h1
  omega
