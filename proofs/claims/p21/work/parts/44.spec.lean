/-! ===== what the calls answer: codes, answers, new states, over numbers ===== -/
def vN (x : Int32) : Nat := x.toNatClampNeg
theorem vN_nI {j : Nat} (h : j < 2 ^ 31) : vN (nI j) = j := nI_clamp h
theorem hp_of2 {x : Int32} {n : Nat} (hn : n < 2 ^ 31) (h : hp x n = true) : ∃ j, j < n ∧ x = nI j := by
  unfold hp at h
  rw [Bool.and_eq_true, decide_eq_true_eq, decide_eq_true_eq] at h
  rcases pk_ix x (n := n) hn with q | q | q
  · exact absurd h.1 (fa_of_lt q).2.1
  · exact absurd q (fa_of_lt h.2).2.1
  · exact q
theorem hp_nI2 {j n : Nat} (hj : j < n) (hn : n < 2 ^ 31) : hp (nI j) n = true :=
  hp_t (by rw [nI_lt0 (by omega)]; omega) (by rw [nI_leI (by omega) (by omega)]; omega)
theorem inI_n (x : Int32) {j : Nat} (hj : j + 1 < 2 ^ 31) : inI x (nI 0) (nI j) = hp x (j + 1) := by
  have key : decide (x ≤ nI j) = decide (x < nI (j + 1)) := by
    apply decide_eq_decide.mpr
    rw [fa_le, fa_lt, nI_toInt (by omega), nI_toInt (by omega)]
    omega
  unfold inI hp
  rw [nI_0, key]
theorem inI_m (x : Int32) {n : Nat} (hn : n < 2 ^ 30) : inI x (nI 0) (nI n - nI 1) = hp x n := by
  have key : decide (x ≤ nI n - nI 1) = decide (x < nI n) := by
    apply decide_eq_decide.mpr
    rw [fa_le, fa_lt, pk_sub_toInt (by omega) (by omega), nI_toInt (by omega)]
    omega
  unfold inI hp
  rw [nI_0, key]
theorem hdi_hp (x : Int32) {n : Nat} (hn : n ≤ 24) : hdi x n = hp x (2 ^ n) := by
  have hp24 := two_pow24 hn
  unfold hdi hp
  by_cases h0 : x < 0
  · have e : decide (0 ≤ x) = false := decide_eq_false (fun h => (fa_of_lt h0).2.1 h)
    rw [e, Bool.false_and, Bool.false_and]
  · obtain ⟨d, hd, rfl⟩ := nI_of h0
    congr 1
    apply decide_eq_decide.mpr
    rw [nI_shr hd (by omega), nI_ltI hd (by omega), Nat.shiftRight_eq_div_pow, nI_eq0 (by have := Nat.div_le_self d (2 ^ n); omega), Nat.div_eq_zero_iff]
    omega
theorem inI_w (x : Int32) {n : Nat} (hn : n ≤ 24) : inI x (nI 0) (nI (2 ^ n - 1)) = hdi x n := by
  have hp24 := two_pow24 hn
  rw [hdi_hp x hn, inI_n x (by omega), show 2 ^ n - 1 + 1 = 2 ^ n by omega]
def adc (x : Int32) (n : Nat) : Nat := if hp x 16 = true then (if n = 24 then 2 else 0) else 1
def drc (x : Int32) (n : Nat) : Nat := if hp x n = true then 0 else 1
def rlc (rc : Nat) : Nat := if rc = 6 then 1 else 0
def stc (x1 x2 : Int32) (b : Bool) (rc : Nat) (ag : Nat → Nat) : Nat := if hp x1 rc = true ∧ hp x2 16 = true then (if b = true ∧ (ag (vN x1)).testBit (vN x2) = true then 2 else 0) else 1
def wb (bits p : Nat) (b : Bool) : Nat := if b = true then bits ||| 2 ^ p else nd bits (2 ^ p)
def tw (x1 x2 : Int32) (a b : Nat) : Nat := if hp x1 a = true ∧ hp x2 b = true then 0 else 1
def tld (k ne sp : Nat → Nat) (n Kq j w : Nat) : Nat :=
  if w = 0 then ne j else if w = 1 then sp j else if w = 2 then cnt (ne j) 24 else if w = 3 then (if hld (ne j) (sp j) (kds k (2 ^ n - 1) n) = true then 1 else 0) else (if hld (ne j) (sp j) Kq = true then 1 else 0)
def cfc (k ne sp : Nat → Nat) (n rc D st Kt al w : Nat) : Nat :=
  if w = 0 then n else if w = 1 then rc else if w = 2 then hcn ne sp (kds k (2 ^ n - 1) n) rc else if w = 3 then cnt D 24 else if w = 4 then st else if w = 5 then Kt else al
def wld (sp : Nat → Bool) (w9 w : Nat) : Nat :=
  if w = 0 then (hal sp w9).1 else if w = 1 then (hal sp w9).2.2.1.length else if w = 2 then (hal sp w9).2.2.2.length / 5 else if w = 3 then (obl sp w9).1 else (obl sp w9).2.length
/-- no place can be spared, of the first n -/
def tgh (sp : Nat → Bool) (d : Nat) : Nat → Bool
  | 0 => true
  | p + 1 => tgh sp d p && !(d.testBit p && sp (nd d (2 ^ p)))
theorem tgh_k {sp : Nat → Bool} {d p : Nat} (h : d.testBit p = false ∨ sp (nd d (2 ^ p)) = false) : tgh sp d (p + 1) = tgh sp d p := by
  show (tgh sp d p && !(d.testBit p && sp (nd d (2 ^ p)))) = _
  rcases h with h | h
  · rw [h, Bool.false_and, Bool.not_false, Bool.and_true]
  · rw [h, Bool.and_false, Bool.not_false, Bool.and_true]
theorem tgh_f {sp : Nat → Bool} {d p : Nat} (h : d.testBit p = true) (h2 : sp (nd d (2 ^ p)) = true) : ∀ n, p < n → tgh sp d n = false
  | 0, q => absurd q (Nat.not_lt_zero p)
  | n + 1, q => by
    show (tgh sp d n && !(d.testBit n && sp (nd d (2 ^ n)))) = false
    rcases Nat.lt_or_ge p n with z | z
    · rw [tgh_f h h2 n z, Bool.false_and]
    · have e : p = n := by omega
      subst e
      rw [h, h2]; simp
theorem tgh_skip (sp : Nat → Bool) (n d : Nat) (hd : d < 2 ^ n) : ∀ q, tgh sp d (n + q) = tgh sp d n
  | 0 => rfl
  | q + 1 => by
    have ih := tgh_skip sp n d hd q
    rw [← ih]
    exact tgh_k (Or.inl (Nat.testBit_lt_two_pow (Nat.lt_of_lt_of_le hd (Nat.pow_le_pow_right (by decide) (Nat.le_add_right n q)))))
def tig (sp : Nat → Bool) (d : Nat) : Bool := sp d && tgh sp d 24
/-- the place with the fewest, of the first n -/
def avb (f : Nat → Nat) : Nat → Option Nat × Nat
  | 0 => (none, 0)
  | p + 1 => if (avb f p).1 = none ∨ f p < (avb f p).2 then (some p, f p) else avb f p
theorem avb_t {f : Nat → Nat} {p : Nat} (h : (avb f p).1 = none ∨ f p < (avb f p).2) : avb f (p + 1) = (some p, f p) := if_pos h
theorem avb_f {f : Nat → Nat} {p : Nat} (h : ¬ ((avb f p).1 = none ∨ f p < (avb f p).2)) : avb f (p + 1) = avb f p := if_neg h
theorem avb_lt (f : Nat → Nat) : ∀ p i, (avb f p).1 = some i → i < p
  | 0, i, h => by cases h
  | p + 1, i, h => by
    by_cases q : (avb f p).1 = none ∨ f p < (avb f p).2
    · rw [avb_t q] at h; cases h; exact Nat.lt_succ_self p
    · rw [avb_f q] at h; exact Nat.lt_succ_of_lt (avb_lt f p i h)
theorem avb_le {f : Nat → Nat} {b : Nat} (hf : ∀ p, f p ≤ b) : ∀ p, (avb f p).2 ≤ b
  | 0 => Nat.zero_le _
  | p + 1 => by
    by_cases q : (avb f p).1 = none ∨ f p < (avb f p).2
    · rw [avb_t q]; exact hf p
    · rw [avb_f q]; exact avb_le hf p
/-- the place of number j of a dish -/
def plc (d j : Nat) : Nat := fa_first (fun p => d.testBit p && decide (cnt d p = j)) 24
theorem kth_ex (d : Nat) {j : Nat} : ∀ n, j < cnt d n → ∃ p, p < n ∧ d.testBit p = true ∧ cnt d p = j
  | 0, h => absurd h (Nat.not_lt_zero j)
  | n + 1, h => by
    cases hb : d.testBit n
    · rw [cnt_f hb] at h
      obtain ⟨p, h1, h2⟩ := kth_ex d n h
      exact ⟨p, by omega, h2⟩
    · rw [cnt_t hb] at h
      rcases Nat.lt_or_ge j (cnt d n) with q | q
      · obtain ⟨p, h1, h2⟩ := kth_ex d n q
        exact ⟨p, by omega, h2⟩
      · exact ⟨n, Nat.lt_succ_self n, hb, by omega⟩
theorem plc_ok {d j : Nat} (h : j < cnt d 24) : plc d j < 24 ∧ d.testBit (plc d j) = true ∧ cnt d (plc d j) = j := by
  have hlt : plc d j < 24 := by
    rcases Nat.lt_or_ge (plc d j) 24 with q | q
    · exact q
    · obtain ⟨p, h1, h2, h3⟩ := kth_ex d 24 h
      have := fa_first_no (fun p => d.testBit p && decide (cnt d p = j)) 24 p (Nat.lt_of_lt_of_le h1 q)
      simp only [h2, h3, decide_true, Bool.and_self] at this
      cases this
  have := fa_first_yes (fun p => d.testBit p && decide (cnt d p = j)) 24 hlt
  simp only [Bool.and_eq_true, decide_eq_true_eq] at this
  exact ⟨hlt, this⟩
theorem prt_one {d j : Nat} (h : j < cnt d 24) : prt d j (j + 1) 24 = 2 ^ plc d j := by
  obtain ⟨h1, h2, h3⟩ := plc_ok h
  apply Nat.eq_of_testBit_eq
  intro i
  rw [prt_bit, Nat.testBit_two_pow]
  by_cases q : plc d j = i
  · subst q
    rw [h2, h3, decide_eq_true h1, decide_eq_true (Nat.le_refl j), decide_eq_true (Nat.lt_succ_self j), decide_eq_true rfl]; rfl
  · rw [decide_eq_false q]
    cases hb : d.testBit i
    · rw [Bool.false_and, Bool.and_false]
    · have h4 : cnt d i ≠ j := by
        intro z
        rcases Nat.lt_or_ge i (plc d j) with y | y
        · have := cnt_kth hb y; omega
        · have := cnt_kth h2 (show plc d j < i by omega); omega
      by_cases z : j ≤ cnt d i
      · rw [decide_eq_false (show ¬ cnt d i < j + 1 by omega), Bool.and_false, Bool.and_false, Bool.and_false]
      · rw [decide_eq_false z, Bool.false_and, Bool.and_false, Bool.and_false]
/-! ===== sums: the checksum, the mean ===== -/
def mx (d : Int64) (x : Int32) : Int64 := d * 31 + x.toInt64
def mxn (f : Nat → Int32) : Nat → Int64 → Int64
  | 0, d => d
  | n + 1, d => mx (mxn f n d) (f n)
def mxq (f : Nat → Nat → Int32) (w : Nat) : Nat → Int64 → Int64
  | 0, d => d
  | n + 1, d => mxn (f n) w (mxq f w n d)
theorem mxn_add (f : Nat → Int32) (a : Nat) (d : Int64) : ∀ b, mxn f (a + b) d = mxn (fun i => f (a + i)) b (mxn f a d)
  | 0 => rfl
  | b + 1 => by show mx (mxn f (a + b) d) (f (a + b)) = _; rw [mxn_add f a d b]; rfl
theorem mxq_flat (f : Nat → Int32) (w : Nat) (d : Int64) : ∀ n, mxq (fun j i => f (j * w + i)) w n d = mxn f (n * w) d
  | 0 => by rw [Nat.zero_mul]; rfl
  | n + 1 => by
    show mxn (fun i => f (n * w + i)) w (mxq (fun j i => f (j * w + i)) w n d) = _
    rw [mxq_flat f w d n, Nat.succ_mul, mxn_add]
theorem mxn_congr {f g : Nat → Int32} (d : Int64) : ∀ n, (∀ i, i < n → f i = g i) → mxn f n d = mxn g n d
  | 0, _ => rfl
  | n + 1, h => by
    show mx (mxn f n d) (f n) = mx (mxn g n d) (g n)
    rw [mxn_congr d n (fun i hi => h i (by omega)), h n (Nat.lt_succ_self n)]
def sms (ne : Nat → Nat) : Nat → Nat
  | 0 => 0
  | r + 1 => sms ne r + cnt (ne r) 24
theorem sms_le (ne : Nat → Nat) : ∀ r, sms ne r ≤ r * 24
  | 0 => Nat.le_refl 0
  | r + 1 => by have h1 := sms_le ne r; have h2 := cnt_le (ne r) 24; show sms ne r + cnt (ne r) 24 ≤ _; omega
def mnv (ne : Nat → Nat) (rc : Nat) : UInt64 := if rc = 0 then FP.dconst0 else FP.ddiv (FP.i2d (nI (sms ne rc))) (FP.i2d (nI rc))
theorem mean_num : ∀ a, a < 145 → ∀ b, b < 7 → (0 < b → (FP.ddiv (FP.i2d (nI a)) (FP.i2d (nI b)) &&& 0x7fffffffffffffff ≤ 0x7ff0000000000000)) := by decide +kernel
theorem mean_n {a b : Nat} (ha : a < 145) (hb : b < 7) (h : 0 < b) : vf_n64 (FP.ddiv (FP.i2d (nI a)) (FP.i2d (nI b))) := mean_num a ha b hb h
theorem kq_0 (ne sp : Nat → Nat) (j : Nat) : hld (ne j) (sp j) 0 = false := by
  by_cases h : ne j = 0
  · exact hld_f1 h
  · exact hld_f2 (fun z => h (by rw [Nat.zero_and] at z; exact z.symm))
theorem hld_nd {a b kk : Nat} (h : ¬ nd a kk = 0) : hld a b kk = false := hld_f2 (fun z => h (nd_0.mpr z))
