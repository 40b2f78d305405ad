/-! ===== numbers: nI over the ops of ints ===== -/
theorem nI_dec {n : Nat} (h : 0 < n) : nI n + Int32.ofInt (-1) = nI (n - 1) := sb_m1 h
theorem nI_eq0 {a : Nat} (h : a < 2 ^ 31) : nI a = 0 ↔ a = 0 := by rw [← nI_0]; exact nI_eq h (by omega)
theorem nI_ne0I {a : Nat} (h : a < 2 ^ 31) : (¬ nI a = 0) ↔ ¬ a = 0 := not_congr (nI_eq0 h)
theorem nI_neI {a b : Nat} (ha : a < 2 ^ 31) (hb : b < 2 ^ 31) : (¬ nI a = nI b) ↔ ¬ a = b := not_congr (nI_eq ha hb)
theorem nI_lt0 {a : Nat} (h : a < 2 ^ 31) : nI a < 0 ↔ a < 0 := by rw [← nI_0]; exact nI_ltI h (by omega)
theorem nI_ge0 {a : Nat} (h : a < 2 ^ 31) : 0 ≤ nI a ↔ 0 ≤ a := by rw [← nI_0]; exact nI_leI (by omega) h
theorem nI_gt0 {a : Nat} (h : a < 2 ^ 31) : 0 < nI a ↔ 0 < a := by rw [← nI_0]; exact nI_ltI (by omega) h
theorem nI_le0 {a : Nat} (h : a < 2 ^ 31) : nI a ≤ 0 ↔ a ≤ 0 := by rw [← nI_0]; exact nI_leI h (by omega)
theorem nI_max {a b : Nat} (ha : a < 2 ^ 31) (hb : b < 2 ^ 31) : (if nI a < nI b then nI b else nI a) = nI (max a b) := by
  by_cases h : a < b
  · rw [if_pos ((nI_ltI ha hb).mpr h), Nat.max_eq_right (by omega)]
  · rw [if_neg (mt (nI_ltI ha hb).mp h), Nat.max_eq_left (by omega)]
theorem nI_min {a b : Nat} (ha : a < 2 ^ 31) (hb : b < 2 ^ 31) : (if nI b < nI a then nI b else nI a) = nI (min a b) := by
  by_cases h : b < a
  · rw [if_pos ((nI_ltI hb ha).mpr h), Nat.min_eq_right (by omega)]
  · rw [if_neg (mt (nI_ltI hb ha).mp h), Nat.min_eq_left (by omega)]
theorem nI_bv (n : Nat) : (nI n).toBitVec = BitVec.ofNat 32 n := rfl
theorem nI_shr {d p : Nat} (hd : d < 2 ^ 31) (hp : p < 32) : nI d >>> (nI p &&& 31) = nI (d >>> p) := by
  rw [Nat.shiftRight_eq_div_pow]; exact pk_shrN hd _ p (s_l p hp)
theorem nI_shl (a : Nat) {p : Nat} (hp : p < 32) : nI a <<< (nI p &&& 31) = nI (a * 2 ^ p) := by
  apply Int32.toBitVec_inj.mp
  apply BitVec.eq_of_toNat_eq
  rw [pk_shl (nI a) _ p (s_l p hp), nI_bv, nI_bv, BitVec.toNat_ofNat, BitVec.toNat_ofNat, Nat.mod_mul_mod]
theorem nI_one_shl {p : Nat} (hp : p < 32) : nI 1 <<< (nI p &&& 31) = nI (2 ^ p) := by
  rw [nI_shl 1 hp, Nat.one_mul]
theorem nI_ushr {n k : Nat} (hn : n < 2 ^ 32) (hk : k < 32) : ((nI n).toUInt32 >>> ((nI k).toUInt32 &&& Int32.toUInt32 31)).toInt32 = nI (n >>> k) := by
  rw [Nat.shiftRight_eq_div_pow]; exact pk_ushrN hn _ k (s_u k hk)
theorem jF_upd (f : Nat → Int64) {i : Nat} (h : i < 2 ^ 31) (v : Int64) : vp_updL f (nI i).toNatClampNeg v = va_up f i v := by
  rw [nI_clamp h]; rfl
/-- a without the bits of b -/
def nd (a b : Nat) : Nat := a ^^^ (a &&& b)
theorem nd_bit (a b i : Nat) : (nd a b).testBit i = (a.testBit i && !b.testBit i) := by
  unfold nd; rw [Nat.testBit_xor, Nat.testBit_and]; cases a.testBit i <;> cases b.testBit i <;> rfl
theorem nd_lt {a b n : Nat} (h : a < 2 ^ n) : nd a b < 2 ^ n := by
  unfold nd; exact Nat.xor_lt_two_pow h (Nat.lt_of_le_of_lt Nat.and_le_left h)
theorem nI_nd (a b : Nat) : nI a &&& (nI b ^^^ (-1)) = nI (nd a b) := by
  apply b_ext
  intro i hi
  rw [b_and, b_xor, b_m1 i hi]
  show ((nI a).toBitVec.getLsbD i && ((nI b).toBitVec.getLsbD i ^^ true)) = (nI (nd a b)).toBitVec.getLsbD i
  rw [nI_bv, nI_bv, nI_bv, BitVec.getLsbD_ofNat, BitVec.getLsbD_ofNat, BitVec.getLsbD_ofNat, nd_bit]
  cases a.testBit i <;> cases b.testBit i <;> simp [hi]
theorem shr_and1 (d p : Nat) : (d >>> p) &&& 1 = if d.testBit p then 1 else 0 := by
  rw [Nat.and_one_is_mod, Nat.shiftRight_eq_div_pow]
  have h : d.testBit p = decide (d / 2 ^ p % 2 = 1) := by rw [Nat.testBit_eq_decide_div_mod_eq]
  rw [h]
  have := Nat.mod_two_eq_zero_or_one (d / 2 ^ p)
  rcases this with q | q <;> simp [q]
theorem bitI (d p : Nat) : nI ((d >>> p) &&& 1) = bI (d.testBit p) := by rw [shr_and1, bI_nI]
/-! ===== the words of the document over numbers ===== -/
/-- the kinds of the first n places of a dish, as bits -/
def kds (k : Nat → Nat) (d : Nat) : Nat → Nat
  | 0 => 0
  | n + 1 => if d.testBit n then kds k d n ||| 2 ^ k n else kds k d n
theorem kds_lt {k : Nat → Nat} {d : Nat} : ∀ {n : Nat}, (∀ j, j < n → k j < 16) → kds k d n < 65536
  | 0, _ => by unfold kds; decide
  | n + 1, h => by
    unfold kds
    have ih : kds k d n < 65536 := kds_lt (fun j hj => h j (by omega))
    have h2 : 2 ^ k n < 2 ^ 16 := Nat.pow_lt_pow_right (by decide) (h n (by omega))
    split
    · exact Nat.or_lt_two_pow (n := 16) ih h2
    · exact ih
/-- a rule holds for kinds -/
def hld (nd sp kk : Nat) : Bool := decide (nd ≠ 0) && (decide (kk &&& nd = nd) && decide (kk &&& sp = 0))
/-- how many rules of the first r hold -/
def hcn (nd sp : Nat → Nat) (kk : Nat) : Nat → Nat
  | 0 => 0
  | r + 1 => hcn nd sp kk r + if hld (nd r) (sp r) kk then 1 else 0
theorem hcn_le (nd sp : Nat → Nat) (kk : Nat) : ∀ r, hcn nd sp kk r ≤ r
  | 0 => Nat.le_refl 0
  | r + 1 => by have := hcn_le nd sp kk r; unfold hcn; split <;> omega
/-- how many bits of the first n are set -/
def cnt (d : Nat) : Nat → Nat
  | 0 => 0
  | n + 1 => cnt d n + if d.testBit n then 1 else 0
theorem cnt_le (d : Nat) : ∀ n, cnt d n ≤ n
  | 0 => Nat.le_refl 0
  | n + 1 => by have := cnt_le d n; unfold cnt; split <;> omega
/-- the places whose number in the dish is from a on, ahead of b -/
def prt (d a b : Nat) : Nat → Nat
  | 0 => 0
  | n + 1 => if d.testBit n && (decide (a ≤ cnt d n) && decide (cnt d n < b)) then prt d a b n ||| 2 ^ n else prt d a b n
/-- the least needed number of the first r rules that can hold -/
def lst (nd : Nat → Nat) (kk : Nat) : Nat → Nat
  | 0 => 0
  | r + 1 => if (0 < cnt (nd r) 24 ∧ kk &&& nd r = nd r) ∧ (lst nd kk r = 0 ∨ cnt (nd r) 24 < lst nd kk r) then cnt (nd r) 24 else lst nd kk r
theorem lst_t {nd : Nat → Nat} {kk r : Nat} (h1 : 0 < cnt (nd r) 24) (h2 : kk &&& nd r = nd r) (h3 : lst nd kk r = 0 ∨ cnt (nd r) 24 < lst nd kk r) : lst nd kk (r + 1) = cnt (nd r) 24 := if_pos ⟨⟨h1, h2⟩, h3⟩
theorem lst_f {nd : Nat → Nat} {kk r : Nat} (h : ¬ ((0 < cnt (nd r) 24 ∧ kk &&& nd r = nd r) ∧ (lst nd kk r = 0 ∨ cnt (nd r) 24 < lst nd kk r))) : lst nd kk (r + 1) = lst nd kk r := if_neg h
theorem lst_le (nd : Nat → Nat) (kk : Nat) : ∀ r, lst nd kk r ≤ 24
  | 0 => by unfold lst; omega
  | r + 1 => by
    have h := lst_le nd kk r
    have h2 := cnt_le (nd r) 24
    show (if (0 < cnt (nd r) 24 ∧ kk &&& nd r = nd r) ∧ (lst nd kk r = 0 ∨ cnt (nd r) 24 < lst nd kk r) then cnt (nd r) 24 else lst nd kk r) ≤ 24
    split <;> omega
theorem hld_t {a b kk : Nat} (h1 : ¬ a = 0) (h2 : kk &&& a = a) (h3 : kk &&& b = 0) : hld a b kk = true := by
  unfold hld; rw [decide_eq_true h1, decide_eq_true h2, decide_eq_true h3]; rfl
theorem hld_f1 {a b kk : Nat} (h1 : a = 0) : hld a b kk = false := by
  unfold hld; rw [decide_eq_false (fun h => h h1)]; rfl
theorem hld_f2 {a b kk : Nat} (h2 : ¬ kk &&& a = a) : hld a b kk = false := by
  unfold hld; rw [decide_eq_false h2, Bool.false_and, Bool.and_false]
theorem hld_f3 {a b kk : Nat} (h3 : ¬ kk &&& b = 0) : hld a b kk = false := by
  unfold hld; rw [decide_eq_false h3, Bool.and_false, Bool.and_false]
theorem hcn_t {a b : Nat → Nat} {kk r : Nat} (h : hld (a r) (b r) kk = true) : hcn a b kk (r + 1) = hcn a b kk r + 1 := by
  show hcn a b kk r + (if hld (a r) (b r) kk then 1 else 0) = _; rw [if_pos h]
theorem hcn_f {a b : Nat → Nat} {kk r : Nat} (h : hld (a r) (b r) kk = false) : hcn a b kk (r + 1) = hcn a b kk r := by
  show hcn a b kk r + (if hld (a r) (b r) kk then 1 else 0) = _; rw [if_neg (by rw [h]; decide)]; rfl
theorem kds_t {k : Nat → Nat} {d n : Nat} (h : d.testBit n = true) : kds k d (n + 1) = kds k d n ||| 2 ^ k n := if_pos h
theorem kds_f {k : Nat → Nat} {d n : Nat} (h : d.testBit n = false) : kds k d (n + 1) = kds k d n := if_neg (by rw [h]; decide)
/-! ===== one bit's place: the walk of Integer.numberOfTrailingZeros ===== -/
theorem ntz_0 : ∀ p, p < 24 → (nI (2 ^ p) ^^^ (-1)) &&& nI (2 ^ p - 1) = nI (2 ^ p - 1) := by decide +kernel
theorem ntz_lt : ∀ p, p < 24 → 1 ≤ 2 ^ p ∧ 2 ^ p < 2 ^ 24 := by decide +kernel
theorem ntz_c : ∀ p, p < 24 → (0 < 2 ^ p - 1 ↔ 0 < p) ∧ (2 ^ p - 1 ≤ 65536 ↔ p ≤ 16) ∧ (2 ^ p - 1 ≤ 256 ↔ p ≤ 8) ∧ (2 ^ p - 1 ≤ 16 ↔ p ≤ 4) ∧ (2 ^ p - 1 ≤ 4 ↔ p ≤ 2) := by decide +kernel
theorem ntz_s : ∀ p, p < 24 → ∀ s, s < 24 → s ≤ p → (2 ^ p - 1) >>> s = 2 ^ (p - s) - 1 := by decide +kernel
theorem ntz_e : ∀ q, q < 3 → 0 < q → (2 ^ q - 1) >>> 1 = q - 1 := by decide +kernel
/-! ===== places, dishes, what is told of them in ints ===== -/
def hp (x : Int32) (n : Nat) : Bool := decide (0 ≤ x) && decide (x < nI n)
theorem hp_t {x : Int32} {n : Nat} (h1 : ¬ x < 0) (h2 : ¬ nI n ≤ x) : hp x n = true := by
  unfold hp; rw [decide_eq_true (fa_of_nlt h1), decide_eq_true (fa_of_nle h2)]; rfl
theorem hp_f1 {x : Int32} {n : Nat} (h1 : x < 0) : hp x n = false := by
  unfold hp; rw [decide_eq_false (fun h => (fa_of_lt h1).2.1 h)]; rfl
theorem hp_f2 {x : Int32} {n : Nat} (h2 : nI n ≤ x) : hp x n = false := by
  unfold hp; rw [decide_eq_false (p := x < nI n) (fun h => (fa_of_lt h).2.1 h2), Bool.and_false]
theorem hp_nI {j n : Nat} (hj : j < n) (hn : n ≤ 24) : hp (nI j) n = true :=
  hp_t (by rw [nI_lt0 (by omega)]; omega) (by rw [nI_leI (by omega) (by omega)]; omega)
theorem hp_of {x : Int32} {n : Nat} (hn : n ≤ 24) (h : hp x n = true) : ∃ j, j < n ∧ x = nI j := by
  unfold hp at h
  rw [Bool.and_eq_true, decide_eq_true_eq, decide_eq_true_eq] at h
  rcases pk_ix x (n := n) (by omega) with q | q | q
  · exact absurd h.1 (fa_of_lt q).2.1
  · exact absurd q (fa_of_lt h.2).2.1
  · exact q
def hdi (x : Int32) (n : Nat) : Bool := decide (0 ≤ x) && decide (x >>> (nI n &&& 31) = 0)
theorem hdi_t {x : Int32} {n : Nat} (h1 : ¬ x < 0) (h2 : x >>> (nI n &&& 31) = 0) : hdi x n = true := by
  unfold hdi; rw [decide_eq_true (fa_of_nlt h1), decide_eq_true h2]; rfl
theorem hdi_f1 {x : Int32} {n : Nat} (h1 : x < 0) : hdi x n = false := by
  unfold hdi; rw [decide_eq_false (fun h => (fa_of_lt h1).2.1 h)]; rfl
theorem hdi_f2 {x : Int32} {n : Nat} (h2 : ¬ x >>> (nI n &&& 31) = 0) : hdi x n = false := by
  unfold hdi; rw [decide_eq_false (p := x >>> (nI n &&& 31) = 0) h2, Bool.and_false]
/-- a row while the place j is taken out, moved up to ahead of i -/
def tkt (k : Nat → Nat) (j i : Nat) : Nat → Nat := fun q => if j ≤ q ∧ q < i then k (q + 1) else k q
theorem tkt_0 (k : Nat → Nat) (j : Nat) : tkt k j j = k := by
  funext q; unfold tkt; rw [if_neg (by omega)]
theorem tkt_s (k : Nat → Nat) {j i : Nat} (h : j ≤ i) : va_up (tkt k j i) i (tkt k j i (i + 1)) = tkt k j (i + 1) := by
  funext q
  unfold va_up tkt
  by_cases hq : q = i
  · subst hq; rw [if_pos rfl, if_neg (by omega), if_pos (by omega)]
  · rw [if_neg hq]
    by_cases h2 : j ≤ q ∧ q < i
    · rw [if_pos h2, if_pos (by omega)]
    · rw [if_neg h2, if_neg (by omega)]
/-! ===== how many bits: the walk of Integer.bitCount, byte by byte ===== -/
theorem add_and (n x y : Nat) {a b : Nat} (ha : a < 2 ^ n) (hb : b < 2 ^ n) : (2 ^ n * x + a) &&& (2 ^ n * y + b) = 2 ^ n * (x &&& y) + (a &&& b) := by
  apply Nat.eq_of_testBit_eq
  intro i
  rw [Nat.testBit_and, Nat.testBit_two_pow_mul_add x ha, Nat.testBit_two_pow_mul_add y hb, Nat.testBit_two_pow_mul_add (x &&& y) (Nat.and_lt_two_pow a hb)]
  split
  · rw [Nat.testBit_and]
  · rw [Nat.testBit_and]
def bc1 (d m : Nat) : Nat := d - ((d >>> 1) &&& m)
def bc2 (d m : Nat) : Nat := (d &&& m) + ((d >>> 2) &&& m)
def bc3 (d m : Nat) : Nat := (d + (d >>> 4)) &&& m
theorem bc_b1 : ∀ t, t < 2 → ∀ b, b < 128 → (128 * t + b) &&& 85 = b &&& 85 := by decide +kernel
theorem bc_b2 : ∀ t, t < 4 → ∀ b, b < 64 → (64 * t + b) &&& 51 = b &&& 51 := by decide +kernel
theorem bc1_s (y m : Nat) {b : Nat} (hb : b < 256) : bc1 (256 * y + b) (256 * m + 85) = 256 * bc1 y m + bc1 b 85 := by
  unfold bc1
  rw [Nat.shiftRight_eq_div_pow, Nat.shiftRight_eq_div_pow, Nat.shiftRight_eq_div_pow]
  have e : (256 * y + b) / 2 ^ 1 = 2 ^ 8 * (y / 2 ^ 1) + (128 * (y % 2) + b / 2) := by omega
  have h0 : 128 * (y % 2) + b / 2 < 2 ^ 8 := by omega
  rw [e, show 256 * m + 85 = 2 ^ 8 * m + 85 from rfl, add_and 8 (y / 2 ^ 1) m h0 (by decide), bc_b1 (y % 2) (by omega) (b / 2) (by omega)]
  have h1 : (y / 2 ^ 1) &&& m ≤ y := Nat.le_trans Nat.and_le_left (by omega)
  have h2 : (b / 2) &&& 85 ≤ b := Nat.le_trans Nat.and_le_left (by omega)
  show 256 * y + b - (256 * ((y / 2 ^ 1) &&& m) + ((b / 2) &&& 85)) = 256 * (y - ((y / 2 ^ 1) &&& m)) + (b - ((b / 2) &&& 85))
  omega
theorem bc2_s (y m : Nat) {b : Nat} (hb : b < 256) : bc2 (256 * y + b) (256 * m + 51) = 256 * bc2 y m + bc2 b 51 := by
  unfold bc2
  rw [Nat.shiftRight_eq_div_pow, Nat.shiftRight_eq_div_pow, Nat.shiftRight_eq_div_pow]
  have e : (256 * y + b) / 2 ^ 2 = 2 ^ 8 * (y / 2 ^ 2) + (64 * (y % 4) + b / 4) := by omega
  have h0 : 64 * (y % 4) + b / 4 < 2 ^ 8 := by omega
  have h3 := add_and 8 y m (a := b) (b := 51) (by omega) (by decide)
  have h4 := add_and 8 (y / 2 ^ 2) m h0 (b := 51) (by decide)
  rw [e, show 256 * m + 51 = 2 ^ 8 * m + 51 from rfl, h4, bc_b2 (y % 4) (by omega) (b / 4) (by omega), show 256 * y + b = 2 ^ 8 * y + b from rfl, h3]
  show 256 * (y &&& m) + (b &&& 51) + (256 * ((y / 2 ^ 2) &&& m) + ((b / 4) &&& 51)) = 256 * ((y &&& m) + ((y / 2 ^ 2) &&& m)) + ((b &&& 51) + ((b / 4) &&& 51))
  omega
theorem bc_b3 : ∀ t, t < 6 → ∀ b, b < 103 → (16 * t + b + b / 16) &&& 15 = (b + b / 16) &&& 15 := by decide +kernel
theorem bc3_s (y m : Nat) {b : Nat} (hb : b < 103) (hy : y % 16 < 6) : bc3 (256 * y + b) (256 * m + 15) = 256 * bc3 y m + bc3 b 15 := by
  unfold bc3
  rw [Nat.shiftRight_eq_div_pow, Nat.shiftRight_eq_div_pow, Nat.shiftRight_eq_div_pow]
  have e : 256 * y + b + (256 * y + b) / 2 ^ 4 = 2 ^ 8 * (y + y / 2 ^ 4) + (16 * (y % 16) + b + b / 16) := by omega
  have h0 : 16 * (y % 16) + b + b / 16 < 2 ^ 8 := by omega
  rw [e, show 256 * m + 15 = 2 ^ 8 * m + 15 from rfl, add_and 8 _ m h0 (by decide), bc_b3 (y % 16) hy b hb]
theorem bc_t : ∀ b, b < 256 → bc2 (bc1 b 85) 51 < 103 ∧ bc2 (bc1 b 85) 51 % 16 < 6 ∧ bc1 b 85 < 256 ∧ bc3 (bc2 (bc1 b 85) 51) 15 = cnt b 8 := by decide +kernel
theorem cnt_succ (d n : Nat) : cnt d (n + 1) = cnt d n + if d.testBit n then 1 else 0 := rfl
theorem cnt_s (y : Nat) {b : Nat} (hb : b < 256) : ∀ n, cnt (256 * y + b) (8 + n) = cnt b 8 + cnt y n
  | 0 => by
    have h : ∀ i, i ≤ 8 → cnt (256 * y + b) i = cnt b i := by
      intro i
      induction i with
      | zero => intro _; rfl
      | succ i ih =>
        intro hi
        rw [cnt_succ, cnt_succ, ih (by omega), show 256 * y + b = 2 ^ 8 * y + b from rfl, Nat.testBit_two_pow_mul_add y (i := 8) hb, if_pos (show i < 8 by omega)]
    exact h 8 (Nat.le_refl 8)
  | n + 1 => by
    show cnt (256 * y + b) (8 + n) + (if (256 * y + b).testBit (8 + n) then 1 else 0) = cnt b 8 + (cnt y n + if y.testBit n then 1 else 0)
    have e : (256 * y + b).testBit (8 + n) = y.testBit n := by
      rw [show 256 * y + b = 2 ^ 8 * y + b from rfl, Nat.testBit_two_pow_mul_add y (i := 8) hb, if_neg (by omega), show 8 + n - 8 = n by omega]
    rw [e, cnt_s y hb n, Nat.add_assoc]
theorem bc_t2 : ∀ b, b < 256 → bc1 b 21845 = bc1 b 85 ∧ bc2 (bc1 b 85) 13107 = bc2 (bc1 b 85) 51 ∧ bc3 (bc2 (bc1 b 85) 51) 3855 = bc3 (bc2 (bc1 b 85) 51) 15 := by decide +kernel
theorem bc_all {d : Nat} (hd : d < 2 ^ 24) (i3 : Nat) (h3 : i3 = bc3 (bc2 (bc1 d 1431655765) 858993459) 252645135) (i4 : Nat) (h4 : i4 = i3 + (i3 >>> 8)) (i5 : Nat) (h5 : i5 = i4 + (i4 >>> 16)) : i3 < 2 ^ 24 ∧ i4 < 2 ^ 25 ∧ i5 < 2 ^ 26 ∧ i5 &&& 63 = cnt d 24 := by
  obtain ⟨b0, b1, b2, g0, g1, g2, rfl⟩ : ∃ b0 b1 b2, b0 < 256 ∧ b1 < 256 ∧ b2 < 256 ∧ d = 256 * (256 * b2 + b1) + b0 := ⟨d % 256, d / 256 % 256, d / 65536, by omega, by omega, by omega, by omega⟩
  obtain ⟨t0, u0, v0, w0⟩ := bc_t b0 g0
  obtain ⟨t1, u1, v1, w1⟩ := bc_t b1 g1
  obtain ⟨t2, u2, v2, w2⟩ := bc_t b2 g2
  obtain ⟨x1, x2, x3⟩ := bc_t2 b2 g2
  have e1 : bc1 (256 * (256 * b2 + b1) + b0) 1431655765 = 256 * (256 * bc1 b2 85 + bc1 b1 85) + bc1 b0 85 := by
    rw [show (1431655765 : Nat) = 256 * (256 * 21845 + 85) + 85 from rfl, bc1_s _ _ g0, bc1_s _ _ g1, x1]
  have e2 : bc2 (256 * (256 * bc1 b2 85 + bc1 b1 85) + bc1 b0 85) 858993459 = 256 * (256 * bc2 (bc1 b2 85) 51 + bc2 (bc1 b1 85) 51) + bc2 (bc1 b0 85) 51 := by
    rw [show (858993459 : Nat) = 256 * (256 * 13107 + 51) + 51 from rfl, bc2_s _ _ v0, bc2_s _ _ v1, x2]
  have e3 : bc3 (256 * (256 * bc2 (bc1 b2 85) 51 + bc2 (bc1 b1 85) 51) + bc2 (bc1 b0 85) 51) 252645135 = 256 * (256 * cnt b2 8 + cnt b1 8) + cnt b0 8 := by
    rw [show (252645135 : Nat) = 256 * (256 * 3855 + 15) + 15 from rfl, bc3_s _ _ t0 (by omega), bc3_s _ _ t1 (by omega), x3, w0, w1, w2]
  rw [e1, e2, e3] at h3
  have c0 := cnt_le b0 8
  have c1 := cnt_le b1 8
  have c2 := cnt_le b2 8
  have hc : cnt (256 * (256 * b2 + b1) + b0) 24 = cnt b0 8 + (cnt b1 8 + cnt b2 8) := by
    rw [show (24 : Nat) = 8 + (8 + 8) from rfl, cnt_s _ g0, cnt_s _ g1]
  rw [hc]
  rw [Nat.shiftRight_eq_div_pow] at h4 h5
  rw [show (63 : Nat) = 2 ^ 6 - 1 from rfl, Nat.and_two_pow_sub_one_eq_mod]
  generalize cnt b0 8 = q0 at *
  generalize cnt b1 8 = q1 at *
  generalize cnt b2 8 = q2 at *
  clear e1 e2 e3 t0 u0 v0 w0 t1 u1 v1 w1 t2 u2 v2 w2 x1 x2 x3 hc hd g0 g1 g2
  have k3 : i3 / 2 ^ 8 = 256 * q2 + q1 := by omega
  have k4 : i4 = 65536 * q2 + 256 * (q1 + q2) + (q0 + q1) := by omega
  have k5 : i4 / 2 ^ 16 = q2 := by omega
  have k6 : i5 = 65536 * q2 + 256 * (q1 + q2) + (q0 + q1 + q2) := by omega
  refine ⟨by omega, by omega, by omega, by omega⟩
theorem bc_lt {d : Nat} (hd : d < 2 ^ 24) : ((d >>> 1) &&& 1431655765) ≤ d ∧ bc1 d 1431655765 < 2 ^ 24 ∧ (bc1 d 1431655765 &&& 858993459) < 2 ^ 24 ∧ ((bc1 d 1431655765 >>> 2) &&& 858993459) < 2 ^ 24 ∧ bc2 (bc1 d 1431655765) 858993459 < 2 ^ 25 ∧ (bc2 (bc1 d 1431655765) 858993459 >>> 4) < 2 ^ 25 := by
  have h1 : ((d >>> 1) &&& 1431655765) ≤ d := Nat.le_trans Nat.and_le_left (by rw [Nat.shiftRight_eq_div_pow]; omega)
  have h2 : bc1 d 1431655765 < 2 ^ 24 := by unfold bc1; omega
  have h3 : (bc1 d 1431655765 &&& 858993459) < 2 ^ 24 := Nat.lt_of_le_of_lt Nat.and_le_left h2
  have h4 : ((bc1 d 1431655765 >>> 2) &&& 858993459) < 2 ^ 24 := Nat.lt_of_le_of_lt Nat.and_le_left (by rw [Nat.shiftRight_eq_div_pow]; omega)
  have h5 : bc2 (bc1 d 1431655765) 858993459 < 2 ^ 25 := by unfold bc2; omega
  exact ⟨h1, h2, h3, h4, h5, by rw [Nat.shiftRight_eq_div_pow]; omega⟩
