/-! ===== the law's own list, its steps, its samples ===== -/
/-- the place that was read last -/
def lsv (d : Nat) : Nat → Int32
  | 0 => -1
  | i + 1 => nI (plc d i)
theorem nI_m1 {i : Nat} (h : i < 2 ^ 31) : ¬ nI i = -1 := fun z => by
  have h2 := congrArg Int32.toInt z
  rw [nI_toInt (by omega)] at h2
  have h3 : (-1 : Int32).toInt = -1 := by decide +kernel
  rw [h3] at h2; omega
theorem nI_nlem1 {i : Nat} (h : i < 2 ^ 31) : ¬ nI i ≤ -1 := fun z => by
  rw [Int32.le_iff_toInt_le, nI_toInt (by omega)] at z
  have h3 : (-1 : Int32).toInt = -1 := by decide +kernel
  rw [h3] at z; omega
theorem lsv_lt {d i : Nat} (hi : i < cnt d 24) : ¬ nI (plc d i) ≤ lsv d i := by
  have hp := (plc_ok hi).1
  cases i with
  | zero => exact nI_nlem1 (by omega)
  | succ i =>
    have h := plc_inc hi
    show ¬ nI (plc d (i + 1)) ≤ nI (plc d i)
    rw [nI_leI (by omega) (by omega)]; omega
theorem prt_nexto {d i : Nat} (hi : i < cnt d 24) : prt d 0 i 24 ||| 2 ^ plc d i = prt d 0 (i + 1) 24 := by
  obtain ⟨p1, p2, p3⟩ := plc_ok hi
  apply Nat.eq_of_testBit_eq
  intro q
  rw [Nat.testBit_or, Nat.testBit_two_pow, prt_bit, prt_bit]
  by_cases e : plc d i = q
  · subst e
    simp [p1, p2, p3]
  · rw [decide_eq_false e, Bool.or_false]
    cases hb : d.testBit q
    · simp
    · by_cases hq : q < 24
      · have hne : cnt d q ≠ i := fun z => e (by rw [← z]; exact plc_cnt hq hb)
        have h : decide (cnt d q < i) = decide (cnt d q < i + 1) := decide_eq_decide.mpr (by omega)
        rw [h]
      · rw [decide_eq_false hq]; rfl
theorem nz_b {d : Nat} {b : Bool} (h : (¬ d = 0) ↔ b = true) : (d = 0 → nI 0 = bI b) ∧ (¬ d = 0 → nI 1 = bI b) := by
  refine ⟨fun z => ?_, fun z => by rw [h.mp z]; rfl⟩
  cases hb : b
  · rfl
  · exact absurd z (h.mpr hb)
theorem obl_ltn {sp : Nat → Bool} {n d3 : Nat} {K3 : List Nat} (hR : obl sp (2 ^ n - 1) = (d3, K3)) : d3 < 2 ^ n := by
  unfold obl at hR
  by_cases h : sp (2 ^ n - 1) = true
  · rw [if_pos h] at hR
    refine sub_lt (d := 2 ^ n - 1) (by have := Nat.two_pow_pos n; omega) (fun q hq => ?_)
    refine obo_sub sp 24 (2 ^ n - 1) [2 ^ n - 1] q ?_
    rw [hR]; exact hq
  · rw [if_neg h] at hR; cases hR; exact Nat.two_pow_pos n
theorem hal_no {sp : Nat → Bool} {w d2 n2 : Nat} {K2 : List Nat} {F2 : List Int32} (h : sp w = false) (hR : hal sp w = (d2, n2, K2, F2)) : d2 = 0 ∧ K2.length = 1 ∧ F2.length = 0 := by
  rw [hal_f h] at hR; cases hR; exact ⟨rfl, rfl, rfl⟩
theorem stp_v {fx : Nat → Int32} {F : List Int32} {st kx w : Nat} (hfx : FR fx F) (hst : st = F.length / 5) (h8 : st ≤ 128) (hk : kx < st) (hw : w < 5) : fx (vN (nI kx) * 5 + vN (nI w)) = F.getD (5 * kx + w) 0 := by
  rw [vN_nI (by omega), vN_nI (by omega), Nat.mul_comm kx 5]
  exact hfx _ (by omega)
theorem nsub_nd {x d : Nat} (h : nsub x d) : nd x d = 0 := by
  apply Nat.eq_of_testBit_eq
  intro q
  rw [nd_bit, Nat.zero_testBit]
  cases hx : x.testBit q
  · rfl
  · rw [h q hx]; rfl
theorem nsub_lt {n x d : Nat} (hd : d < 2 ^ n) (h : nsub x d) : x < 2 ^ n := sub_lt hd h
theorem spl_b (k ne sp : Nat → Nat) (n rc d : Nat) : (hcn ne sp (kds k d n) rc ≤ 0 → nI 0 = bI (spl k ne sp n rc d)) ∧ (¬ hcn ne sp (kds k d n) rc ≤ 0 → nI 1 = bI (spl k ne sp n rc d)) := by
  constructor
  · intro h; unfold spl; rw [decide_eq_false (by omega)]; rfl
  · intro h; unfold spl; rw [decide_eq_true (by omega)]; rfl
theorem hld_z (a b : Nat) : hld a b 0 = false := by
  unfold hld
  by_cases h : a = 0
  · rw [decide_eq_false (fun z => z h)]; rfl
  · rw [Nat.zero_and, decide_eq_false (fun z : 0 = a => h z.symm), Bool.false_and, Bool.and_false]
theorem kds_z (k : Nat → Nat) : ∀ n, kds k 0 n = 0
  | 0 => rfl
  | n + 1 => by
    show (if (0 : Nat).testBit n then kds k 0 n ||| 2 ^ k n else kds k 0 n) = 0
    rw [Nat.zero_testBit, if_neg (by decide)]; exact kds_z k n
theorem tgh_a {sp : Nat → Bool} {d p : Nat} {b : Bool} (h : d.testBit p = false ∨ sp (nd d (2 ^ p)) = false) : bI (b && tgh sp d p) = bI (b && tgh sp d (p + 1)) := by rw [tgh_k h]
theorem tgh_c {sp : Nat → Bool} {d p : Nat} {b : Bool} (h1 : d.testBit p = true) (h2 : sp (nd d (2 ^ p)) = true) : nI 0 = bI (b && tgh sp d (p + 1)) := by
  rw [tgh_f h1 h2 (p + 1) (Nat.lt_succ_self p), Bool.and_false]; rfl
theorem tig_n {sp : Nat → Bool} {n d : Nat} (hn : n ≤ 24) (hd : d < 2 ^ n) : tig sp d = (sp d && tgh sp d n) := by
  have h := tgh_skip sp n d hd (24 - n)
  rw [show n + (24 - n) = 24 by omega] at h
  unfold tig
  rw [h]
theorem adv_c (f : Nat → Nat) (n : Nat) : (oI (avb f n).1 = -1 ∧ n = 0) ∨ ∃ i, i < n ∧ oI (avb f n).1 = nI i := by
  cases h : (avb f n).1 with
  | none =>
    refine Or.inl ⟨rfl, ?_⟩
    rcases Nat.eq_zero_or_pos n with z | z
    · exact z
    · exact absurd h (avb_0 z)
  | some i => exact Or.inr ⟨i, avb_lt f n i h, rfl⟩
theorem tld_v3 (k ne sp : Nat → Nat) (n kq j : Nat) : nI (tld k ne sp n kq j 3) = bI (hld (ne j) (sp j) (kds k (2 ^ n - 1) n)) := tld_row k ne sp n kq j (w := 3) (by decide)
theorem tld_v4 (k ne sp : Nat → Nat) (n kq j : Nat) : nI (tld k ne sp n kq j 4) = bI (hld (ne j) (sp j) kq) := tld_row k ne sp n kq j (w := 4) (by decide)
theorem tld_v0 (k ne sp : Nat → Nat) (n kq j : Nat) : tld k ne sp n kq j 0 = ne j := rfl
theorem tld_v1 (k ne sp : Nat → Nat) (n kq j : Nat) : tld k ne sp n kq j 1 = sp j := rfl
theorem tld_v2 (k ne sp : Nat → Nat) (n kq j : Nat) : tld k ne sp n kq j 2 = cnt (ne j) 24 := rfl
theorem lw_list {dd n : Nat} (hdd : dd < 2 ^ 24) (hdn : dd < 2 ^ n) : ∃ (mm : Nat) (PR PL : Nat → Nat) (LV : Nat → Int32), cnt dd 24 = mm ∧ mm ≤ 24 ∧ PR 0 = 0 ∧ PR mm = dd ∧ (∀ i, i < mm → PR i ||| 2 ^ PL i = PR (i + 1)) ∧ (∀ i, i < mm → PL i < n) ∧ (∀ i, plc dd i = PL i) ∧ LV 0 = -1 ∧ (∀ i, LV (i + 1) = nI (PL i)) ∧ (∀ i, i < mm → ¬ nI (PL i) ≤ LV i) :=
  ⟨cnt dd 24, fun i => prt dd 0 i 24, plc dd, lsv dd, rfl, cnt_le dd 24, prt_00 dd, prt_full hdd, fun _ h => prt_nexto h, fun _ h => plc_lt hdn h, fun _ => rfl, rfl, fun _ => rfl, fun _ h => lsv_lt h⟩
