/-! ===== places of a dish, in a row ===== -/
theorem plc_cnt {d i : Nat} (hi : i < 24) (hb : d.testBit i = true) : plc d (cnt d i) = i := by
  obtain ⟨h1, h2, h3⟩ := plc_ok (d := d) (j := cnt d i) (cnt_kth hb hi)
  rcases Nat.lt_trichotomy (plc d (cnt d i)) i with q | q | q
  · have := cnt_kth h2 q; omega
  · exact q
  · have := cnt_kth hb q; omega
theorem plc_lt {d j n : Nat} (hd : d < 2 ^ n) (h : j < cnt d 24) : plc d j < n := by
  obtain ⟨h1, h2, h3⟩ := plc_ok h
  rcases Nat.lt_or_ge (plc d j) n with q | q
  · exact q
  · rw [Nat.testBit_lt_two_pow (Nat.lt_of_lt_of_le hd (Nat.pow_le_pow_right (by decide) q))] at h2; cases h2
theorem dish_ext {d e : Nat} (hd : d < 2 ^ 24) (he : e < 2 ^ 24) (hc : cnt d 24 = cnt e 24) (h : ∀ j, j < cnt d 24 → plc d j = plc e j) : d = e := by
  have key : ∀ {x y : Nat}, cnt x 24 = cnt y 24 → (∀ j, j < cnt x 24 → plc x j = plc y j) → ∀ i, i < 24 → x.testBit i = true → y.testBit i = true := by
    intro x y hc h i hi hb
    have h1 := cnt_kth hb hi
    have h2 := h _ h1
    rw [plc_cnt hi hb] at h2
    rw [h2]
    exact (plc_ok (by omega)).2.1
  apply Nat.eq_of_testBit_eq
  intro i
  by_cases hi : i < 24
  · have a1 := key hc h i hi
    have a2 := key hc.symm (fun j hj => (h j (by omega)).symm) i hi
    cases h3 : d.testBit i <;> cases h4 : e.testBit i
    · rfl
    · rw [a2 h4] at h3; cases h3
    · rw [a1 h3] at h4; cases h4
    · rfl
  · have hp : (2 : Nat) ^ 24 ≤ 2 ^ i := Nat.pow_le_pow_right (by decide) (by omega)
    rw [Nat.testBit_lt_two_pow (Nat.lt_of_lt_of_le hd hp), Nat.testBit_lt_two_pow (Nat.lt_of_lt_of_le he hp)]
theorem plc_prt {d a b j : Nat} (hab : a ≤ b) (hb : b ≤ cnt d 24) (hj : j < b - a) : plc (prt d a b 24) j = plc d (a + j) := by
  obtain ⟨h1, h2, h3⟩ := plc_ok (d := d) (j := a + j) (by omega)
  have h4 : cnt (prt d a b 24) (plc d (a + j)) = j := by
    rw [cnt_prt d hab 24 _ (by omega), h3]
    by_cases q : a + j ≤ a
    · rw [if_pos q]; omega
    · rw [if_neg q, if_pos (by omega)]; omega
  have h5 : (prt d a b 24).testBit (plc d (a + j)) = true := by
    rw [prt_bit, h2, h3, decide_eq_true h1, decide_eq_true (Nat.le_add_right a j), decide_eq_true (show a + j < b by omega)]; rfl
  have h6 := plc_cnt h1 h5
  rw [h4] at h6
  exact h6
theorem plc_nd {d a b j : Nat} (hab : a ≤ b) (hb : b ≤ cnt d 24) (hj : j < cnt d 24 - (b - a)) : plc (nd d (prt d a b 24)) j = plc d (if j < a then j else j + (b - a)) := by
  obtain ⟨q, hq⟩ : ∃ q, q = (if j < a then j else j + (b - a)) := ⟨_, rfl⟩
  rw [← hq]
  have hqc : (j < a ∧ q = j) ∨ (¬ j < a ∧ q = j + (b - a)) := by
    by_cases z : j < a
    · rw [if_pos z] at hq; exact Or.inl ⟨z, hq⟩
    · rw [if_neg z] at hq; exact Or.inr ⟨z, hq⟩
  obtain ⟨h1, h2, h3⟩ := plc_ok (d := d) (j := q) (by omega)
  have hn := cnt_nd d (prt d a b 24) (fun z => prt_sub d a b 24 z) (plc d q)
  have h4 : cnt (nd d (prt d a b 24)) (plc d q) = j := by
    rw [cnt_prt d hab 24 _ (by omega), h3] at hn
    split at hn
    · omega
    · split at hn <;> omega
  have h5 : (nd d (prt d a b 24)).testBit (plc d q) = true := by
    rw [nd_bit, prt_bit, h2, h3, decide_eq_true h1]
    rcases hqc with ⟨z, e⟩ | ⟨z, e⟩
    · rw [decide_eq_false (show ¬ a ≤ q by omega)]; rfl
    · rw [decide_eq_false (show ¬ q < b by omega), Bool.and_false]; rfl
  have h6 := plc_cnt h1 h5
  rw [h4] at h6
  exact h6
theorem cnt_whole {n : Nat} : ∀ p, cnt (2 ^ n - 1) p = min p n
  | 0 => by rw [Nat.zero_min]; rfl
  | p + 1 => by
    rw [cnt_succ, cnt_whole p, Nat.testBit_two_pow_sub_one]
    by_cases q : p < n
    · rw [decide_eq_true q, if_pos rfl]; omega
    · rw [decide_eq_false q, if_neg (by decide)]; omega
theorem plc_whole {n j : Nat} (hn : n ≤ 24) (hj : j < n) : plc (2 ^ n - 1) j = j := by
  have h1 : (2 ^ n - 1).testBit j = true := by rw [Nat.testBit_two_pow_sub_one, decide_eq_true hj]
  have h2 := plc_cnt (by omega) h1
  rw [cnt_whole, show min j n = j by omega] at h2
  exact h2
theorem prt_full {d : Nat} (hd : d < 2 ^ 24) : prt d 0 (cnt d 24) 24 = d := by
  apply Nat.eq_of_testBit_eq
  intro i
  rw [prt_bit]
  by_cases hi : i < 24
  · rw [decide_eq_true hi]
    cases hb : d.testBit i
    · rfl
    · rw [decide_eq_true (Nat.zero_le _), decide_eq_true (cnt_kth hb hi)]; rfl
  · rw [decide_eq_false hi, Nat.testBit_lt_two_pow (Nat.lt_of_lt_of_le hd (Nat.pow_le_pow_right (by decide) (by omega)))]; rfl
theorem prt_next {d i : Nat} (hi : i < cnt d 24) : prt d 0 (i + 1) 24 = prt d 0 i 24 + 2 ^ plc d i := by
  obtain ⟨h1, h2, h3⟩ := plc_ok hi
  have hlt : prt d 0 i 24 < 2 ^ plc d i := Nat.lt_pow_two_of_testBit _ (fun q hq => by
    rw [prt_bit]
    have := cnt_mono d hq
    rw [decide_eq_false (show ¬ cnt d q < i by omega), Bool.and_false, Bool.and_false, Bool.and_false])
  have h4 := Nat.two_pow_add_eq_or_of_lt hlt 1
  rw [Nat.mul_one] at h4
  rw [Nat.add_comm (prt d 0 i 24), h4]
  apply Nat.eq_of_testBit_eq
  intro q
  rw [prt_bit, Nat.testBit_or, Nat.testBit_two_pow, prt_bit]
  by_cases z : plc d i = q
  · subst z; rw [h2, h3, decide_eq_true h1, decide_eq_true (Nat.zero_le _), decide_eq_true (Nat.lt_succ_self i), decide_eq_true rfl]; rfl
  · rw [decide_eq_false z, Bool.false_or]
    by_cases hq : q < 24
    · cases hb : d.testBit q
      · rfl
      · have : ¬ cnt d q = i := fun e => z (by rw [← e]; exact plc_cnt hq hb)
        rw [decide_eq_decide.mpr (show cnt d q < i + 1 ↔ cnt d q < i by omega)]
    · rw [decide_eq_false hq]; rfl
theorem cnt_0_iff {d : Nat} (hd : d < 2 ^ 24) : cnt d 24 = 0 ↔ d = 0 := by
  constructor
  · intro h
    rcases Nat.eq_zero_or_pos d with q | q
    · exact q
    · have := cnt_pos (d := d) (n := 24) (by omega) hd; omega
  · rintro rfl; exact cnt_0 24
/-! ===== rows of ints: whether a value is among the first, kinds of a dish ===== -/
def hsn (g : Nat → Int32) (v : Int32) : Nat → Bool
  | 0 => false
  | n + 1 => hsn g v n || decide (g n = v)
theorem hsn_t {g : Nat → Int32} {v : Int32} {j : Nat} (h : g j = v) : ∀ n, j < n → hsn g v n = true
  | 0, q => absurd q (Nat.not_lt_zero j)
  | n + 1, q => by
    show (hsn g v n || decide (g n = v)) = true
    rcases Nat.lt_or_ge j n with z | z
    · rw [hsn_t h n z]; rfl
    · have e : j = n := by omega
      subst e; rw [h, decide_eq_true rfl, Bool.or_true]
theorem hsn_f {g : Nat → Int32} {v : Int32} {n : Nat} (h : ¬ g n = v) : hsn g v (n + 1) = hsn g v n := by
  show (hsn g v n || decide (g n = v)) = _
  rw [decide_eq_false h, Bool.or_false]
theorem hsn_of {g : Nat → Int32} {v : Int32} : ∀ {n}, hsn g v n = true → ∃ j, j < n ∧ g j = v
  | 0, h => by cases h
  | n + 1, h => by
    by_cases q : g n = v
    · exact ⟨n, Nat.lt_succ_self n, q⟩
    · rw [hsn_f q] at h
      obtain ⟨j, h1, h2⟩ := hsn_of h
      exact ⟨j, by omega, h2⟩
theorem hsn_congr {g g' : Nat → Int32} (v : Int32) : ∀ n, (∀ j, j < n → g j = g' j) → hsn g v n = hsn g' v n
  | 0, _ => rfl
  | n + 1, h => by
    show (hsn g v n || decide (g n = v)) = (hsn g' v n || decide (g' n = v))
    rw [hsn_congr v n (fun j hj => h j (by omega)), h n (Nat.lt_succ_self n)]
theorem kds_of {k : Nat → Nat} {d v : Nat} : ∀ n, (kds k d n).testBit v = true ↔ ∃ p, p < n ∧ d.testBit p = true ∧ k p = v
  | 0 => by
    constructor
    · intro h; rw [show kds k d 0 = 0 from rfl, Nat.zero_testBit] at h; cases h
    · rintro ⟨p, h, -⟩; exact absurd h (Nat.not_lt_zero p)
  | n + 1 => by
    have ih := kds_of (k := k) (d := d) (v := v) n
    cases hb : d.testBit n
    · rw [kds_f hb, ih]
      constructor
      · rintro ⟨p, h1, h2⟩; exact ⟨p, by omega, h2⟩
      · rintro ⟨p, h1, h2, h3⟩
        refine ⟨p, ?_, h2, h3⟩
        rcases Nat.lt_or_ge p n with z | z
        · exact z
        · have e : p = n := by omega
          rw [e, hb] at h2; cases h2
    · rw [kds_t hb, Nat.testBit_or, Nat.testBit_two_pow, Bool.or_eq_true, ih, decide_eq_true_eq]
      constructor
      · rintro (⟨p, h1, h2⟩ | h)
        · exact ⟨p, by omega, h2⟩
        · exact ⟨n, Nat.lt_succ_self n, hb, h⟩
      · rintro ⟨p, h1, h2, h3⟩
        rcases Nat.lt_or_ge p n with z | z
        · exact Or.inl ⟨p, z, h2, h3⟩
        · have e : p = n := by omega
          subst e; exact Or.inr h3
/-- the kinds told in a row are those of the bits -/
def kR (h : Nat → Int32) (m kq : Nat) : Prop := ∀ v, v < 16 → hsn h (nI v) m = kq.testBit v
theorem kR_dish {k : Nat → Nat} {d n : Nat} (hn : n ≤ 24) (hd : d < 2 ^ n) (hk : ∀ j, j < n → k j < 16) : kR (fun j => nI (k (plc d j))) (cnt d 24) (kds k d n) := by
  intro v hv
  have h1 : hsn (fun j => nI (k (plc d j))) (nI v) (cnt d 24) = true ↔ (kds k d n).testBit v = true := by
    rw [kds_of]
    constructor
    · intro h
      obtain ⟨j, h2, h3⟩ := hsn_of h
      obtain ⟨g1, g2, g3⟩ := plc_ok h2
      have g4 := plc_lt hd h2
      have g5 := hk _ g4
      exact ⟨plc d j, g4, g2, (nI_eq (by omega) (by omega)).mp h3⟩
    · rintro ⟨p, h2, h3, h4⟩
      refine hsn_t (j := cnt d p) ?_ _ (cnt_kth h3 (by omega))
      show nI (k (plc d (cnt d p))) = nI v
      rw [plc_cnt (by omega) h3, h4]
  cases h2 : hsn (fun j => nI (k (plc d j))) (nI v) (cnt d 24) <;> cases h3 : (kds k d n).testBit v
  · rfl
  · rw [h1.mpr h3] at h2; cases h2
  · rw [h1.mp h2] at h3; cases h3
  · rfl
theorem kR_0 (h : Nat → Int32) : kR h 0 0 := fun v _ => (Nat.zero_testBit v).symm
/-- a rule's row: what it needs, what spares it -/
def rwv (ne sp j : Nat) : Int32 := if ne.testBit j then 1 else if sp.testBit j then -1 else 0
theorem rwv_1 {ne sp j : Nat} : rwv ne sp j = nI 1 ↔ ne.testBit j = true := by
  unfold rwv
  generalize ne.testBit j = x
  generalize sp.testBit j = y
  revert x y
  decide +kernel
theorem rwv_m {ne sp j : Nat} (h : ne &&& sp = 0) : rwv ne sp j = (-1) ↔ sp.testBit j = true := by
  have h1 : (ne &&& sp).testBit j = false := by rw [h]; exact Nat.zero_testBit j
  rw [Nat.testBit_and] at h1
  unfold rwv
  revert h1
  generalize ne.testBit j = x
  generalize sp.testBit j = y
  revert x y
  decide +kernel
/-- the kinds below i neither lack nor spare -/
def okh (ne sp kq i : Nat) : Prop := ∀ j, j < i → ¬ (ne.testBit j = true ∧ kq.testBit j = false) ∧ ¬ (sp.testBit j = true ∧ kq.testBit j = true)
def anh (ne i : Nat) : Bool := decide (∃ j, j < i ∧ ne.testBit j = true)
theorem anh_s (ne i : Nat) : anh ne (i + 1) = (anh ne i || ne.testBit i) := by
  unfold anh
  by_cases h : ∃ j, j < i ∧ ne.testBit j = true
  · rw [decide_eq_true h, Bool.true_or]
    obtain ⟨j, h1, h2⟩ := h
    exact decide_eq_true ⟨j, by omega, h2⟩
  · rw [decide_eq_false h, Bool.false_or]
    cases hb : ne.testBit i
    · refine decide_eq_false (fun ⟨j, h1, h2⟩ => ?_)
      rcases Nat.lt_or_ge j i with z | z
      · exact h ⟨j, z, h2⟩
      · have e : j = i := by omega
        rw [e, hb] at h2; cases h2
    · exact decide_eq_true ⟨i, Nat.lt_succ_self i, hb⟩
theorem bit16 {x j : Nat} (h : x < 65536) (hb : x.testBit j = true) : j < 16 := by
  rcases Nat.lt_or_ge j 16 with z | z
  · exact z
  · rw [Nat.testBit_lt_two_pow (Nat.lt_of_lt_of_le h (show 65536 ≤ 2 ^ j from Nat.pow_le_pow_right (n := 2) (by decide) z))] at hb; cases hb
theorem okh_hld {ne sp kq : Nat} (h1 : ne < 65536) (h2 : sp < 65536) (h : okh ne sp kq 16) : hld ne sp kq = anh ne 16 := by
  have ha : kq &&& ne = ne := by
    apply Nat.eq_of_testBit_eq
    intro i
    rw [Nat.testBit_and]
    cases hb : ne.testBit i
    · rw [Bool.and_false]
    · have := (h i (bit16 h1 hb)).1
      cases hk : kq.testBit i
      · exact absurd ⟨hb, hk⟩ this
      · rfl
  have hs : kq &&& sp = 0 := by
    apply Nat.eq_of_testBit_eq
    intro i
    rw [Nat.testBit_and, Nat.zero_testBit]
    cases hb : sp.testBit i
    · rw [Bool.and_false]
    · have := (h i (bit16 h2 hb)).2
      cases hk : kq.testBit i
      · rfl
      · exact absurd ⟨hb, hk⟩ this
  by_cases q : ne = 0
  · rw [hld_f1 q]
    refine (decide_eq_false (fun ⟨j, _, h3⟩ => ?_)).symm
    rw [q, Nat.zero_testBit] at h3; cases h3
  · rw [hld_t q ha hs]
    refine (decide_eq_true ?_).symm
    have h3 : ∃ i, ne.testBit i = true := by
      refine Classical.byContradiction (fun z => q (Nat.eq_of_testBit_eq (fun i => ?_)))
      rw [Nat.zero_testBit]
      cases hb : ne.testBit i
      · rfl
      · exact absurd ⟨i, hb⟩ z
    obtain ⟨i, hi⟩ := h3
    exact ⟨i, bit16 h1 hi, hi⟩
theorem hld_lack {ne sp kq j : Nat} (h1 : ne.testBit j = true) (h2 : kq.testBit j = false) : hld ne sp kq = false := by
  refine hld_f2 (fun z => ?_)
  have h3 : (kq &&& ne).testBit j = true := by rw [z]; exact h1
  rw [Nat.testBit_and, h2] at h3; cases h3
theorem hld_spare {ne sp kq j : Nat} (h1 : sp.testBit j = true) (h2 : kq.testBit j = true) : hld ne sp kq = false := by
  refine hld_f3 (fun z => ?_)
  have h3 : (kq &&& sp).testBit j = true := by rw [Nat.testBit_and, h1, h2]; rfl
  rw [z, Nat.zero_testBit] at h3; cases h3
theorem okh_s {ne sp kq i : Nat} (h : okh ne sp kq i) (h1 : ¬ (ne.testBit i = true ∧ kq.testBit i = false)) (h2 : ¬ (sp.testBit i = true ∧ kq.testBit i = true)) : okh ne sp kq (i + 1) := by
  intro j hj
  rcases Nat.lt_or_ge j i with z | z
  · exact h j z
  · have e : j = i := by omega
    subst e; exact ⟨h1, h2⟩
/-- the bits of a row's kinds -/
def nsm (b : Nat → Bool) : Nat → Nat
  | 0 => 0
  | i + 1 => nsm b i + if b i then 2 ^ i else 0
theorem nsm_lt (b : Nat → Bool) : ∀ i, nsm b i < 2 ^ i
  | 0 => by show 0 < 1; decide
  | i + 1 => by
    have := nsm_lt b i
    show nsm b i + (if b i then 2 ^ i else 0) < 2 ^ (i + 1)
    rw [Nat.pow_succ]
    split <;> omega
theorem nsm_bit (b : Nat → Bool) : ∀ i j, (nsm b i).testBit j = (decide (j < i) && b j)
  | 0, j => by rw [show nsm b 0 = 0 from rfl, Nat.zero_testBit]; simp
  | i + 1, j => by
    have ih := nsm_bit b i j
    have hlt := nsm_lt b i
    show (nsm b i + (if b i then 2 ^ i else 0)).testBit j = _
    cases hb : b i
    · rw [if_neg (by decide), Nat.add_zero, ih]
      by_cases q : j < i
      · rw [decide_eq_true q, decide_eq_true (show j < i + 1 by omega)]
      · rw [decide_eq_false q, Bool.false_and]
        by_cases z : j < i + 1
        · have e : j = i := by omega
          subst e; rw [hb, Bool.and_false]
        · rw [decide_eq_false z, Bool.false_and]
    · rw [if_pos rfl]
      have h4 := Nat.two_pow_add_eq_or_of_lt hlt 1
      rw [Nat.mul_one] at h4
      rw [Nat.add_comm, h4, Nat.testBit_or, Nat.testBit_two_pow, ih]
      by_cases q : i = j
      · subst q; rw [decide_eq_true rfl, decide_eq_true (Nat.lt_succ_self i), hb]; rfl
      · rw [decide_eq_false q, Bool.false_or, decide_eq_decide.mpr (show j < i ↔ j < i + 1 by omega)]
theorem nsm_16 {x : Nat} (h : x < 65536) : nsm (fun j => x.testBit j) 16 = x := by
  apply Nat.eq_of_testBit_eq
  intro j
  rw [nsm_bit]
  by_cases q : j < 16
  · rw [decide_eq_true q]; rfl
  · rw [decide_eq_false q]
    cases hb : x.testBit j
    · rfl
    · exact absurd (bit16 h hb) q
theorem prt_00 (d : Nat) : prt d 0 0 24 = 0 := by
  apply Nat.eq_of_testBit_eq
  intro i
  rw [prt_bit, Nat.zero_testBit, decide_eq_false (Nat.not_lt_zero (cnt d i)), Bool.and_false, Bool.and_false, Bool.and_false]
/-- a row without a part, its first i places looked at -/
def rsf (g : Nat → Int32) (x0 x1 i : Nat) : Nat → Int32 := fun j => if (if j < x0 then j else j + (x1 - x0)) < i then g (if j < x0 then j else j + (x1 - x0)) else 0
theorem rsf_0 (g : Nat → Int32) (x0 x1 : Nat) : rsf g x0 x1 0 = nF (fun _ => 0) := by
  funext j
  unfold rsf
  rw [if_neg (Nat.not_lt_zero _)]; rfl
theorem rsf_k {g : Nat → Int32} {x0 x1 i : Nat} (h0 : x0 ≤ i) (h1 : i < x1) : rsf g x0 x1 i = rsf g x0 x1 (i + 1) := by
  funext j
  unfold rsf
  by_cases q : j < x0
  · rw [if_pos q, if_pos (show j < i by omega), if_pos (show j < i + 1 by omega)]
  · rw [if_neg q]
    by_cases z : j + (x1 - x0) < i
    · omega
    · rw [if_neg z, if_neg (by omega)]
theorem rsf_a {g : Nat → Int32} {x0 x1 i : Nat} (h0 : i < x0) : va_up (rsf g x0 x1 i) i (g i) = rsf g x0 x1 (i + 1) := by
  funext j
  by_cases e : j = i
  · subst e; rw [va_up_self]; unfold rsf; rw [if_pos h0, if_pos (Nat.lt_succ_self j)]
  · rw [va_up_ne _ _ e]
    unfold rsf
    by_cases q : j < x0
    · rw [if_pos q]
      by_cases z : j < i
      · rw [if_pos z, if_pos (by omega)]
      · rw [if_neg z, if_neg (by omega)]
    · rw [if_neg q, if_neg (by omega), if_neg (by omega)]
theorem rsf_b {g : Nat → Int32} {x0 x1 i : Nat} (h01 : x0 ≤ x1) (h1 : x1 ≤ i) : va_up (rsf g x0 x1 i) (i - x1 + x0) (g i) = rsf g x0 x1 (i + 1) := by
  funext j
  by_cases e : j = i - x1 + x0
  · rw [e, va_up_self]; unfold rsf
    rw [if_neg (show ¬ i - x1 + x0 < x0 by omega), show i - x1 + x0 + (x1 - x0) = i by omega, if_pos (Nat.lt_succ_self i)]
  · rw [va_up_ne _ _ e]
    unfold rsf
    by_cases q : j < x0
    · rw [if_pos q, if_pos (by omega), if_pos (by omega)]
    · rw [if_neg q]
      by_cases z : j + (x1 - x0) < i
      · rw [if_pos z, if_pos (by omega)]
      · rw [if_neg z, if_neg (by omega)]
theorem rsf_e {g : Nat → Int32} {x0 x1 m j : Nat} (h01 : x0 ≤ x1) (h1 : x1 ≤ m) (h : j < m - x1 + x0) : rsf g x0 x1 m j = g (if j < x0 then j else j + (x1 - x0)) := by
  unfold rsf
  by_cases q : j < x0
  · rw [if_pos q, if_pos (by omega)]
  · rw [if_neg q, if_pos (by omega)]
