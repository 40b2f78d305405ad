/-! ===== the reference: ranges, rows of what is known ===== -/
def inI (v lo hi : Int32) : Bool := decide (lo ≤ v) && decide (v ≤ hi)
theorem inI_t {v lo hi : Int32} (h1 : ¬ v < lo) (h2 : ¬ hi < v) : inI v lo hi = true := by
  unfold inI; rw [decide_eq_true (fa_of_nlt h1), decide_eq_true (fa_of_nlt h2)]; rfl
theorem inI_f1 {v lo hi : Int32} (h1 : v < lo) : inI v lo hi = false := by
  unfold inI; rw [decide_eq_false (fun h => (fa_of_lt h1).2.1 h)]; rfl
theorem inI_f2 {v lo hi : Int32} (h2 : hi < v) : inI v lo hi = false := by
  unfold inI; rw [decide_eq_false (p := v ≤ hi) (fun h => (fa_of_lt h2).2.1 h), Bool.and_false]
theorem pI_sub {n : Nat} (hn : n ≤ 24) : nI n - nI 1 = pI n := by
  cases n with
  | zero => decide +kernel
  | succ j => rw [pI_s, pk_sub (by omega)]; rfl
theorem inI_hp (x : Int32) {n : Nat} (hn : n ≤ 24) : inI x (nI 0) (nI n - nI 1) = hp x n := by
  have key : decide (x ≤ pI n) = decide (x < nI n) := by
    apply decide_eq_decide.mpr
    cases n with
    | zero =>
      rw [show pI 0 = -1 by decide +kernel, show nI 0 = 0 from nI_0, fa_le, fa_lt, show (-1 : Int32).toInt = -1 by decide, show (0 : Int32).toInt = 0 by decide]
      omega
    | succ j =>
      rw [pI_s, fa_le, fa_lt, nI_toInt (by omega), nI_toInt (by omega)]
      omega
  rw [pI_sub hn]
  unfold inI hp
  rw [nI_0, key]
theorem bI_1 {b : Bool} (h : bI b = nI 1) : b = true := by
  cases b
  · exact absurd h (by decide +kernel)
  · rfl
theorem bI_n1 {b : Bool} (h : ¬ bI b = nI 1) : b = false := by
  cases b
  · rfl
  · exact absurd rfl h
theorem nd_0 {a kk : Nat} : nd a kk = 0 ↔ kk &&& a = a := by
  constructor
  · intro h
    apply Nat.eq_of_testBit_eq
    intro i
    have h1 := nd_bit a kk i
    rw [h, Nat.zero_testBit] at h1
    rw [Nat.testBit_and]
    cases ha : a.testBit i <;> cases hk : kk.testBit i <;> rw [ha, hk] at h1 <;> first | rfl | exact absurd h1 (by decide)
  · intro h
    apply Nat.eq_of_testBit_eq
    intro i
    rw [nd_bit, Nat.zero_testBit]
    have h1 : (kk &&& a).testBit i = a.testBit i := by rw [h]
    rw [Nat.testBit_and] at h1
    cases ha : a.testBit i <;> cases hk : kk.testBit i <;> rw [ha, hk] at h1 <;> first | rfl | exact absurd h1 (by decide)
/-- the known dishes in a row -/
def KR (f : Nat → Nat) (K : List Nat) : Prop := ∀ j, j < K.length → f j = K.getD j 0 ∧ f j < 2 ^ 24
theorem KR_nil (f : Nat → Nat) : KR f [] := fun _ h => absurd h (Nat.not_lt_zero _)
theorem KR_put {f : Nat → Nat} {K : List Nat} (h : KR f K) {d : Nat} (hd : d < 2 ^ 24) : KR (va_up f K.length d) (K ++ [d]) := by
  intro j hj
  rw [List.length_append] at hj
  simp only [List.length_cons, List.length_nil] at hj
  unfold va_up
  rw [List.getD_eq_getElem?_getD]
  by_cases q : j < K.length
  · rw [if_neg (by omega), List.getElem?_append_left q, ← List.getD_eq_getElem?_getD]
    exact h j q
  · have e : j = K.length := by omega
    subst e
    rw [if_pos rfl, List.getElem?_append_right (Nat.le_refl _), Nat.sub_self]; exact ⟨rfl, hd⟩
theorem KR_in {f : Nat → Nat} {K : List Nat} (h : KR f K) {j d : Nat} (hj : j < K.length) (e : f j = d) : d ∈ K := by
  rw [(h j hj).1, List.getD_eq_getElem?_getD, List.getElem?_eq_getElem hj] at e
  rw [← e]; exact List.getElem_mem hj
theorem KR_out {f : Nat → Nat} {K : List Nat} (h : KR f K) {d : Nat} (e : ∀ j, j < K.length → f j ≠ d) : ¬ d ∈ K := by
  intro hd
  obtain ⟨j, hj, e2⟩ := List.getElem_of_mem hd
  refine e j hj ?_
  rw [(h j hj).1, List.getD_eq_getElem?_getD, List.getElem?_eq_getElem hj]
  exact e2
theorem FR_5' {f : Nat → Int32} {F : List Int32} {st : Nat} (h : FR f F) (hF : F.length = 5 * st) (a b c d e : Int32) : FR (va_up (va_up (va_up (va_up (va_up f (5 * st) a) (5 * st + 1) b) (5 * st + 2) c) (5 * st + 3) d) (5 * st + 4) e) (F ++ [a, b, c, d, e]) := by
  have h1 := FR_5 h hF a b c d e
  rw [Nat.mul_comm st 5] at h1
  exact h1
theorem spl_t {k ne sp : Nat → Nat} {n rc d i : Nat} (hi : i < rc) (h : hld (ne i) (sp i) (kds k d n) = true) : spl k ne sp n rc d = true := by
  have key : ∀ r, i < r → 0 < hcn ne sp (kds k d n) r := by
    intro r
    induction r with
    | zero => intro q; exact absurd q (Nat.not_lt_zero i)
    | succ r ih =>
      intro q
      show 0 < hcn ne sp (kds k d n) r + (if hld (ne r) (sp r) (kds k d n) then 1 else 0)
      rcases Nat.lt_or_ge i r with z | z
      · have := ih z; omega
      · have e : i = r := by omega
        subst e
        rw [h]; simp
  unfold spl; exact decide_eq_true (key rc hi)
theorem nI_nem1 {k : Nat} (h : k < 2 ^ 31) : ¬ nI k = -1 := by
  intro e
  have h1 := nI_toInt h
  rw [e, show (-1 : Int32).toInt = -1 by decide] at h1
  omega
theorem nd_self (x : Nat) : nd x x = 0 := by unfold nd; rw [Nat.and_self, Nat.xor_self]
theorem nd_pow_0 {d j : Nat} (h : nd d (2 ^ j) = 0) (hb : d.testBit j = true) : d = 2 ^ j := by
  apply Nat.eq_of_testBit_eq
  intro i
  rw [Nat.testBit_two_pow]
  have h1 := nd_bit d (2 ^ j) i
  rw [h, Nat.zero_testBit, Nat.testBit_two_pow] at h1
  by_cases q : j = i
  · subst q; rw [hb, decide_eq_true rfl]
  · rw [decide_eq_false q, Bool.not_false, Bool.and_true] at h1
    rw [decide_eq_false q, ← h1]
/-- a turn of the reference's search, with one unit of fuel less -/
theorem mgo_s {sp : Nat → Bool} {x y R : hS4} {f : Nat} (hy : hst sp x = (true, y)) (hI : hIn x) (hm : hmu (cnt x.1 24) x.2.1 < f + 1) (h5 : x.2.2.2.length % 5 = 0) (hF : x.2.2.2.length + 5 * (f + 1) ≤ 640) (hr : hrn sp (f + 1) x = R) :
    hIn y ∧ hmu (cnt y.1 24) y.2.1 < f ∧ y.2.2.2.length % 5 = 0 ∧ y.2.2.2.length + 5 * f ≤ 640 ∧ hrn sp f y = R := by
  have e1 : (hst sp x).1 = true := by rw [hy]
  have e2 : (hst sp x).2 = y := by rw [hy]
  have h1 := hst_ok sp x hI e1
  rw [hrn_go e1, e2] at hr
  rw [e2] at h1
  obtain ⟨a, b, c, -⟩ := h1
  exact ⟨a, by omega, by omega, by omega, hr⟩
theorem mgo_e {sp : Nat → Bool} {x y R : hS4} {f : Nat} (hy : hst sp x = (false, y)) (hr : hrn sp (f + 1) x = R) : y = R := by
  have e1 : (hst sp x).1 = false := by rw [hy]
  have e2 : (hst sp x).2 = y := by rw [hy]
  rw [hrn_no e1, e2] at hr
  exact hr
theorem hal_m {sp : Nat → Bool} {w : Nat} {R : hS4} (hw : w < 2 ^ 24) (hs : sp w = true) (hR : hal sp w = R) : hIn (w, 2, [w], ([] : List Int32)) ∧ hmu (cnt w 24) 2 < 128 ∧ hrn sp 128 (w, 2, [w], ([] : List Int32)) = R := by
  unfold hal at hR
  rw [if_pos hs] at hR
  have h1 := cnt_le w 24
  have h2 := hph_num4 (cnt w 24) (by omega)
  refine ⟨⟨hw, Nat.le_refl 2, Or.inr rfl, by show 1 + hph (cnt w 24) 2 ≤ 1798; omega⟩, ?_, hR⟩
  unfold hmu
  split
  · omega
  · split <;> (try split) <;> (try split) <;> omega
theorem hal_f {sp : Nat → Bool} {w : Nat} (hs : sp w = false) : hal sp w = (0, 2, [w], ([] : List Int32)) := by
  unfold hal; rw [if_neg (by rw [hs]; decide)]
theorem two_pow24 {n : Nat} (hn : n ≤ 24) : 1 ≤ 2 ^ n ∧ 2 ^ n ≤ 2 ^ 24 := ⟨Nat.one_le_two_pow, Nat.pow_le_pow_right (by decide) hn⟩
theorem prt_y {d a b n : Nat} (h : d.testBit n = true) (h1 : a ≤ cnt d n) (h2 : cnt d n < b) : prt d a b (n + 1) = prt d a b n ||| 2 ^ n := by
  show (if d.testBit n && (decide (a ≤ cnt d n) && decide (cnt d n < b)) then prt d a b n ||| 2 ^ n else prt d a b n) = _
  rw [h, decide_eq_true h1, decide_eq_true h2]; rfl
theorem prt_a {d a b n : Nat} (h1 : ¬ a ≤ cnt d n) : prt d a b (n + 1) = prt d a b n := by
  show (if d.testBit n && (decide (a ≤ cnt d n) && decide (cnt d n < b)) then prt d a b n ||| 2 ^ n else prt d a b n) = _
  rw [decide_eq_false h1, Bool.false_and, Bool.and_false, if_neg (by decide)]
theorem obl_f {sp : Nat → Bool} {w : Nat} (hs : sp w = false) : obl sp w = (0, [w]) := by
  unfold obl; rw [if_neg (by rw [hs]; decide)]
theorem obl_t {sp : Nat → Bool} {n d2 : Nat} {K2 : List Nat} (hn : n ≤ 24) (hs : sp (2 ^ n - 1) = true) (hR : obl sp (2 ^ n - 1) = (d2, K2)) : obo sp n (2 ^ n - 1) [2 ^ n - 1] = (d2, K2) := by
  unfold obl at hR
  rw [if_pos hs] at hR
  have h1 := obo_skip sp n (2 ^ n - 1) [2 ^ n - 1] (by have := Nat.one_le_two_pow (n := n); omega) (24 - n)
  rw [show n + (24 - n) = 24 by omega] at h1
  rw [← h1]; exact hR
theorem nd_pow_b {d j q : Nat} (hq : j ≠ q) (h : d.testBit q = true) : (nd d (2 ^ j)).testBit q = true := by
  rw [nd_bit, Nat.testBit_two_pow, decide_eq_false hq, h]; rfl
