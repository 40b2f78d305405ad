/-! ===== parts of a dish ===== -/
theorem prt_bit (d a b : Nat) : ∀ n i, (prt d a b n).testBit i = (decide (i < n) && (d.testBit i && (decide (a ≤ cnt d i) && decide (cnt d i < b))))
  | 0, i => by unfold prt; simp
  | n + 1, i => by
    have ih := prt_bit d a b n i
    show (if d.testBit n && (decide (a ≤ cnt d n) && decide (cnt d n < b)) then prt d a b n ||| 2 ^ n else prt d a b n).testBit i = _
    by_cases hi : i = n
    · subst hi
      have h1 : (decide (i < i)) = false := decide_eq_false (Nat.lt_irrefl i)
      have h2 : (decide (i < i + 1)) = true := decide_eq_true (Nat.lt_succ_self i)
      rw [h1, Bool.false_and] at ih
      rw [h2, Bool.true_and]
      by_cases hc : (d.testBit i && (decide (a ≤ cnt d i) && decide (cnt d i < b))) = true
      · rw [if_pos hc, Nat.testBit_or, Nat.testBit_two_pow_self, Bool.or_true, hc]
      · rw [if_neg hc, ih]; exact (Bool.eq_false_iff.mpr hc).symm
    · have h3 : decide (i < n + 1) = decide (i < n) := decide_eq_decide.mpr (by omega)
      have h4 : (2 ^ n).testBit i = false := by rw [Nat.testBit_two_pow]; exact decide_eq_false (fun h => hi h.symm)
      rw [h3, ← ih]
      split
      · rw [Nat.testBit_or, h4, Bool.or_false]
      · rfl
theorem prt_lt (d a b : Nat) {n : Nat} : prt d a b n < 2 ^ n := Nat.lt_pow_two_of_testBit _ (fun i hi => by rw [prt_bit, decide_eq_false (by omega), Bool.false_and])
theorem cnt_mono (d : Nat) {i : Nat} : ∀ {j : Nat}, i ≤ j → cnt d i ≤ cnt d j
  | 0, h => by rw [Nat.le_zero.mp h]; exact Nat.le_refl _
  | j + 1, h => by
    rcases Nat.lt_or_ge i (j + 1) with q | q
    · have := cnt_mono d (i := i) (j := j) (by omega)
      rw [cnt_succ]; omega
    · have e : i = j + 1 := by omega
      rw [e]; exact Nat.le_refl _
theorem cnt_prt (d : Nat) {a b : Nat} (hab : a ≤ b) (n : Nat) : ∀ p, p ≤ n → cnt (prt d a b n) p = if cnt d p ≤ a then 0 else if cnt d p ≤ b then cnt d p - a else b - a
  | 0, _ => by rw [if_pos (show cnt d 0 ≤ a from Nat.zero_le _)]; rfl
  | p + 1, hp => by
    have ih := cnt_prt d hab n p (by omega)
    rw [cnt_succ, cnt_succ, prt_bit, ih, decide_eq_true (show p < n by omega), Bool.true_and]
    cases hb : d.testBit p
    · simp
    · simp only [Bool.true_and, if_true]
      by_cases h1 : a ≤ cnt d p
      · by_cases h2 : cnt d p < b
        · rw [decide_eq_true h1, decide_eq_true h2]
          simp only [Bool.and_self, if_true]
          split <;> split <;> (try split) <;> (try split) <;> omega
        · rw [decide_eq_true h1, decide_eq_false h2]
          simp only [Bool.and_false, Bool.false_eq_true, if_false]
          split <;> split <;> (try split) <;> (try split) <;> omega
      · rw [decide_eq_false h1]
        simp only [Bool.false_and, Bool.false_eq_true, if_false]
        split <;> split <;> (try split) <;> (try split) <;> omega
theorem cnt_part (d : Nat) {a b : Nat} (hab : a ≤ b) (hb : b ≤ cnt d 24) : cnt (prt d a b 24) 24 = b - a := by
  rw [cnt_prt d hab 24 24 (Nat.le_refl _)]
  split
  · omega
  · split <;> omega
theorem cnt_nd (d x : Nat) (h : ∀ q, x.testBit q = true → d.testBit q = true) : ∀ p, cnt (nd d x) p + cnt x p = cnt d p
  | 0 => rfl
  | p + 1 => by
    have ih := cnt_nd d x h p
    rw [cnt_succ, cnt_succ, cnt_succ, nd_bit]
    have h1 := h p
    cases hx : x.testBit p <;> cases hd : d.testBit p
    · simp; omega
    · simp; omega
    · rw [hd, hx] at h1; exact absurd (h1 rfl) (by decide)
    · simp; omega
theorem prt_sub (d a b n q : Nat) (h : (prt d a b n).testBit q = true) : d.testBit q = true := by
  rw [prt_bit] at h
  simp only [Bool.and_eq_true] at h
  exact h.2.1
theorem cnt_part_nd (d : Nat) {a b : Nat} (hab : a ≤ b) (hb : b ≤ cnt d 24) : cnt (nd d (prt d a b 24)) 24 = cnt d 24 - (b - a) := by
  have h1 := cnt_nd d (prt d a b 24) (fun q => prt_sub d a b 24 q) 24
  have h2 := cnt_part d hab hb
  omega
theorem prt_nd (d : Nat) {a b : Nat} (hab : a ≤ b) : nd (prt d 0 b 24) (prt d 0 a 24) = prt d a b 24 := by
  apply Nat.eq_of_testBit_eq
  intro i
  rw [nd_bit, prt_bit, prt_bit, prt_bit]
  by_cases h : i < 24
  · rw [decide_eq_true h]
    cases d.testBit i
    · rfl
    · simp only [Bool.true_and, Nat.zero_le, decide_true]
      by_cases h1 : cnt d i < b
      · by_cases h2 : cnt d i < a
        · rw [decide_eq_true h1, decide_eq_true h2, decide_eq_false (show ¬ a ≤ cnt d i by omega)]; rfl
        · rw [decide_eq_true h1, decide_eq_false h2, decide_eq_true (show a ≤ cnt d i by omega)]; rfl
      · rw [decide_eq_false h1, Bool.and_false]; rfl
  · rw [decide_eq_false h]; rfl
/-- the part of number k of n -/
def pto (d n k : Nat) : Nat := prt d (k * cnt d 24 / n) ((k + 1) * cnt d 24 / n) 24
theorem pto_lt (d n k : Nat) : pto d n k < 2 ^ 24 := prt_lt _ _ _
/-! ===== searches ===== -/
/-- looked at: what is known then -/
def lk (K : List Nat) (x : Nat) : List Nat := if x ∈ K then K else K ++ [x]
theorem lk_in {K : List Nat} {x : Nat} (h : x ∈ K) : lk K x = K := if_pos h
theorem lk_new {K : List Nat} {x : Nat} (h : ¬ x ∈ K) : lk K x = K ++ [x] := if_neg h
theorem lk_le (K : List Nat) (x : Nat) : (lk K x).length ≤ K.length + 1 := by
  unfold lk; split
  · omega
  · rw [List.length_append]; exact Nat.le_refl _
theorem lk_ge (K : List Nat) (x : Nat) : K.length ≤ (lk K x).length := by
  unfold lk; split
  · exact Nat.le_refl _
  · rw [List.length_append]; omega
/-- the first of the dishes mk k, mk (k + 1) .. (f of them) that spoils, and what is known then -/
def fst1 (sp : Nat → Bool) (mk : Nat → Nat) : Nat → Nat → List Nat → Option Nat × List Nat
  | 0, _, K => (none, K)
  | f + 1, k, K => if sp (mk k) then (some k, lk K (mk k)) else fst1 sp mk f (k + 1) (lk K (mk k))
theorem fst1_t {sp : Nat → Bool} {mk : Nat → Nat} {f k : Nat} {K : List Nat} (h : sp (mk k) = true) : fst1 sp mk (f + 1) k K = (some k, lk K (mk k)) := if_pos h
theorem fst1_f {sp : Nat → Bool} {mk : Nat → Nat} {f k : Nat} {K : List Nat} (h : sp (mk k) = false) : fst1 sp mk (f + 1) k K = fst1 sp mk f (k + 1) (lk K (mk k)) := if_neg (by rw [h]; decide)
theorem fst1_le (sp : Nat → Bool) (mk : Nat → Nat) : ∀ f k K, (fst1 sp mk f k K).2.length ≤ K.length + f ∧ K.length ≤ (fst1 sp mk f k K).2.length
  | 0, k, K => ⟨Nat.le_refl _, Nat.le_refl _⟩
  | f + 1, k, K => by
    have h1 := lk_le K (mk k)
    have h2 := lk_ge K (mk k)
    cases hs : sp (mk k)
    · rw [fst1_f hs]
      have ih := fst1_le sp mk f (k + 1) (lk K (mk k))
      omega
    · rw [fst1_t hs]; show (lk K (mk k)).length ≤ _ ∧ _ ≤ (lk K (mk k)).length; omega
theorem fst1_some (sp : Nat → Bool) (mk : Nat → Nat) : ∀ f k K i, (fst1 sp mk f k K).1 = some i → k ≤ i ∧ i < k + f ∧ sp (mk i) = true
  | 0, k, K, i, h => by cases h
  | f + 1, k, K, i, h => by
    cases hs : sp (mk k)
    · rw [fst1_f hs] at h
      have ih := fst1_some sp mk f (k + 1) _ i h
      exact ⟨by omega, by omega, ih.2.2⟩
    · rw [fst1_t hs] at h
      cases h
      exact ⟨Nat.le_refl _, by omega, hs⟩
/-- a search's state: the dish, how many parts, what is known, what the steps tell -/
abbrev hS4 : Type := Nat × Nat × List Nat × List Int32
/-- a turn of the search by halves: whether it goes on, and what is then -/
def hst (sp : Nat → Bool) (x : hS4) : Bool × hS4 :=
  if cnt x.1 24 ≤ 1 then (false, x) else
  match fst1 sp (pto x.1 x.2.1) x.2.1 0 x.2.2.1 with
  | (some k, K1) => (true, (pto x.1 x.2.1 k, 2, K1, x.2.2.2 ++ [nI (cnt x.1 24), nI x.2.1, nI 1, nI k, nI (pto x.1 x.2.1 k)]))
  | (none, K1) =>
    match (if 2 < x.2.1 then fst1 sp (fun k => nd x.1 (pto x.1 x.2.1 k)) x.2.1 0 K1 else (none, K1)) with
    | (some k, K2) => (true, (nd x.1 (pto x.1 x.2.1 k), x.2.1 - 1, K2, x.2.2.2 ++ [nI (cnt x.1 24), nI x.2.1, nI 2, nI k, nI (nd x.1 (pto x.1 x.2.1 k))]))
    | (none, K2) => if x.2.1 < cnt x.1 24 then (true, (x.1, min (x.2.1 * 2) (cnt x.1 24), K2, x.2.2.2 ++ [nI (cnt x.1 24), nI x.2.1, nI 3, -1, nI x.1])) else (false, (x.1, x.2.1, K2, x.2.2.2))
def hrn (sp : Nat → Bool) : Nat → hS4 → hS4
  | 0, x => x
  | f + 1, x => if (hst sp x).1 then hrn sp f (hst sp x).2 else (hst sp x).2
/-- the search by halves of a dish: its list, and the state behind -/
def hal (sp : Nat → Bool) (w : Nat) : hS4 := if sp w then hrn sp 128 (w, 2, [w], []) else (0, 2, [w], [])
def pto_ok (m n k : Nat) : Bool := !(decide (k < n) && decide (2 ≤ n) && decide (n ≤ m)) || (decide (k * m / n < (k + 1) * m / n) && decide ((k + 1) * m / n ≤ m) && decide ((k + 1) * m / n - k * m / n + (n - 1) ≤ m))
theorem pto_num0 : ∀ m, m < 25 → ∀ n, n < 25 → ∀ k, k < 25 → pto_ok m n k = true := by decide +kernel
theorem pto_num {m n k : Nat} (hm : m < 25) (hk : k < n) (h2 : 2 ≤ n) (hn : n ≤ m) : k * m / n < (k + 1) * m / n ∧ (k + 1) * m / n ≤ m ∧ (k + 1) * m / n - k * m / n + (n - 1) ≤ m := by
  have h := pto_num0 m hm n (by omega) k (by omega)
  unfold pto_ok at h
  rw [decide_eq_true hk, decide_eq_true h2, decide_eq_true hn] at h
  simp only [Bool.and_self, Bool.not_true, Bool.false_or, Bool.and_eq_true, decide_eq_true_eq] at h
  exact ⟨h.1.1, h.1.2, h.2⟩
def hmu (m n : Nat) : Nat := 5 * m + (if m ≤ n then 0 else if 12 ≤ n then 1 else if 6 ≤ n then 2 else if 3 ≤ n then 3 else 4)
def hph (m n : Nat) : Nat := 3 * m * (m - 1) + (if m ≤ n then 2 * m else 6 * m - 2 * n)
theorem hmu_num : ∀ m, m < 25 → ∀ m', m' < m → ∀ n, n < 25 → ∀ n', n' < 25 → 2 ≤ n' → hmu m' n' < hmu m n := by
  intro m _ m' h n _ n' _ hn'
  unfold hmu
  split <;> split <;> (try split) <;> (try split) <;> (try split) <;> (try split) <;> (try split) <;> (try split) <;> omega
theorem hmu_num2 : ∀ m, m < 25 → ∀ n, n < 25 → 2 ≤ n → n < m → hmu m (min (n * 2) m) < hmu m n := by decide +kernel
theorem hph_up : ∀ m, m < 25 → ∀ n, n < 25 → (2 ≤ n → hph m n ≤ 3 * m * (m + 1)) := by decide +kernel
theorem hph_sq : ∀ m, m < 25 → ∀ m', m' < 25 → (m' < m → 3 * m' * (m' + 1) ≤ 3 * m * (m - 1)) := by decide +kernel
theorem hph_dn : ∀ m, m < 25 → ∀ n, n < 25 → (2 ≤ n ∧ n ≤ m → 2 * n + 3 * m * (m - 1) ≤ hph m n) := by decide +kernel
theorem hph_num {m m' n n' : Nat} (hm : m < 25) (h : m' < m) (hn' : n' < 25) (h2 : 2 ≤ n) (hn : n ≤ m) (h2' : 2 ≤ n') : 2 * n + hph m' n' ≤ hph m n := by
  have a1 := hph_up m' (by omega) n' hn' h2'
  have a2 := hph_sq m hm m' (by omega) h
  have a3 := hph_dn m hm n (by omega) ⟨h2, hn⟩
  omega
theorem hph_num2 : ∀ m, m < 25 → ∀ n, n < 25 → 2 ≤ n → n < m → 2 * n + hph m (min (n * 2) m) ≤ hph m n := by decide +kernel
theorem hph_num3 : ∀ m, m < 25 → ∀ n, n < 25 → 2 ≤ n → n ≤ m → 2 * n ≤ hph m n := by decide +kernel
theorem hph_num4 : ∀ m, m < 25 → hph m 2 ≤ 1797 := by decide +kernel
/-- what holds at each turn's head -/
def hIn (x : hS4) : Prop := x.1 < 2 ^ 24 ∧ 2 ≤ x.2.1 ∧ (x.2.1 ≤ cnt x.1 24 ∨ x.2.1 = 2) ∧ x.2.2.1.length + hph (cnt x.1 24) x.2.1 ≤ 1798
theorem fst1_mk (sp : Nat → Bool) (mk : Nat → Nat) (f : Nat) (K : List Nat) (i : Nat) (K1 : List Nat) (h : fst1 sp mk f 0 K = (some i, K1)) : i < f ∧ sp (mk i) = true ∧ K1.length ≤ K.length + f := by
  have h1 := fst1_some sp mk f 0 K i (by rw [h])
  have h2 := (fst1_le sp mk f 0 K).1
  rw [h] at h2
  exact ⟨by omega, h1.2.2, h2⟩
theorem fst1_mn (sp : Nat → Bool) (mk : Nat → Nat) (f : Nat) (K : List Nat) (o : Option Nat) (K1 : List Nat) (h : fst1 sp mk f 0 K = (o, K1)) : K1.length ≤ K.length + f := by
  have h2 := (fst1_le sp mk f 0 K).1
  rw [h] at h2
  exact h2
/-- a turn keeps what holds at the head; the measure falls while it goes on; what the steps tell grows by one at most -/
theorem hst_ok (sp : Nat → Bool) (x : hS4) (h : hIn x) (hg : (hst sp x).1 = true) : hIn (hst sp x).2 ∧ hmu (cnt (hst sp x).2.1 24) (hst sp x).2.2.1 < hmu (cnt x.1 24) x.2.1 ∧ (hst sp x).2.2.2.2.length = x.2.2.2.length + 5 ∧ (x.1 < 2 ^ 23 → (hst sp x).2.1 < 2 ^ 23) := by
  obtain ⟨d, n, K, F⟩ := x
  obtain ⟨hd, h2, hn, hK⟩ := h
  simp only at hd h2 hn hK
  have hm := cnt_le d 24
  have sub23 : ∀ y, (∀ q, y.testBit q = true → d.testBit q = true) → d < 2 ^ 23 → y < 2 ^ 23 := fun y hy hd3 => Nat.lt_pow_two_of_testBit _ (fun i hi => by
    cases hq : y.testBit i
    · rfl
    · have := hy i hq
      rw [Nat.testBit_lt_two_pow (Nat.lt_of_lt_of_le hd3 (Nat.pow_le_pow_right (by decide) hi))] at this
      exact absurd this (by decide))
  unfold hst at hg ⊢
  simp only at hg ⊢
  by_cases h1 : cnt d 24 ≤ 1
  · rw [if_pos h1] at hg; cases hg
  · rw [if_neg h1] at hg ⊢
    have hn' : n ≤ cnt d 24 := by omega
    have hpt := fun (k : Nat) (hk : k < n) => pto_num (m := cnt d 24) (by omega) hk h2 hn'
    have hp1 : ∀ k, k < n → cnt (pto d n k) 24 = (k + 1) * cnt d 24 / n - k * cnt d 24 / n := fun k hk => cnt_part d (Nat.le_of_lt (hpt k hk).1) (hpt k hk).2.1
    have hp2 : ∀ k, k < n → cnt (nd d (pto d n k)) 24 = cnt d 24 - ((k + 1) * cnt d 24 / n - k * cnt d 24 / n) := fun k hk => cnt_part_nd d (Nat.le_of_lt (hpt k hk).1) (hpt k hk).2.1
    rcases e1 : fst1 sp (pto d n) n 0 K with ⟨o1, K1⟩
    rw [e1] at hg
    cases o1 with
    | some k =>
      simp only
      obtain ⟨hk, -, hL⟩ := fst1_mk sp _ n K k K1 e1
      have a1 := hpt k hk
      have a2 := hp1 k hk
      have a3 := hph_num (m := cnt d 24) (m' := cnt (pto d n k) 24) (n := n) (n' := 2) (by omega) (by omega) (by omega) h2 hn' (by omega)
      have a4 := hmu_num (cnt d 24) (by omega) (cnt (pto d n k) 24) (by omega) n (by omega) 2 (by omega) (by omega)
      exact ⟨⟨pto_lt d n k, Nat.le_refl 2, Or.inr rfl, by show K1.length + hph (cnt (pto d n k) 24) 2 ≤ 1798; omega⟩, a4, by simp, sub23 _ (fun q => prt_sub d _ _ 24 q)⟩
    | none =>
      simp only at hg ⊢
      have hL := fst1_mn sp _ n K none K1 e1
      rcases e2 : (if 2 < n then fst1 sp (fun k => nd d (pto d n k)) n 0 K1 else (none, K1)) with ⟨o2, K2⟩
      rw [e2] at hg
      have hL2 : K2.length ≤ K1.length + n := by
        by_cases h3 : 2 < n
        · rw [if_pos h3] at e2; exact fst1_mn sp _ n K1 o2 K2 e2
        · rw [if_neg h3] at e2; cases e2; omega
      cases o2 with
      | some k =>
        simp only
        have h3 : 2 < n := by
          rcases Nat.lt_or_ge 2 n with q | q
          · exact q
          · rw [if_neg (by omega)] at e2; cases e2
        rw [if_pos h3] at e2
        obtain ⟨hk, -, -⟩ := fst1_mk sp _ n K1 k K2 e2
        have a1 := hpt k hk
        have a2 := hp2 k hk
        have a3 := hph_num (m := cnt d 24) (m' := cnt (nd d (pto d n k)) 24) (n := n) (n' := n - 1) (by omega) (by omega) (by omega) h2 hn' (by omega)
        have a4 := hmu_num (cnt d 24) (by omega) (cnt (nd d (pto d n k)) 24) (by omega) n (by omega) (n - 1) (by omega) (by omega)
        exact ⟨⟨nd_lt hd, by show 2 ≤ n - 1; omega, Or.inl (by show n - 1 ≤ cnt (nd d (pto d n k)) 24; omega), by show K2.length + hph (cnt (nd d (pto d n k)) 24) (n - 1) ≤ 1798; omega⟩, a4, by simp, sub23 _ (fun q hq => by rw [nd_bit] at hq; simp only [Bool.and_eq_true] at hq; exact hq.1)⟩
      | none =>
        simp only at hg ⊢
        by_cases h4 : n < cnt d 24
        · rw [if_pos h4]
          simp only
          have a3 := hph_num2 (cnt d 24) (by omega) n (by omega) h2 h4
          have a4 := hmu_num2 (cnt d 24) (by omega) n (by omega) h2 h4
          have a5 : 2 ≤ min (n * 2) (cnt d 24) := by rw [Nat.le_min]; omega
          exact ⟨⟨hd, a5, Or.inl (Nat.min_le_right _ _), by show K2.length + hph (cnt d 24) (min (n * 2) (cnt d 24)) ≤ 1798; omega⟩, a4, by simp, fun q => q⟩
        · rw [if_neg h4] at hg; cases hg
/-- the search goes at most 128 turns: with fuel enough it has ended -/
theorem hrn_end (sp : Nat → Bool) : ∀ f x, hIn x → hmu (cnt x.1 24) x.2.1 < f → (hst sp (hrn sp f x)).1 = false ∨ ∃ y, hIn y ∧ (hst sp y).1 = false ∧ hrn sp f x = (hst sp y).2
  | 0, x, _, h => absurd h (Nat.not_lt_zero _)
  | f + 1, x, hi, h => by
    show (hst sp (if (hst sp x).1 then hrn sp f (hst sp x).2 else (hst sp x).2)).1 = false ∨ ∃ y, hIn y ∧ (hst sp y).1 = false ∧ (if (hst sp x).1 then hrn sp f (hst sp x).2 else (hst sp x).2) = (hst sp y).2
    cases hg : (hst sp x).1
    · rw [if_neg (by decide)]
      exact Or.inr ⟨x, hi, hg, rfl⟩
    · rw [if_pos rfl]
      have h1 := hst_ok sp x hi hg
      exact hrn_end sp f _ h1.1 (by omega)
theorem hrn_go {sp : Nat → Bool} {f : Nat} {x : hS4} (h : (hst sp x).1 = true) : hrn sp (f + 1) x = hrn sp f (hst sp x).2 := if_pos h
theorem hrn_no {sp : Nat → Bool} {f : Nat} {x : hS4} (h : (hst sp x).1 = false) : hrn sp (f + 1) x = (hst sp x).2 := if_neg (by rw [h]; decide)
/-! ===== the search one by one ===== -/
def obo (sp : Nat → Bool) : Nat → Nat → List Nat → Nat × List Nat
  | 0, d, K => (d, K)
  | p + 1, d, K => if d.testBit p = true ∧ nd d (2 ^ p) ≠ 0 then (if sp (nd d (2 ^ p)) then obo sp p (nd d (2 ^ p)) (lk K (nd d (2 ^ p))) else obo sp p d (lk K (nd d (2 ^ p)))) else obo sp p d K
theorem obo_s {sp : Nat → Bool} {p d : Nat} {K : List Nat} (h1 : d.testBit p = true) (h2 : ¬ nd d (2 ^ p) = 0) (h3 : sp (nd d (2 ^ p)) = true) : obo sp (p + 1) d K = obo sp p (nd d (2 ^ p)) (lk K (nd d (2 ^ p))) := by
  show (if d.testBit p = true ∧ nd d (2 ^ p) ≠ 0 then _ else _) = _
  rw [if_pos ⟨h1, h2⟩, if_pos h3]
theorem obo_n {sp : Nat → Bool} {p d : Nat} {K : List Nat} (h1 : d.testBit p = true) (h2 : ¬ nd d (2 ^ p) = 0) (h3 : sp (nd d (2 ^ p)) = false) : obo sp (p + 1) d K = obo sp p d (lk K (nd d (2 ^ p))) := by
  show (if d.testBit p = true ∧ nd d (2 ^ p) ≠ 0 then _ else _) = _
  rw [if_pos ⟨h1, h2⟩, if_neg (by rw [h3]; decide)]
theorem obo_k {sp : Nat → Bool} {p d : Nat} {K : List Nat} (h : d.testBit p = false ∨ nd d (2 ^ p) = 0) : obo sp (p + 1) d K = obo sp p d K := by
  show (if d.testBit p = true ∧ nd d (2 ^ p) ≠ 0 then _ else _) = _
  rw [if_neg]
  rintro ⟨q1, q2⟩
  rcases h with h | h
  · rw [h] at q1; cases q1
  · exact q2 h
theorem obo_skip (sp : Nat → Bool) (n d : Nat) (K : List Nat) (hd : d < 2 ^ n) : ∀ q, obo sp (n + q) d K = obo sp n d K
  | 0 => rfl
  | q + 1 => by
    have ih := obo_skip sp n d K hd q
    rw [← ih]
    exact obo_k (Or.inl (Nat.testBit_lt_two_pow (Nat.lt_of_lt_of_le hd (Nat.pow_le_pow_right (by decide) (Nat.le_add_right n q)))))
theorem obo_le (sp : Nat → Bool) : ∀ p d K, (obo sp p d K).2.length ≤ K.length + p
  | 0, d, K => Nat.le_refl _
  | p + 1, d, K => by
    show (if d.testBit p = true ∧ nd d (2 ^ p) ≠ 0 then (if sp (nd d (2 ^ p)) then obo sp p (nd d (2 ^ p)) (lk K (nd d (2 ^ p))) else obo sp p d (lk K (nd d (2 ^ p)))) else obo sp p d K).2.length ≤ _
    have h1 := lk_le K (nd d (2 ^ p))
    split
    · split
      · have := obo_le sp p (nd d (2 ^ p)) (lk K (nd d (2 ^ p))); omega
      · have := obo_le sp p d (lk K (nd d (2 ^ p))); omega
    · have := obo_le sp p d K; omega
/-- the search one by one of a dish -/
def obl (sp : Nat → Bool) (w : Nat) : Nat × List Nat := if sp w then obo sp 24 w [w] else (0, [w])
/-- whether a dish spoils -/
def spl (k ne sp : Nat → Nat) (n rc : Nat) (d : Nat) : Bool := decide (0 < hcn ne sp (kds k d n) rc)
