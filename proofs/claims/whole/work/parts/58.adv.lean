/-! ===== a place left out of the recipe, and of the dish ===== -/
theorem avb_congr {f g : Nat → Nat} : ∀ n, (∀ p, p < n → f p = g p) → avb f n = avb g n
  | 0, _ => rfl
  | n + 1, h => by
    show (if (avb f n).1 = none ∨ f n < (avb f n).2 then (some n, f n) else avb f n) = if (avb g n).1 = none ∨ g n < (avb g n).2 then (some n, g n) else avb g n
    rw [avb_congr n (fun p hp => h p (by omega)), h n (Nat.lt_succ_self n)]
/-- a dish with a gap at place r -/
def ex (r d : Nat) : Nat := (d &&& (2 ^ r - 1)) ||| ((d >>> r) <<< (r + 1))
theorem ex_lo {r d i : Nat} (h : i < r) : (ex r d).testBit i = d.testBit i := by
  unfold ex
  rw [Nat.testBit_or, Nat.testBit_and, Nat.testBit_two_pow_sub_one, Nat.testBit_shiftLeft, decide_eq_true h, decide_eq_false (show ¬ i ≥ r + 1 by omega), Bool.and_true, Bool.false_and, Bool.or_false]
theorem ex_at (r d : Nat) : (ex r d).testBit r = false := by
  unfold ex
  rw [Nat.testBit_or, Nat.testBit_and, Nat.testBit_two_pow_sub_one, Nat.testBit_shiftLeft, decide_eq_false (show ¬ r < r by omega), decide_eq_false (show ¬ r ≥ r + 1 by omega), Bool.and_false, Bool.false_and, Bool.or_false]
theorem ex_hi {r d i : Nat} (h : r ≤ i) : (ex r d).testBit (i + 1) = d.testBit i := by
  unfold ex
  rw [Nat.testBit_or, Nat.testBit_and, Nat.testBit_two_pow_sub_one, Nat.testBit_shiftLeft, Nat.testBit_shiftRight, decide_eq_false (show ¬ i + 1 < r by omega), decide_eq_true (show i + 1 ≥ r + 1 by omega), Bool.and_false, Bool.false_or, Bool.true_and, show r + (i + 1 - (r + 1)) = i by omega]
theorem ex_ext {r a b : Nat} (hlo : ∀ i, i < r → a.testBit i = (ex r b).testBit i) (hat : a.testBit r = false) (hhi : ∀ i, r ≤ i → a.testBit (i + 1) = (ex r b).testBit (i + 1)) : a = ex r b := by
  apply Nat.eq_of_testBit_eq
  intro i
  rcases Nat.lt_trichotomy i r with q | q | q
  · exact hlo i q
  · subst q; rw [hat, ex_at]
  · obtain ⟨j, rfl⟩ : ∃ j, i = j + 1 := ⟨i - 1, by omega⟩
    exact hhi j (by omega)
theorem ex_inj {r a b : Nat} (h : ex r a = ex r b) : a = b := by
  apply Nat.eq_of_testBit_eq
  intro i
  rcases Nat.lt_or_ge i r with q | q
  · rw [← ex_lo (d := a) q, ← ex_lo (d := b) q, h]
  · rw [← ex_hi (d := a) q, ← ex_hi (d := b) q, h]
theorem ex_nd (r a b : Nat) : nd (ex r a) (ex r b) = ex r (nd a b) := by
  apply ex_ext
  · intro i h; rw [nd_bit, ex_lo h, ex_lo h, ex_lo h, nd_bit]
  · rw [nd_bit, ex_at, Bool.false_and]
  · intro i h; rw [nd_bit, ex_hi h, ex_hi h, ex_hi h, nd_bit]
theorem ex_whole {n r : Nat} (h : r < n) : nd (2 ^ n - 1) (2 ^ r) = ex r (2 ^ (n - 1) - 1) := by
  apply ex_ext
  · intro i q; rw [nd_bit, ex_lo q, Nat.testBit_two_pow_sub_one, Nat.testBit_two_pow_sub_one, Nat.testBit_two_pow, decide_eq_true (show i < n by omega), decide_eq_true (show i < n - 1 by omega), decide_eq_false (show ¬ r = i by omega)]; rfl
  · rw [nd_bit, Nat.testBit_two_pow, decide_eq_true rfl, Bool.not_true, Bool.and_false]
  · intro i q
    rw [nd_bit, ex_hi q, Nat.testBit_two_pow_sub_one, Nat.testBit_two_pow_sub_one, Nat.testBit_two_pow, decide_eq_false (show ¬ r = i + 1 by omega), Bool.not_false, Bool.and_true]
    exact decide_eq_decide.mpr (by omega)
theorem cnt_ex_lo (r d : Nat) : ∀ i, i ≤ r → cnt (ex r d) i = cnt d i
  | 0, _ => rfl
  | i + 1, h => by rw [cnt_succ, cnt_succ, cnt_ex_lo r d i (by omega), ex_lo (by omega)]
theorem cnt_ex_hi (r d : Nat) : ∀ j, cnt (ex r d) (r + j + 1) = cnt d (r + j)
  | 0 => by rw [cnt_succ, Nat.add_zero, ex_at, cnt_ex_lo r d r (Nat.le_refl r)]; rfl
  | j + 1 => by
    rw [cnt_succ, show r + (j + 1) = r + j + 1 by omega, cnt_ex_hi r d j, ex_hi (by omega), cnt_succ]
theorem cnt_ex_h {r d i : Nat} (h : r ≤ i) : cnt (ex r d) (i + 1) = cnt d i := by
  have := cnt_ex_hi r d (i - r)
  rw [show r + (i - r) = i by omega] at this
  exact this
theorem cnt_ex {r d : Nat} (hr : r ≤ 23) (hd : d < 2 ^ 23) : cnt (ex r d) 24 = cnt d 24 := by
  rw [cnt_ex_h hr, cnt_f (Nat.testBit_lt_two_pow hd)]
theorem prt_ex {r d : Nat} (a b : Nat) (hd : d < 2 ^ 23) (hr : r ≤ 23) : prt (ex r d) a b 24 = ex r (prt d a b 24) := by
  apply ex_ext
  · intro i h; rw [prt_bit, ex_lo h, ex_lo h, prt_bit, cnt_ex_lo r d i (by omega)]
  · rw [prt_bit, ex_at, Bool.false_and, Bool.and_false]
  · intro i h
    rw [prt_bit, ex_hi h, ex_hi h, prt_bit, cnt_ex_h h]
    rcases Nat.lt_or_ge i 23 with q | q
    · rw [decide_eq_true (show i + 1 < 24 by omega), decide_eq_true (show i < 24 by omega)]
    · rw [Nat.testBit_lt_two_pow (Nat.lt_of_lt_of_le hd (Nat.pow_le_pow_right (by decide) q)), Bool.false_and, Bool.and_false, Bool.and_false]
theorem pto_ex {r d : Nat} (n k : Nat) (hd : d < 2 ^ 23) (hr : r ≤ 23) : pto (ex r d) n k = ex r (pto d n k) := by
  unfold pto
  rw [cnt_ex hr hd, prt_ex _ _ hd hr]
theorem prt_lt23 {d : Nat} (a b : Nat) (hd : d < 2 ^ 23) : prt d a b 24 < 2 ^ 23 := by
  apply Nat.lt_pow_two_of_testBit
  intro i hi
  rw [prt_bit, Nat.testBit_lt_two_pow (Nat.lt_of_lt_of_le hd (Nat.pow_le_pow_right (by decide) hi)), Bool.false_and, Bool.and_false]
theorem kds_ex_lo {k k' : Nat → Nat} (r d : Nat) (hk : ∀ j, j < r → k' j = k j) : ∀ i, i ≤ r → kds k (ex r d) i = kds k' d i
  | 0, _ => rfl
  | i + 1, h => by
    show (if (ex r d).testBit i then kds k (ex r d) i ||| 2 ^ k i else kds k (ex r d) i) = if d.testBit i then kds k' d i ||| 2 ^ k' i else kds k' d i
    rw [kds_ex_lo r d hk i (by omega), ex_lo (by omega), hk i (by omega)]
theorem kds_ex_hi {k k' : Nat → Nat} {r : Nat} (d : Nat) (n : Nat) (hk : ∀ j, j < r → k' j = k j) (hk2 : ∀ j, r ≤ j → j < n → k' j = k (j + 1)) : ∀ j, r + j ≤ n → kds k (ex r d) (r + j + 1) = kds k' d (r + j)
  | 0, _ => by show kds k (ex r d) (r + 1) = kds k' d r; rw [kds_f (ex_at r d), kds_ex_lo r d hk r (Nat.le_refl r)]
  | j + 1, h => by
    show (if (ex r d).testBit (r + j + 1) then kds k (ex r d) (r + j + 1) ||| 2 ^ k (r + j + 1) else kds k (ex r d) (r + j + 1)) = if d.testBit (r + j) then kds k' d (r + j) ||| 2 ^ k' (r + j) else kds k' d (r + j)
    rw [kds_ex_hi d n hk hk2 j (by omega), ex_hi (by omega), hk2 (r + j) (by omega) (by omega)]
theorem spl_ex {k ne sp : Nat → Nat} {n rc r : Nat} (h : r < n) (d : Nat) : spl k ne sp n rc (ex r d) = spl (tkt k r (n - 1)) ne sp (n - 1) rc d := by
  have e := kds_ex_hi (k := k) (k' := tkt k r (n - 1)) (r := r) d (n - 1) (fun j hj => by unfold tkt; rw [if_neg (by omega)]) (fun j h1 h2 => by unfold tkt; rw [if_pos ⟨h1, h2⟩]) (n - 1 - r) (by omega)
  rw [show r + (n - 1 - r) + 1 = n by omega, show r + (n - 1 - r) = n - 1 by omega] at e
  unfold spl
  rw [e]
theorem lk_ex (r : Nat) (K : List Nat) (x : Nat) : lk (K.map (ex r)) (ex r x) = (lk K x).map (ex r) := by
  by_cases q : x ∈ K
  · rw [lk_in q, lk_in (List.mem_map.mpr ⟨x, q, rfl⟩)]
  · rw [lk_new q, lk_new (fun z => by
      obtain ⟨y, hy, e⟩ := List.mem_map.mp z
      rw [ex_inj e] at hy
      exact q hy), List.map_append]; rfl
theorem fst1_ex {sp sp' : Nat → Bool} {r : Nat} (h : ∀ d, sp (ex r d) = sp' d) (mk : Nat → Nat) : ∀ (f k : Nat) (K : List Nat) (o : Option Nat) (K1 : List Nat), fst1 sp' mk f k K = (o, K1) → fst1 sp (fun i => ex r (mk i)) f k (K.map (ex r)) = (o, K1.map (ex r))
  | 0, k, K, o, K1, e => by cases e; rfl
  | f + 1, k, K, o, K1, e => by
    cases q : sp' (mk k)
    · rw [fst1_f q] at e
      have q2 : sp ((fun i => ex r (mk i)) k) = false := by show sp (ex r (mk k)) = false; rw [h]; exact q
      rw [fst1_f (mk := fun i => ex r (mk i)) q2]
      show fst1 sp (fun i => ex r (mk i)) f (k + 1) (lk (K.map (ex r)) (ex r (mk k))) = _
      rw [lk_ex]
      exact fst1_ex h mk f (k + 1) _ o K1 e
    · rw [fst1_t q] at e
      have q2 : sp ((fun i => ex r (mk i)) k) = true := by show sp (ex r (mk k)) = true; rw [h]; exact q
      rw [fst1_t (mk := fun i => ex r (mk i)) q2]
      cases e
      show (some k, lk (K.map (ex r)) (ex r (mk k))) = _
      rw [lk_ex]
def exR (r : Nat) (x y : hS4) : Prop := y.1 = ex r x.1 ∧ y.2.1 = x.2.1 ∧ y.2.2.1 = x.2.2.1.map (ex r) ∧ x.1 < 2 ^ 23
theorem hst_ex {sp sp' : Nat → Bool} {r : Nat} (hr : r ≤ 23) (h : ∀ d, sp (ex r d) = sp' d) {x y : hS4} (hxy : exR r x y) : (hst sp y).1 = (hst sp' x).1 ∧ exR r (hst sp' x).2 (hst sp y).2 := by
  obtain ⟨d, n, K, F⟩ := x
  obtain ⟨d', n', K', F'⟩ := y
  obtain ⟨h1, h2, h3, hd⟩ := hxy
  simp only at h1 h2 h3 hd
  subst h1; subst h2; subst h3
  have hc := cnt_ex hr hd
  have hp : pto (ex r d) n' = fun i => ex r (pto d n' i) := funext fun i => pto_ex n' i hd hr
  have hp2 : (fun i => nd (ex r d) (pto (ex r d) n' i)) = fun i => ex r (nd d (pto d n' i)) := funext fun i => by rw [pto_ex n' i hd hr, ex_nd]
  by_cases c : cnt d 24 ≤ 1
  · rw [hst_0 c, hst_0 (show cnt (ex r d) 24 ≤ 1 by omega)]; exact ⟨rfl, rfl, rfl, rfl, hd⟩
  · have c' : ¬ cnt (ex r d) 24 ≤ 1 := by omega
    obtain ⟨o1, K1, e1⟩ : ∃ o K1, fst1 sp' (pto d n') n' 0 K = (o, K1) := ⟨_, _, rfl⟩
    have e1' : fst1 sp (pto (ex r d) n') n' 0 (K.map (ex r)) = (o1, K1.map (ex r)) := by rw [hp]; exact fst1_ex h _ _ _ _ _ _ e1
    rcases o1 with _ | k1
    · by_cases c2 : 2 < n'
      · obtain ⟨o2, K2, e2⟩ : ∃ o K2, fst1 sp' (fun i => nd d (pto d n' i)) n' 0 K1 = (o, K2) := ⟨_, _, rfl⟩
        have e2' : fst1 sp (fun i => nd (ex r d) (pto (ex r d) n' i)) n' 0 (K1.map (ex r)) = (o2, K2.map (ex r)) := by rw [hp2]; exact fst1_ex h _ _ _ _ _ _ e2
        rcases o2 with _ | k2
        · by_cases c4 : n' < cnt d 24
          · rw [hst_3a c e1 c2 e2 c4, hst_3a c' e1' c2 e2' (by omega)]; exact ⟨rfl, rfl, by show min (n' * 2) (cnt (ex r d) 24) = _; rw [hc], rfl, hd⟩
          · rw [hst_4a c e1 c2 e2 c4, hst_4a c' e1' c2 e2' (by omega)]; exact ⟨rfl, rfl, rfl, rfl, hd⟩
        · rw [hst_2 c e1 c2 e2, hst_2 c' e1' c2 e2']; exact ⟨rfl, by show nd (ex r d) (pto (ex r d) n' k2) = _; rw [pto_ex n' k2 hd hr, ex_nd], rfl, rfl, nd_lt hd⟩
      · by_cases c4 : n' < cnt d 24
        · rw [hst_3b c e1 c2 c4, hst_3b c' e1' c2 (by omega)]; exact ⟨rfl, rfl, by show min (n' * 2) (cnt (ex r d) 24) = _; rw [hc], rfl, hd⟩
        · rw [hst_4b c e1 c2 c4, hst_4b c' e1' c2 (by omega)]; exact ⟨rfl, rfl, rfl, rfl, hd⟩
    · rw [hst_1 c e1, hst_1 c' e1']; exact ⟨rfl, pto_ex n' k1 hd hr, rfl, rfl, prt_lt23 _ _ hd⟩
theorem hrn_ex {sp sp' : Nat → Bool} {r : Nat} (hr : r ≤ 23) (h : ∀ d, sp (ex r d) = sp' d) : ∀ f (x y : hS4), exR r x y → exR r (hrn sp' f x) (hrn sp f y)
  | 0, x, y, hxy => hxy
  | f + 1, x, y, hxy => by
    obtain ⟨h1, h2⟩ := hst_ex hr h hxy
    cases q : (hst sp' x).1
    · rw [hrn_no q, hrn_no (by rw [h1]; exact q)]; exact h2
    · rw [hrn_go q, hrn_go (by rw [h1]; exact q)]; exact hrn_ex hr h f _ _ h2
theorem hal_ex {sp sp' : Nat → Bool} {r w : Nat} (hr : r ≤ 23) (h : ∀ d, sp (ex r d) = sp' d) (hw : w < 2 ^ 23) : (hal sp (ex r w)).2.2.1.length = (hal sp' w).2.2.1.length := by
  cases q : sp' w
  · rw [hal_f q, hal_f (show sp (ex r w) = false by rw [h]; exact q)]; rfl
  · unfold hal
    rw [if_pos q, if_pos (show sp (ex r w) = true by rw [h]; exact q)]
    have := hrn_ex hr h 128 (w, 2, [w], []) (ex r w, 2, [ex r w], []) ⟨rfl, rfl, rfl, hw⟩
    rw [this.2.2.1, List.length_map]
theorem adv_eq {k ne sp : Nat → Nat} {n rc : Nat} (hn : n ≤ 24) (hk : ∀ j, j < n → k j < 16) (hne : ∀ j, j < 6 → ne j < 65536) (hsp : ∀ j, j < 6 → sp j < 65536) :
    avb (fun p9 => (hal (spl k ne sp n rc) (nd (2 ^ n - 1) (2 ^ p9))).2.2.1.length) n = avb (wth k ne sp n rc) n := by
  refine avb_congr n (fun p hp => ?_)
  show (hal (spl k ne sp n rc) (nd (2 ^ n - 1) (2 ^ p))).2.2.1.length = (hal (spl (tkt k p (n - 1)) ne sp (n - 1) rc) (2 ^ (n - 1) - 1)).2.2.1.length
  rw [ex_whole hp]
  refine hal_ex (by omega) (fun d => spl_ex hp d) ?_
  have h1 : 2 ^ (n - 1) ≤ 2 ^ 23 := Nat.pow_le_pow_right (by decide) (by omega)
  have h2 : 1 ≤ 2 ^ (n - 1) := Nat.one_le_two_pow
  omega
