/-! ===== what the law asks of searches ===== -/
theorem fst1_none {sp : Nat → Bool} {mk : Nat → Nat} : ∀ {f k : Nat} {K K1 : List Nat}, fst1 sp mk f k K = (none, K1) → ∀ j, k ≤ j → j < k + f → sp (mk j) = false
  | 0, k, K, K1, _, j, h1, h2 => absurd h2 (by omega)
  | f + 1, k, K, K1, h, j, h1, h2 => by
    cases hs : sp (mk k)
    · rw [fst1_f hs] at h
      rcases Nat.lt_or_ge k j with z | z
      · exact fst1_none h j z (by omega)
      · have e : j = k := by omega
        rw [e]; exact hs
    · rw [fst1_t hs] at h; cases h
/-- a turn that ends the search: no part spoils, nor what is left of one -/
theorem hst_stop {sp : Nat → Bool} {d n : Nat} {K : List Nat} {F : List Int32} (hI : hIn (d, n, K, F)) (h : (hst sp (d, n, K, F)).1 = false) (c : ¬ cnt d 24 ≤ 1) : n = cnt d 24 ∧ (∀ i, i < n → sp (pto d n i) = false) ∧ (2 < n → ∀ i, i < n → sp (nd d (pto d n i)) = false) := by
  obtain ⟨hd, h2, hn9, -⟩ := hI
  simp only at hd h2 hn9
  obtain ⟨o1, K1, e1⟩ : ∃ o K1, fst1 sp (pto d n) n 0 K = (o, K1) := ⟨_, _, rfl⟩
  rcases o1 with _ | k
  · have p1 : ∀ i, i < n → sp (pto d n i) = false := fun i hi => fst1_none e1 i (Nat.zero_le _) (by omega)
    by_cases c2 : 2 < n
    · obtain ⟨o2, K2, e2⟩ : ∃ o K2, fst1 sp (fun k => nd d (pto d n k)) n 0 K1 = (o, K2) := ⟨_, _, rfl⟩
      rcases o2 with _ | k2
      · by_cases c4 : n < cnt d 24
        · rw [hst_3a c e1 c2 e2 c4] at h; cases h
        · exact ⟨by omega, p1, fun _ i hi => fst1_none e2 i (Nat.zero_le _) (by omega)⟩
      · rw [hst_2 c e1 c2 e2] at h; cases h
    · by_cases c4 : n < cnt d 24
      · rw [hst_3b c e1 c2 c4] at h; cases h
      · exact ⟨by omega, p1, fun z => absurd z c2⟩
  · rw [hst_1 c e1] at h; cases h
theorem hst_sp {sp : Nat → Bool} {x : hS4} (h : sp x.1 = true) : sp (hst sp x).2.1 = true := by
  obtain ⟨d, n, K, F⟩ := x
  by_cases c : cnt d 24 ≤ 1
  · rw [hst_0 c]; exact h
  · obtain ⟨o1, K1, e1⟩ : ∃ o K1, fst1 sp (pto d n) n 0 K = (o, K1) := ⟨_, _, rfl⟩
    rcases o1 with _ | k
    · by_cases c2 : 2 < n
      · obtain ⟨o2, K2, e2⟩ : ∃ o K2, fst1 sp (fun k => nd d (pto d n k)) n 0 K1 = (o, K2) := ⟨_, _, rfl⟩
        rcases o2 with _ | k2
        · by_cases c4 : n < cnt d 24
          · rw [hst_3a c e1 c2 e2 c4]; exact h
          · rw [hst_4a c e1 c2 e2 c4]; exact h
        · rw [hst_2 c e1 c2 e2]; exact (fst1_mk sp _ n K1 k2 K2 e2).2.1
      · by_cases c4 : n < cnt d 24
        · rw [hst_3b c e1 c2 c4]; exact h
        · rw [hst_4b c e1 c2 c4]; exact h
    · rw [hst_1 c e1]; exact (fst1_mk sp _ n K k K1 e1).2.1
theorem hrn_sp {sp : Nat → Bool} : ∀ f x, sp x.1 = true → sp (hrn sp f x).1 = true
  | 0, _, h => h
  | f + 1, x, h => by
    cases e : (hst sp x).1
    · rw [hrn_no e]; exact hst_sp h
    · rw [hrn_go e]; exact hrn_sp f _ (hst_sp h)
theorem hal_sp {sp : Nat → Bool} {w d2 n2 : Nat} {K2 : List Nat} {F2 : List Int32} (hR : hal sp w = (d2, n2, K2, F2)) (h : sp w = true) : sp d2 = true := by
  unfold hal at hR
  rw [if_pos h] at hR
  have := hrn_sp (sp := sp) 128 (w, 2, [w], []) h
  rw [hR] at this
  exact this
theorem hal_nz {sp : Nat → Bool} {w d2 n2 : Nat} {K2 : List Nat} {F2 : List Int32} (h0 : sp 0 = false) (hR : hal sp w = (d2, n2, K2, F2)) : (¬ d2 = 0) ↔ sp w = true := by
  constructor
  · intro h
    cases hs : sp w
    · rw [hal_f hs] at hR; cases hR; exact absurd rfl h
    · rfl
  · intro h z
    have := hal_sp hR h
    rw [z, h0] at this; cases this
theorem hal_K1 {sp : Nat → Bool} {w d2 n2 : Nat} {K2 : List Nat} {F2 : List Int32} (hR : hal sp w = (d2, n2, K2, F2)) : 1 ≤ K2.length := by
  unfold hal at hR
  by_cases h : sp w = true
  · rw [if_pos h] at hR
    exact (hrn_gr hR).1
  · rw [if_neg h] at hR; cases hR; exact Nat.le_refl 1
theorem obo_sp {sp : Nat → Bool} : ∀ p d K, sp d = true → sp (obo sp p d K).1 = true
  | 0, _, _, h => h
  | p + 1, d, K, h => by
    by_cases h1 : d.testBit p = true ∧ nd d (2 ^ p) ≠ 0
    · cases hs : sp (nd d (2 ^ p))
      · rw [obo_n h1.1 h1.2 hs]; exact obo_sp p _ _ h
      · rw [obo_s h1.1 h1.2 hs]; exact obo_sp p _ _ hs
    · have h2 : d.testBit p = false ∨ nd d (2 ^ p) = 0 := by
        cases hb : d.testBit p
        · exact Or.inl rfl
        · exact Or.inr (Classical.byContradiction (fun z => h1 ⟨hb, z⟩))
      rw [obo_k h2]; exact obo_sp p _ _ h
theorem obl_sp {sp : Nat → Bool} {w d3 : Nat} {K3 : List Nat} (hR : obl sp w = (d3, K3)) (h : sp w = true) : sp d3 = true := by
  unfold obl at hR
  rw [if_pos h] at hR
  have := obo_sp (sp := sp) 24 w [w] h
  rw [hR] at this
  exact this
theorem obl_nz {sp : Nat → Bool} {w d3 : Nat} {K3 : List Nat} (h0 : sp 0 = false) (hR : obl sp w = (d3, K3)) : (¬ d3 = 0) ↔ sp w = true := by
  constructor
  · intro h
    cases hs : sp w
    · rw [obl_f hs] at hR; cases hR; exact absurd rfl h
    · rfl
  · intro h z
    have := obl_sp hR h
    rw [z, h0] at this; cases this
theorem obl_K {sp : Nat → Bool} {n d3 : Nat} {K3 : List Nat} (hn : n ≤ 24) (hR : obl sp (2 ^ n - 1) = (d3, K3)) : K3.length ≤ n + 1 := by
  cases hs : sp (2 ^ n - 1)
  · rw [obl_f hs] at hR; cases hR; exact Nat.succ_le_succ (Nat.zero_le n)
  · have h1 := obl_t hn hs hR
    have h2 := obo_le sp n (2 ^ n - 1) [2 ^ n - 1]
    rw [h1] at h2
    have h3 : [2 ^ n - 1].length = 1 := rfl
    simp only at h2
    omega
theorem tgh_of {sp : Nat → Bool} {d : Nat} : ∀ n, (∀ p, p < n → d.testBit p = true → sp (nd d (2 ^ p)) = false) → tgh sp d n = true
  | 0, _ => rfl
  | n + 1, h => by
    show (tgh sp d n && !(d.testBit n && sp (nd d (2 ^ n)))) = true
    rw [tgh_of n (fun p hp => h p (by omega)), Bool.true_and]
    cases hb : d.testBit n
    · rfl
    · rw [h n (Nat.lt_succ_self n) hb]; rfl
theorem pto_one {d i : Nat} (hi : i < cnt d 24) : pto d (cnt d 24) i = 2 ^ plc d i := by
  unfold pto
  rw [Nat.mul_div_cancel _ (by omega), Nat.mul_div_cancel _ (by omega)]
  exact prt_one hi
theorem hrn_end2 (sp : Nat → Bool) : ∀ f x, hIn x → hmu (cnt x.1 24) x.2.1 < f → ∃ y, hIn y ∧ (hst sp y).1 = false ∧ hrn sp f x = (hst sp y).2
  | 0, x, _, h => absurd h (Nat.not_lt_zero _)
  | f + 1, x, hi, h => by
    cases hg : (hst sp x).1
    · exact ⟨x, hi, hg, hrn_no hg⟩
    · have h1 := hst_ok sp x hi hg
      rw [hrn_go hg]
      exact hrn_end2 sp f _ h1.1 (by omega)
/-- the list by halves is tight -/
theorem hal_tig {sp : Nat → Bool} {w d2 n2 : Nat} {K2 : List Nat} {F2 : List Int32} (h0 : sp 0 = false) (hw : w < 2 ^ 24) (hR : hal sp w = (d2, n2, K2, F2)) (h : sp w = true) : tig sp d2 = true := by
  have hs2 := hal_sp hR h
  obtain ⟨hI, hmu, hr⟩ := hal_m hw h hR
  have hend : ∃ n9 K9 F9, hIn (d2, n9, K9, F9) ∧ (hst sp (d2, n9, K9, F9)).1 = false := by
    obtain ⟨y, q1, q2, q3⟩ := hrn_end2 sp 128 _ hI hmu
    rw [hr] at q3
    obtain ⟨d, n, K, F⟩ := y
    have h1 := (hst_no q2).1
    rw [← q3] at h1
    simp only at h1
    subst h1
    exact ⟨n, K, F, q1, q2⟩
  obtain ⟨n9, K9, F9, g1, g2⟩ := hend
  have hd2 : d2 < 2 ^ 24 := g1.1
  unfold tig
  rw [hs2, Bool.true_and]
  refine tgh_of 24 (fun p hp hb => ?_)
  by_cases c : cnt d2 24 ≤ 1
  · have hz : nd d2 (2 ^ p) = 0 := by
      have hc : cnt d2 24 = 1 := by have := cnt_kth hb hp; omega
      have h1 := cnt_nd d2 (2 ^ p) (fun q hq => by rw [Nat.testBit_two_pow, decide_eq_true_eq] at hq; rw [← hq]; exact hb) 24
      have h2 : 0 < cnt (2 ^ p) 24 := cnt_pos (Nat.pos_iff_ne_zero.mp (Nat.two_pow_pos p)) (Nat.pow_lt_pow_right (by decide) hp)
      exact (cnt_0_iff (nd_lt hd2)).mp (by omega)
    rw [hz]; exact h0
  · obtain ⟨e1, e2, e3⟩ := hst_stop g1 g2 c
    subst e1
    have hj := cnt_kth hb hp
    have hpl : 2 ^ p = pto d2 (cnt d2 24) (cnt d2 p) := by rw [pto_one hj, plc_cnt hp hb]
    rw [hpl]
    by_cases c2 : 2 < cnt d2 24
    · exact e3 c2 _ hj
    · have hm : cnt d2 24 = 2 := by omega
      -- of two parts, what is left of one is the other
      have key : nd d2 (pto d2 (cnt d2 24) (cnt d2 p)) = pto d2 (cnt d2 24) (1 - cnt d2 p) := by
        rw [pto_one hj, pto_one (by omega)]
        have h5 : plc d2 (cnt d2 p) = p := plc_cnt hp hb
        rw [h5]
        obtain ⟨r1, r2, r3⟩ := plc_ok (d := d2) (j := 1 - cnt d2 p) (by omega)
        apply Nat.eq_of_testBit_eq
        intro i
        rw [nd_bit, Nat.testBit_two_pow, Nat.testBit_two_pow]
        by_cases q1 : p = i
        · subst q1
          have : ¬ plc d2 (1 - cnt d2 p) = p := fun z => by rw [z] at r3; omega
          rw [decide_eq_true rfl, decide_eq_false this]; simp
        · rw [decide_eq_false q1]
          by_cases q2 : plc d2 (1 - cnt d2 p) = i
          · rw [decide_eq_true q2, ← q2, r2]; rfl
          · rw [decide_eq_false q2]
            cases hbi : d2.testBit i
            · rfl
            · exfalso
              by_cases hi : i < 24
              · have hci := cnt_kth hbi hi
                have h6 := plc_cnt hi hbi
                have h7 : cnt d2 i = cnt d2 p ∨ cnt d2 i = 1 - cnt d2 p := by omega
                rcases h7 with z | z
                · rw [z, h5] at h6; exact q1 h6
                · rw [z] at h6; exact q2 h6
              · rw [Nat.testBit_lt_two_pow (Nat.lt_of_lt_of_le hd2 (Nat.pow_le_pow_right (by decide) (by omega)))] at hbi; cases hbi
      rw [key]
      exact e2 _ (by omega)
/-! ===== the steps, one by one ===== -/
theorem hrn_pre (sp : Nat → Bool) : ∀ f x, ∃ T, (hrn sp f x).2.2.2 = x.2.2.2 ++ T
  | 0, x => ⟨[], (List.append_nil _).symm⟩
  | f + 1, x => by
    have h1 : ∃ T, (hst sp x).2.2.2.2 = x.2.2.2 ++ T := by
      obtain ⟨d, n, K, F⟩ := x
      by_cases c : cnt d 24 ≤ 1
      · rw [hst_0 c]; exact ⟨[], (List.append_nil _).symm⟩
      · obtain ⟨o1, K1, e1⟩ : ∃ o K1, fst1 sp (pto d n) n 0 K = (o, K1) := ⟨_, _, rfl⟩
        rcases o1 with _ | k
        · by_cases c2 : 2 < n
          · obtain ⟨o2, K2, e2⟩ : ∃ o K2, fst1 sp (fun k => nd d (pto d n k)) n 0 K1 = (o, K2) := ⟨_, _, rfl⟩
            rcases o2 with _ | k2
            · by_cases c4 : n < cnt d 24
              · rw [hst_3a c e1 c2 e2 c4]; exact ⟨_, rfl⟩
              · rw [hst_4a c e1 c2 e2 c4]; exact ⟨[], (List.append_nil _).symm⟩
            · rw [hst_2 c e1 c2 e2]; exact ⟨_, rfl⟩
          · by_cases c4 : n < cnt d 24
            · rw [hst_3b c e1 c2 c4]; exact ⟨_, rfl⟩
            · rw [hst_4b c e1 c2 c4]; exact ⟨[], (List.append_nil _).symm⟩
        · rw [hst_1 c e1]; exact ⟨_, rfl⟩
    obtain ⟨T1, h1⟩ := h1
    cases e : (hst sp x).1
    · rw [hrn_no e]; exact ⟨T1, h1⟩
    · rw [hrn_go e]
      obtain ⟨T2, h2⟩ := hrn_pre sp f (hst sp x).2
      exact ⟨T1 ++ T2, by rw [h2, h1, List.append_assoc]⟩
theorem prt_num0 : ∀ m, m < 25 → ∀ n, n < 25 → rngB m n = true → ∀ i, i < n → m / n ≤ (i + 1) * m / n - i * m / n ∧ (i + 1) * m / n - i * m / n ≤ (m + n - 1) / n := by decide +kernel
/-- where the law stands when it has read k steps -/
def trk (sp : Nat → Bool) (d2 n2 : Nat) (K2 : List Nat) (F2 : List Int32) (k dish parts looks : Nat) : Prop :=
  ∃ K F, hIn (dish, parts, K, F) ∧ sp dish = true ∧ F.length = 5 * k ∧ K.length ≤ looks ∧ hmu (cnt dish 24) parts < 128 - k ∧ hrn sp (128 - k) (dish, parts, K, F) = (d2, n2, K2, F2)
theorem trk_0 {sp : Nat → Bool} {w d2 n2 : Nat} {K2 : List Nat} {F2 : List Int32} (hw : w < 2 ^ 24) (hR : hal sp w = (d2, n2, K2, F2)) (h : sp w = true) : trk sp d2 n2 K2 F2 0 w 2 1 := by
  obtain ⟨hI, hmu, hr⟩ := hal_m hw h hR
  exact ⟨[w], [], hI, h, rfl, Nat.le_refl 1, hmu, hr⟩
theorem getD_row {F T : List Int32} {k : Nat} (a b c d e : Int32) (h : F.length = 5 * k) {F2 : List Int32} (h2 : F2 = (F ++ [a, b, c, d, e]) ++ T) : F2.getD (5 * k) 0 = a ∧ F2.getD (5 * k + 1) 0 = b ∧ F2.getD (5 * k + 2) 0 = c ∧ F2.getD (5 * k + 3) 0 = d ∧ F2.getD (5 * k + 4) 0 = e := by
  have key : ∀ i, i < 5 → F2.getD (5 * k + i) 0 = [a, b, c, d, e].getD i 0 := by
    intro i hi
    rw [h2, getD_app_l _ _ _ (by rw [List.length_append]; simp only [List.length_cons, List.length_nil]; omega), getD_app_r _ _ _ (by omega), show 5 * k + i - F.length = i by omega]
  exact ⟨key 0 (by decide), key 1 (by decide), key 2 (by decide), key 3 (by decide), key 4 (by decide)⟩
def nsub (x d : Nat) : Prop := ∀ q, x.testBit q = true → d.testBit q = true
/-- one step read -/
theorem trk_s {sp : Nat → Bool} {d2 n2 : Nat} {K2 : List Nat} {F2 : List Int32} {k dish parts looks : Nat} (h : trk sp d2 n2 K2 F2 k dish parts looks) (hk : k < F2.length / 5) :
    dish < 2 ^ 24 ∧ 2 ≤ parts ∧ parts ≤ cnt dish 24 ∧ k < 128 ∧ F2.getD (5 * k) 0 = nI (cnt dish 24) ∧ F2.getD (5 * k + 1) 0 = nI parts ∧ ∃ next, nsub next dish ∧ next < 2 ^ 24 ∧ sp next = true ∧ F2.getD (5 * k + 4) 0 = nI next ∧
    ((∃ i, i < parts ∧ next ≠ dish ∧ F2.getD (5 * k + 2) 0 = nI 1 ∧ F2.getD (5 * k + 3) 0 = nI i ∧ cnt next 24 ≤ (cnt dish 24 + parts - 1) / parts ∧ cnt dish 24 / parts ≤ cnt next 24 ∧ trk sp d2 n2 K2 F2 (k + 1) next 2 (looks + 2 * parts)) ∨
     (∃ i, i < parts ∧ next ≠ dish ∧ 2 < parts ∧ F2.getD (5 * k + 2) 0 = nI 2 ∧ F2.getD (5 * k + 3) 0 = nI i ∧ cnt next 24 ≤ cnt dish 24 ∧ cnt dish 24 - cnt next 24 ≤ (cnt dish 24 + parts - 1) / parts ∧ cnt dish 24 / parts ≤ cnt dish 24 - cnt next 24 ∧ trk sp d2 n2 K2 F2 (k + 1) next (parts - 1) (looks + 2 * parts)) ∨
     (next = dish ∧ parts < cnt dish 24 ∧ F2.getD (5 * k + 2) 0 = nI 3 ∧ F2.getD (5 * k + 3) 0 = -1 ∧ trk sp d2 n2 K2 F2 (k + 1) next (min (cnt dish 24) (2 * parts)) (looks + 2 * parts))) := by
  obtain ⟨K, F, hI, hs, hF, hK, hmu, hr⟩ := h
  have hd : dish < 2 ^ 24 := hI.1
  have h2 : 2 ≤ parts := hI.2.1
  have hn9 : parts ≤ cnt dish 24 ∨ parts = 2 := hI.2.2.1
  have hc := cnt_le dish 24
  have hk8 : k < 128 := by
    rcases Nat.lt_or_ge k 128 with z | z
    · exact z
    · rw [show 128 - k = 0 by omega] at hmu; exact absurd hmu (Nat.not_lt_zero _)
  rw [show 128 - k = (128 - (k + 1)) + 1 by omega] at hr hmu
  have hgo : (hst sp (dish, parts, K, F)).1 = true := by
    cases e : (hst sp (dish, parts, K, F)).1
    · rw [hrn_no e] at hr
      have h3 := (hst_no e).2.1
      rw [hr] at h3
      simp only at h3
      rw [h3, hF] at hk
      omega
    · rfl
  have hok := hst_ok sp _ hI hgo
  rw [hrn_go hgo] at hr
  obtain ⟨T, hT⟩ := hrn_pre sp (128 - (k + 1)) (hst sp (dish, parts, K, F)).2
  rw [hr] at hT
  simp only at hT
  have c : ¬ cnt dish 24 ≤ 1 := fun z => by rw [hst_0 z] at hgo; cases hgo
  have hpm : parts ≤ cnt dish 24 := by omega
  have hrg := rng_t h2 hpm
  obtain ⟨o1, K1, e1⟩ : ∃ o K1, fst1 sp (pto dish parts) parts 0 K = (o, K1) := ⟨_, _, rfl⟩
  have hL1 := fst1_mn _ _ _ _ _ _ e1
  rcases o1 with _ | i
  · by_cases c2 : 2 < parts
    · obtain ⟨o2, K3, e2⟩ : ∃ o K2, fst1 sp (fun k => nd dish (pto dish parts k)) parts 0 K1 = (o, K2) := ⟨_, _, rfl⟩
      have hL2 := fst1_mn _ _ _ _ _ _ e2
      rcases o2 with _ | i
      · have c4 : parts < cnt dish 24 := by
          rcases Nat.lt_or_ge parts (cnt dish 24) with z | z
          · exact z
          · rw [hst_4a c e1 c2 e2 (by omega)] at hgo; cases hgo
        have e3 := hst_3a (F := F) c e1 c2 e2 c4
        rw [e3] at hT hr hok
        obtain ⟨r0, r1, r2, r3, r4⟩ := getD_row _ _ _ _ _ hF hT
        refine ⟨hd, h2, hpm, hk8, r0, r1, dish, fun _ z => z, hd, hs, r4, Or.inr (Or.inr ⟨rfl, c4, r2, r3, K3, F ++ [nI (cnt dish 24), nI parts, nI 3, -1, nI dish], ?_, hs, ?_, ?_, ?_, ?_⟩)⟩
        · rw [show min (cnt dish 24) (2 * parts) = min (parts * 2) (cnt dish 24) by rw [Nat.min_comm, Nat.mul_comm]]; exact hok.1
        · rw [List.length_append, hF]; rfl
        · omega
        · rw [show min (cnt dish 24) (2 * parts) = min (parts * 2) (cnt dish 24) by rw [Nat.min_comm, Nat.mul_comm]]; have := hok.2.1; simp only at this; omega
        · rw [show min (cnt dish 24) (2 * parts) = min (parts * 2) (cnt dish 24) by rw [Nat.min_comm, Nat.mul_comm]]; exact hr
      · obtain ⟨hi, hsi, -⟩ := fst1_mk sp _ parts K1 i K3 e2
        have hq := pto_num (m := cnt dish 24) (n := parts) (k := i) (by omega) hi h2 hpm
        have hcn : cnt (nd dish (pto dish parts i)) 24 = cnt dish 24 - ((i + 1) * cnt dish 24 / parts - i * cnt dish 24 / parts) := cnt_part_nd dish (Nat.le_of_lt hq.1) hq.2.1
        have hnum := prt_num0 (cnt dish 24) (by omega) parts (by omega) hrg i hi
        have e3 := hst_2 (F := F) c e1 c2 e2
        rw [e3] at hT hr hok
        obtain ⟨r0, r1, r2, r3, r4⟩ := getD_row _ _ _ _ _ hF hT
        refine ⟨hd, h2, hpm, hk8, r0, r1, nd dish (pto dish parts i), fun q z => ?_, nd_lt hd, hsi, r4, Or.inr (Or.inl ⟨i, hi, fun z => ?_, c2, r2, r3, by omega, by omega, by omega, K3, _, hok.1, hsi, ?_, by omega, ?_, hr⟩)⟩
        · rw [nd_bit, Bool.and_eq_true] at z; exact z.1
        · rw [z] at hcn; omega
        · rw [List.length_append, hF]; rfl
        · have := hok.2.1; simp only at this; omega
    · have c4 : parts < cnt dish 24 := by
        rcases Nat.lt_or_ge parts (cnt dish 24) with z | z
        · exact z
        · rw [hst_4b c e1 c2 (by omega)] at hgo; cases hgo
      have e3 := hst_3b (F := F) c e1 c2 c4
      rw [e3] at hT hr hok
      obtain ⟨r0, r1, r2, r3, r4⟩ := getD_row _ _ _ _ _ hF hT
      refine ⟨hd, h2, hpm, hk8, r0, r1, dish, fun _ z => z, hd, hs, r4, Or.inr (Or.inr ⟨rfl, c4, r2, r3, K1, F ++ [nI (cnt dish 24), nI parts, nI 3, -1, nI dish], ?_, hs, ?_, ?_, ?_, ?_⟩)⟩
      · rw [show min (cnt dish 24) (2 * parts) = min (parts * 2) (cnt dish 24) by rw [Nat.min_comm, Nat.mul_comm]]; exact hok.1
      · rw [List.length_append, hF]; rfl
      · omega
      · rw [show min (cnt dish 24) (2 * parts) = min (parts * 2) (cnt dish 24) by rw [Nat.min_comm, Nat.mul_comm]]; have := hok.2.1; simp only at this; omega
      · rw [show min (cnt dish 24) (2 * parts) = min (parts * 2) (cnt dish 24) by rw [Nat.min_comm, Nat.mul_comm]]; exact hr
  · obtain ⟨hi, hsi, -⟩ := fst1_mk sp _ parts K i K1 e1
    have hq := pto_num (m := cnt dish 24) (n := parts) (k := i) (by omega) hi h2 hpm
    have hcn : cnt (pto dish parts i) 24 = (i + 1) * cnt dish 24 / parts - i * cnt dish 24 / parts := cnt_part dish (Nat.le_of_lt hq.1) hq.2.1
    have hnum := prt_num0 (cnt dish 24) (by omega) parts (by omega) hrg i hi
    have e3 := hst_1 (F := F) c e1
    rw [e3] at hT hr hok
    obtain ⟨r0, r1, r2, r3, r4⟩ := getD_row _ _ _ _ _ hF hT
    refine ⟨hd, h2, hpm, hk8, r0, r1, pto dish parts i, fun q z => pto_sub z, pto_lt dish parts i, hsi, r4, Or.inl ⟨i, hi, fun z => ?_, r2, r3, by omega, by omega, K1, _, hok.1, hsi, ?_, by omega, ?_, hr⟩⟩
    · rw [z] at hcn; omega
    · rw [List.length_append, hF]; rfl
    · have := hok.2.1; simp only at this; omega
/-- all steps read -/
theorem trk_e {sp : Nat → Bool} {d2 n2 : Nat} {K2 : List Nat} {F2 : List Int32} {k dish parts looks : Nat} (h : trk sp d2 n2 K2 F2 k dish parts looks) (hk : k = F2.length / 5) (h5 : F2.length % 5 = 0) : dish = d2 ∧ K2.length ≤ looks + 2 * parts ∧ (1 < cnt d2 24 → parts = cnt d2 24) := by
  obtain ⟨K, F, hI, hs, hF, hK, hmu, hr⟩ := h
  have hk8 : k < 128 := by
    rcases Nat.lt_or_ge k 128 with z | z
    · exact z
    · rw [show 128 - k = 0 by omega] at hmu; exact absurd hmu (Nat.not_lt_zero _)
  rw [show 128 - k = (128 - (k + 1)) + 1 by omega] at hr
  have hno : (hst sp (dish, parts, K, F)).1 = false := by
    cases e : (hst sp (dish, parts, K, F)).1
    · rfl
    · rw [hrn_go e] at hr
      have h1 := (hst_ok sp _ hI e).2.2.1
      have h2 := (hrn_grow sp (128 - (k + 1)) (hst sp (dish, parts, K, F)).2).2
      rw [hr] at h2
      simp only at h1 h2
      omega
  rw [hrn_no hno] at hr
  have h2 : 2 ≤ parts := hI.2.1
  have hn9 : parts ≤ cnt dish 24 ∨ parts = 2 := hI.2.2.1
  by_cases c : cnt dish 24 ≤ 1
  · rw [hst_0 c] at hr
    cases hr
    exact ⟨rfl, by omega, fun z => by omega⟩
  · have hst := hst_stop hI hno c
    obtain ⟨o1, K1, e1⟩ : ∃ o K1, fst1 sp (pto dish parts) parts 0 K = (o, K1) := ⟨_, _, rfl⟩
    have hL1 := fst1_mn _ _ _ _ _ _ e1
    rcases o1 with _ | i
    · by_cases c2 : 2 < parts
      · obtain ⟨o2, K3, e2⟩ : ∃ o K2, fst1 sp (fun k => nd dish (pto dish parts k)) parts 0 K1 = (o, K2) := ⟨_, _, rfl⟩
        have hL2 := fst1_mn _ _ _ _ _ _ e2
        rcases o2 with _ | i
        · rw [hst_4a c e1 c2 e2 (by omega)] at hr
          cases hr
          exact ⟨rfl, by omega, fun _ => hst.1⟩
        · rw [hst_2 c e1 c2 e2] at hno; cases hno
      · rw [hst_4b c e1 c2 (by omega)] at hr
        cases hr
        exact ⟨rfl, by omega, fun _ => hst.1⟩
    · rw [hst_1 c e1] at hno; cases hno
/-- a dish that spoils has the places that the least needs -/
theorem kds_cnt {k : Nat → Nat} {d : Nat} (hk : ∀ n j, j < n → k j < 16 ∨ True) : ∀ n, cnt (kds k d n) 24 ≤ cnt d n
  | 0 => by show cnt 0 24 ≤ 0; rw [cnt_0]; exact Nat.le_refl _
  | n + 1 => by
    have ih := kds_cnt (d := d) hk n
    cases hb : d.testBit n
    · rw [kds_f hb, cnt_f hb]; exact ih
    · rw [kds_t hb, cnt_t hb]
      have h1 : ∀ m, cnt (kds k d n ||| 2 ^ k n) m ≤ cnt (kds k d n) m + (if k n < m then 1 else 0) := by
        intro m
        induction m with
        | zero => exact Nat.zero_le _
        | succ m ihm =>
          rw [cnt_succ, cnt_succ, Nat.testBit_or, Nat.testBit_two_pow]
          by_cases q : k n = m
          · rw [decide_eq_true q, Bool.or_true, if_pos rfl, if_pos (show k n < m + 1 by omega)]
            rw [if_neg (show ¬ k n < m by omega)] at ihm
            split <;> omega
          · rw [decide_eq_false q, Bool.or_false]
            by_cases z : k n < m
            · rw [if_pos z] at ihm; rw [if_pos (show k n < m + 1 by omega)]; omega
            · rw [if_neg z] at ihm; rw [if_neg (show ¬ k n < m + 1 by omega)]; omega
      have h2 := h1 24
      split at h2 <;> omega
theorem cnt_sub {a b : Nat} (h : nsub a b) : ∀ m, cnt a m ≤ cnt b m
  | 0 => Nat.le_refl _
  | m + 1 => by
    have ih := cnt_sub h m
    rw [cnt_succ, cnt_succ]
    cases ha : a.testBit m
    · rw [if_neg (by decide)]; omega
    · rw [h m ha, if_pos rfl]; omega
theorem and_sub {a b : Nat} (h : b &&& a = a) : nsub a b := fun q hq => by
  have h1 : (b &&& a).testBit q = true := by rw [h]; exact hq
  rw [Nat.testBit_and, Bool.and_eq_true] at h1
  exact h1.1
theorem lst_lb {ne : Nat → Nat} {kk : Nat} : ∀ {rc r : Nat}, r < rc → 0 < cnt (ne r) 24 → kk &&& ne r = ne r → 1 ≤ lst ne kk rc ∧ lst ne kk rc ≤ cnt (ne r) 24
  | 0, _, h, _, _ => absurd h (Nat.not_lt_zero _)
  | rc + 1, r, h, h1, h2 => by
    by_cases q : r = rc
    · subst q
      by_cases z : lst ne kk r = 0 ∨ cnt (ne r) 24 < lst ne kk r
      · rw [lst_t h1 h2 z]; exact ⟨h1, Nat.le_refl _⟩
      · rw [lst_f (fun w => z w.2)]; omega
    · obtain ⟨i1, i2⟩ := lst_lb (rc := rc) (r := r) (by omega) h1 h2
      by_cases z : (0 < cnt (ne rc) 24 ∧ kk &&& ne rc = ne rc) ∧ (lst ne kk rc = 0 ∨ cnt (ne rc) 24 < lst ne kk rc)
      · rw [lst_t z.1.1 z.1.2 z.2]
        exact ⟨z.1.1, by omega⟩
      · rw [lst_f z]; exact ⟨i1, i2⟩
theorem spl_ex {k ne sp : Nat → Nat} {n rc d : Nat} (h : spl k ne sp n rc d = true) : ∃ r, r < rc ∧ hld (ne r) (sp r) (kds k d n) = true := by
  refine Classical.byContradiction (fun z => ?_)
  rw [spl_i (fun i hi => by
    cases e : hld (ne i) (sp i) (kds k d n)
    · rfl
    · exact absurd ⟨i, hi, e⟩ z)] at h
  cases h
theorem lst_spl {k ne sp : Nat → Nat} {n rc d : Nat} (hn : n ≤ 24) (hne : ∀ j, j < rc → ne j < 65536) (hd : d < 2 ^ n) (h : spl k ne sp n rc d = true) : 1 ≤ lst ne (kds k (2 ^ n - 1) n) rc ∧ lst ne (kds k (2 ^ n - 1) n) rc ≤ cnt d 24 := by
  obtain ⟨r, hr, hh⟩ := spl_ex h
  unfold hld at hh
  rw [Bool.and_eq_true, Bool.and_eq_true, decide_eq_true_eq, decide_eq_true_eq] at hh
  obtain ⟨g1, g2, -⟩ := hh
  have s1 := and_sub g2
  have s2 : nsub (kds k d n) (kds k (2 ^ n - 1) n) := fun q hq => by
    obtain ⟨p, h1, h2, h3⟩ := (kds_of n).mp hq
    exact (kds_of n).mpr ⟨p, h1, by rw [Nat.testBit_two_pow_sub_one, decide_eq_true h1], h3⟩
  have h3 : kds k (2 ^ n - 1) n &&& ne r = ne r := by
    apply Nat.eq_of_testBit_eq
    intro i
    rw [Nat.testBit_and]
    cases hb : (ne r).testBit i
    · rw [Bool.and_false]
    · rw [s2 i (s1 i hb)]; rfl
  have hlt : ne r < 2 ^ 24 := Nat.lt_trans (hne r hr) (by decide)
  obtain ⟨l1, l2⟩ := lst_lb hr (cnt_pos g1 hlt) h3
  have h4 := cnt_sub s1 24
  have h5 := kds_cnt (k := k) (d := d) (fun _ _ _ => Or.inr trivial) n
  have h6 := cnt_mono d hn
  exact ⟨l1, by omega⟩
/-- a list of places is read in its order -/
theorem plc_inc {d i : Nat} (h : i + 1 < cnt d 24) : plc d i < plc d (i + 1) := by
  obtain ⟨a1, a2, a3⟩ := plc_ok (d := d) (j := i) (by omega)
  obtain ⟨b1, b2, b3⟩ := plc_ok h
  rcases Nat.lt_or_ge (plc d i) (plc d (i + 1)) with q | q
  · exact q
  · have := cnt_mono d q; omega
theorem avb_0 {f : Nat → Nat} : ∀ {n}, 0 < n → (avb f n).1 ≠ none
  | 0, h => absurd h (Nat.lt_irrefl 0)
  | n + 1, _ => by
    by_cases q : (avb f n).1 = none ∨ f n < (avb f n).2
    · rw [avb_t q]; intro h; cases h
    · rw [avb_f q]; exact fun h => q (Or.inl h)
