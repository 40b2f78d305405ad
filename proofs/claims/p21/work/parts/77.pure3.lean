/-! ===== how many dishes a search tastes: each once, of one place 24 at most ===== -/
def nsg (K : List Nat) : Nat := (K.filter (fun x => decide (cnt x 24 ≠ 1))).length
theorem nsg_app (K : List Nat) (x : Nat) : nsg (K ++ [x]) = nsg K + (if cnt x 24 = 1 then 0 else 1) := by
  unfold nsg
  rw [List.filter_append, List.length_append]
  by_cases h : cnt x 24 = 1
  · rw [if_pos h, List.filter_cons_of_neg (by simp [h])]; rfl
  · rw [if_neg h, List.filter_cons_of_pos (by simp [h])]; rfl
theorem nsg_lk (K : List Nat) (x : Nat) : nsg K ≤ nsg (lk K x) ∧ nsg (lk K x) ≤ nsg K + 1 ∧ (cnt x 24 = 1 → nsg (lk K x) = nsg K) := by
  unfold lk
  split
  · exact ⟨Nat.le_refl _, Nat.le_succ _, fun _ => rfl⟩
  · rw [nsg_app]
    by_cases h : cnt x 24 = 1
    · rw [if_pos h]; exact ⟨Nat.le_refl _, Nat.le_succ _, fun _ => rfl⟩
    · rw [if_neg h]; exact ⟨Nat.le_succ _, Nat.le_refl _, fun z => absurd z h⟩
theorem ndp_lk {K : List Nat} (h : K.Nodup) (x : Nat) : (lk K x).Nodup := by
  unfold lk
  split
  · exact h
  · rename_i hx
    rw [List.nodup_append]
    refine ⟨h, by simp, fun a ha b hb => ?_⟩
    rw [List.mem_singleton] at hb
    subst hb
    exact fun e => hx (e ▸ ha)
theorem fst1_nd (sp : Nat → Bool) (mk : Nat → Nat) : ∀ f k K, K.Nodup → (fst1 sp mk f k K).2.Nodup
  | 0, k, K, h => h
  | f + 1, k, K, h => by
    cases hs : sp (mk k)
    · rw [fst1_f hs]; exact fst1_nd sp mk f (k + 1) _ (ndp_lk h _)
    · rw [fst1_t hs]; exact ndp_lk h _
theorem fst1_KD (sp : Nat → Bool) (mk : Nat → Nat) (hm : ∀ k, mk k < 2 ^ 24) : ∀ f k K, KD K → KD (fst1 sp mk f k K).2
  | 0, k, K, h => h
  | f + 1, k, K, h => by
    cases hs : sp (mk k)
    · rw [fst1_f hs]; exact fst1_KD sp mk hm f (k + 1) _ (KD_lk h (hm k))
    · rw [fst1_t hs]; exact KD_lk h (hm k)
theorem fst1_ns (sp : Nat → Bool) (mk : Nat → Nat) : ∀ f k K, nsg (fst1 sp mk f k K).2 ≤ nsg K + f
  | 0, k, K => Nat.le_refl _
  | f + 1, k, K => by
    have h1 := (nsg_lk K (mk k)).2.1
    cases hs : sp (mk k)
    · rw [fst1_f hs]; have := fst1_ns sp mk f (k + 1) (lk K (mk k)); omega
    · rw [fst1_t hs]; show nsg (lk K (mk k)) ≤ _; omega
theorem fst1_ns1 (sp : Nat → Bool) (mk : Nat → Nat) : ∀ f k K, (∀ j, k ≤ j → j < k + f → cnt (mk j) 24 = 1) → nsg (fst1 sp mk f k K).2 ≤ nsg K
  | 0, k, K, _ => Nat.le_refl _
  | f + 1, k, K, h => by
    have h1 := (nsg_lk K (mk k)).2.2 (h k (Nat.le_refl _) (by omega))
    cases hs : sp (mk k)
    · rw [fst1_f hs]; have := fst1_ns1 sp mk f (k + 1) (lk K (mk k)) (fun j g1 g2 => h j (by omega) (by omega)); omega
    · rw [fst1_t hs]; show nsg (lk K (mk k)) ≤ _; omega
/-- the parts' tastings add dishes of more than one place only while there are fewer parts than places -/
theorem fst1_pt {sp : Nat → Bool} {d n : Nat} {K K1 : List Nat} {o : Option Nat} (h2 : 2 ≤ n) (hn : n ≤ cnt d 24) (h : fst1 sp (pto d n) n 0 K = (o, K1)) : nsg K1 ≤ nsg K + (if n < cnt d 24 then n else 0) := by
  have hc := cnt_le d 24
  by_cases q : n < cnt d 24
  · rw [if_pos q]
    have := fst1_ns sp (pto d n) n 0 K
    rw [h] at this
    exact this
  · rw [if_neg q]
    have e : cnt d 24 = n := by omega
    have := fst1_ns1 sp (pto d n) n 0 K (fun j _ hj => by
      have h1 := pto_num (m := cnt d 24) (n := n) (k := j) (by omega) (by omega) h2 hn
      have h3 : cnt (pto d n j) 24 = (j + 1) * cnt d 24 / n - j * cnt d 24 / n := cnt_part d (Nat.le_of_lt h1.1) h1.2.1
      rw [h3, e, Nat.mul_div_cancel _ (by omega), Nat.mul_div_cancel _ (by omega)]; omega)
    rw [h] at this
    exact this
/-- a turn: what is tasted, and how many steps, against what is left -/
theorem hst_bd (sp : Nat → Bool) (x : hS4) (hI : hIn x) (hN : x.2.2.1.Nodup) (hK : KD x.2.2.1) :
    (hst sp x).2.2.2.1.Nodup ∧ KD (hst sp x).2.2.2.1 ∧
    ((hst sp x).1 = true → nsg (hst sp x).2.2.2.1 + nus (cnt (hst sp x).2.1 24) (hst sp x).2.2.1 ≤ nsg x.2.2.1 + nus (cnt x.1 24) x.2.1 ∧ (hst sp x).2.2.2.2.length + 5 * stp (cnt (hst sp x).2.1 24) (hst sp x).2.2.1 ≤ x.2.2.2.length + 5 * stp (cnt x.1 24) x.2.1) ∧
    ((hst sp x).1 = false → nsg (hst sp x).2.2.2.1 ≤ nsg x.2.2.1 + nus (cnt x.1 24) x.2.1 ∧ (hst sp x).2.2.2.2.length = x.2.2.2.length) := by
  obtain ⟨d, n, K, F⟩ := x
  obtain ⟨hd, h2, hn9, -⟩ := hI
  simp only at hd h2 hn9 hN hK
  have hc := cnt_le d 24
  by_cases c : cnt d 24 ≤ 1
  · rw [hst_0 c]; exact ⟨hN, hK, fun z => by (cases z), fun _ => ⟨Nat.le_add_right _ _, rfl⟩⟩
  · have hn : n ≤ cnt d 24 := by omega
    have hr := rng_t h2 hn
    obtain ⟨o1, K1, e1⟩ : ∃ o K1, fst1 sp (pto d n) n 0 K = (o, K1) := ⟨_, _, rfl⟩
    have N1 := fst1_nd sp (pto d n) n 0 K hN
    have D1 := fst1_KD sp (pto d n) (pto_lt d n) n 0 K hK
    have S1 := fst1_pt h2 hn e1
    rw [e1] at N1 D1
    simp only at N1 D1
    rcases o1 with _ | k
    · obtain ⟨o2, K2, e2⟩ : ∃ o K2, (if 2 < n then fst1 sp (fun k => nd d (pto d n k)) n 0 K1 else (none, K1)) = (o, K2) := ⟨_, _, rfl⟩
      have hall : K2.Nodup ∧ KD K2 ∧ nsg K2 ≤ nsg K1 + (if 2 < n then n else 0) := by
        by_cases c2 : 2 < n
        · rw [if_pos c2] at e2 ⊢
          have a1 := fst1_nd sp (fun k => nd d (pto d n k)) n 0 K1 N1
          have a2 := fst1_KD sp (fun k => nd d (pto d n k)) (fun k => nd_lt hd) n 0 K1 D1
          have a3 := fst1_ns sp (fun k => nd d (pto d n k)) n 0 K1
          rw [e2] at a1 a2 a3
          exact ⟨a1, a2, a3⟩
        · rw [if_neg c2] at e2 ⊢
          cases e2
          exact ⟨N1, D1, Nat.le_refl _⟩
      obtain ⟨N2, D2, S2⟩ := hall
      rcases o2 with _ | k2
      · by_cases c4 : n < cnt d 24
        · have e3 : hst sp (d, n, K, F) = (true, (d, min (n * 2) (cnt d 24), K2, F ++ [nI (cnt d 24), nI n, nI 3, -1, nI d])) := by
            by_cases c2 : 2 < n
            · rw [if_pos c2] at e2; exact hst_3a c e1 c2 e2 c4
            · rw [if_neg c2] at e2; cases e2; exact hst_3b c e1 c2 c4
          rw [e3]
          have q1 := nus_d0 (cnt d 24) (by omega) n (by omega) hr c4
          have q2 := stp_d0 (cnt d 24) (by omega) n (by omega) hr c4
          rw [if_pos c4] at S1
          refine ⟨N2, D2, fun _ => ⟨?_, ?_⟩, fun z => by (cases z)⟩
          · show nsg K2 + nus (cnt d 24) (min (n * 2) (cnt d 24)) ≤ nsg K + nus (cnt d 24) n; omega
          · show (F ++ _).length + 5 * stp (cnt d 24) (min (n * 2) (cnt d 24)) ≤ F.length + 5 * stp (cnt d 24) n
            rw [List.length_append]; simp only [List.length_cons, List.length_nil]; omega
        · have e3 : hst sp (d, n, K, F) = (false, (d, n, K2, F)) := by
            by_cases c2 : 2 < n
            · rw [if_pos c2] at e2; exact hst_4a c e1 c2 e2 c4
            · rw [if_neg c2] at e2; cases e2; exact hst_4b c e1 c2 c4
          rw [e3]
          have q1 := nus_e0 (cnt d 24) (by omega) n (by omega) hr
          exact ⟨N2, D2, fun z => by (cases z), fun _ => ⟨by show nsg K2 ≤ nsg K + nus (cnt d 24) n; omega, rfl⟩⟩
      · have c2 : 2 < n := by
          by_cases z : 2 < n
          · exact z
          · rw [if_neg z] at e2; cases e2
        rw [if_pos c2] at e2 S2
        obtain ⟨hk, -, -⟩ := fst1_mk sp _ n K1 k2 K2 e2
        have h1 := pto_num (m := cnt d 24) (n := n) (k := k2) (by omega) hk h2 hn
        have h3 : cnt (nd d (pto d n k2)) 24 = cnt d 24 - ((k2 + 1) * cnt d 24 / n - k2 * cnt d 24 / n) := cnt_part_nd d (Nat.le_of_lt h1.1) h1.2.1
        have q1 := nus_c0 (cnt d 24) (by omega) n (by omega) hr c2 k2 hk
        have q2 := stp_c0 (cnt d 24) (by omega) n (by omega) hr c2 k2 hk
        rw [← h3] at q1 q2
        rw [hst_2 c e1 c2 e2]
        refine ⟨N2, D2, fun _ => ⟨?_, ?_⟩, fun z => by (cases z)⟩
        · show nsg K2 + nus (cnt (nd d (pto d n k2)) 24) (n - 1) ≤ nsg K + nus (cnt d 24) n; omega
        · show (F ++ _).length + 5 * stp (cnt (nd d (pto d n k2)) 24) (n - 1) ≤ F.length + 5 * stp (cnt d 24) n
          rw [List.length_append]; simp only [List.length_cons, List.length_nil]; omega
    · obtain ⟨hk, -, -⟩ := fst1_mk sp _ n K k K1 e1
      have h1 := pto_num (m := cnt d 24) (n := n) (k := k) (by omega) hk h2 hn
      have h3 : cnt (pto d n k) 24 = (k + 1) * cnt d 24 / n - k * cnt d 24 / n := cnt_part d (Nat.le_of_lt h1.1) h1.2.1
      have q1 := nus_p0 (cnt d 24) (by omega) n (by omega) hr k hk
      have q2 := stp_p0 (cnt d 24) (by omega) n (by omega) hr k hk
      rw [← h3] at q1 q2
      rw [hst_1 c e1]
      refine ⟨N1, D1, fun _ => ⟨?_, ?_⟩, fun z => by (cases z)⟩
      · show nsg K1 + nus (cnt (pto d n k) 24) 2 ≤ nsg K + nus (cnt d 24) n; omega
      · show (F ++ _).length + 5 * stp (cnt (pto d n k) 24) 2 ≤ F.length + 5 * stp (cnt d 24) n
        rw [List.length_append]; simp only [List.length_cons, List.length_nil]; omega
theorem hrn_bd2 (sp : Nat → Bool) : ∀ f x, hIn x → x.2.2.1.Nodup → KD x.2.2.1 → (hrn sp f x).2.2.1.Nodup ∧ KD (hrn sp f x).2.2.1 ∧ nsg (hrn sp f x).2.2.1 ≤ nsg x.2.2.1 + nus (cnt x.1 24) x.2.1 ∧ (hrn sp f x).2.2.2.length ≤ x.2.2.2.length + 5 * stp (cnt x.1 24) x.2.1
  | 0, x, _, hN, hK => ⟨hN, hK, Nat.le_add_right _ _, Nat.le_add_right _ _⟩
  | f + 1, x, hI, hN, hK => by
    obtain ⟨a, b, c, d⟩ := hst_bd sp x hI hN hK
    cases e : (hst sp x).1
    · rw [hrn_no e]
      obtain ⟨d1, d2⟩ := d e
      exact ⟨a, b, d1, by omega⟩
    · rw [hrn_go e]
      obtain ⟨c1, c2⟩ := c e
      obtain ⟨i1, i2, i3, i4⟩ := hrn_bd2 sp f (hst sp x).2 (hst_ok sp x hI e).1 a b
      exact ⟨i1, i2, by omega, by omega⟩
theorem sgl_le {K : List Nat} (hN : K.Nodup) (hK : KD K) : K.length ≤ nsg K + 24 := by
  have h1 : K.length = nsg K + (K.filter (fun x => decide (cnt x 24 = 1))).length := by
    clear hN hK
    unfold nsg
    induction K with
    | nil => rfl
    | cons a K ih =>
      by_cases h : cnt a 24 = 1
      · rw [List.filter_cons_of_neg (by simp [h]), List.filter_cons_of_pos (by simp [h]), List.length_cons, List.length_cons, ih]; omega
      · rw [List.filter_cons_of_pos (by simp [h]), List.filter_cons_of_neg (by simp [h]), List.length_cons, List.length_cons, ih]; omega
  have hmem : ∀ x ∈ K.filter (fun x => decide (cnt x 24 = 1)), cnt x 24 = 1 ∧ x < 2 ^ 24 := by
    intro x hx
    obtain ⟨m1, m2⟩ := List.mem_filter.mp hx
    obtain ⟨j, hj, e⟩ := getD_mem.mp m1
    exact ⟨of_decide_eq_true m2, e ▸ hK j hj⟩
  have hnd : (K.filter (fun x => decide (cnt x 24 = 1))).Nodup := hN.filter _
  generalize K.filter (fun x => decide (cnt x 24 = 1)) = S at h1 hmem hnd
  have h2 := fb_holes 24 S.length (fun j => plc (S.getD j 0) 0) (fun j hj => by
    have := hmem (S.getD j 0) (getD_mem.mpr ⟨j, hj, rfl⟩)
    exact (plc_ok (by omega)).1) (fun i j hij hj e => by
    have a1 := hmem (S.getD i 0) (getD_mem.mpr ⟨i, by omega, rfl⟩)
    have a2 := hmem (S.getD j 0) (getD_mem.mpr ⟨j, hj, rfl⟩)
    have e2 : S.getD i 0 = S.getD j 0 := dish_ext a1.2 a2.2 (by omega) (fun q hq => by
      have : q = 0 := by omega
      rw [this]; exact e)
    have e3 := List.pairwise_iff_getElem.mp hnd i j (by omega) hj hij
    apply e3
    rw [List.getD_eq_getElem?_getD, List.getD_eq_getElem?_getD, List.getElem?_eq_getElem (show i < S.length by omega), List.getElem?_eq_getElem hj] at e2
    exact e2)
  omega
theorem hal_rm {sp : Nat → Bool} {n d2 n2 : Nat} {K2 : List Nat} {F2 : List Int32} (hn : n ≤ 24) (hR : hal sp (2 ^ n - 1) = (d2, n2, K2, F2)) : K2.length ≤ 401 ∧ F2.length ≤ 135 ∧ KD K2 ∧ tri K2.length ≤ 80601 ∧ tri (F2.length / 5) ≤ 378 := by
  have hp24 := two_pow24 hn
  have key : K2.length ≤ 401 ∧ F2.length ≤ 135 ∧ KD K2 := by
    cases hs : sp (2 ^ n - 1)
    · rw [hal_f hs] at hR
      cases hR
      exact ⟨by show 1 ≤ 401; decide, by decide, fun j hj => by
        have : j = 0 := by simp only [List.length_cons, List.length_nil] at hj; omega
        rw [this]; show 2 ^ n - 1 < 2 ^ 24; omega⟩
    · obtain ⟨a, -, b⟩ := hal_m (w := 2 ^ n - 1) (by omega) hs hR
      have h := hrn_bd2 sp 128 _ a (by show [2 ^ n - 1].Nodup; simp) (fun j hj => by
        have hj2 : j < 1 := hj
        have : j = 0 := by omega
        rw [this]; show 2 ^ n - 1 < 2 ^ 24; omega)
      rw [b] at h
      obtain ⟨h1, h2, h3, h4⟩ := h
      simp only at h1 h2 h3 h4
      have h5 := sgl_le h1 h2
      have h6 := nus_top (cnt (2 ^ n - 1) 24) (by have := cnt_le (2 ^ n - 1) 24; omega)
      have h7 := stp_top (cnt (2 ^ n - 1) 24) (by have := cnt_le (2 ^ n - 1) 24; omega)
      have h8 : nsg [2 ^ n - 1] ≤ 1 := by have := List.length_filter_le (fun x => decide (cnt x 24 ≠ 1)) [2 ^ n - 1]; exact this
      have h9 : ([] : List Int32).length = 0 := rfl
      exact ⟨by omega, by omega, h2⟩
  refine ⟨key.1, key.2.1, key.2.2, ?_, ?_⟩
  · have h1 := tri_le key.1
    rw [show tri 401 = 80601 by decide +kernel] at h1
    exact h1
  · have h1 := tri_le (show F2.length / 5 ≤ 27 by omega)
    rw [show tri 27 = 378 by decide +kernel] at h1
    exact h1
theorem hst_sub (sp : Nat → Bool) (x : hS4) (q : Nat) (h : (hst sp x).2.1.testBit q = true) : x.1.testBit q = true := by
  obtain ⟨d, n, K, F⟩ := x
  by_cases c : cnt d 24 ≤ 1
  · rw [hst_0 c] at h; exact h
  · obtain ⟨o1, K1, e1⟩ : ∃ o K1, fst1 sp (pto d n) n 0 K = (o, K1) := ⟨_, _, rfl⟩
    rcases o1 with _ | k
    · by_cases c2 : 2 < n
      · obtain ⟨o2, K2, e2⟩ : ∃ o K2, fst1 sp (fun k => nd d (pto d n k)) n 0 K1 = (o, K2) := ⟨_, _, rfl⟩
        rcases o2 with _ | k2
        · by_cases c4 : n < cnt d 24
          · rw [hst_3a c e1 c2 e2 c4] at h; exact h
          · rw [hst_4a c e1 c2 e2 c4] at h; exact h
        · rw [hst_2 c e1 c2 e2] at h
          have h2 : (nd d (pto d n k2)).testBit q = true := h
          rw [nd_bit, Bool.and_eq_true] at h2
          exact h2.1
      · by_cases c4 : n < cnt d 24
        · rw [hst_3b c e1 c2 c4] at h; exact h
        · rw [hst_4b c e1 c2 c4] at h; exact h
    · rw [hst_1 c e1] at h; exact pto_sub h
theorem hrn_sub (sp : Nat → Bool) : ∀ f x q, (hrn sp f x).1.testBit q = true → x.1.testBit q = true
  | 0, x, q, h => h
  | f + 1, x, q, h => by
    cases e : (hst sp x).1
    · rw [hrn_no e] at h; exact hst_sub sp x q h
    · rw [hrn_go e] at h; exact hst_sub sp x q (hrn_sub sp f _ q h)
theorem hal_ltn {sp : Nat → Bool} {n d2 n2 : Nat} {K2 : List Nat} {F2 : List Int32} (hR : hal sp (2 ^ n - 1) = (d2, n2, K2, F2)) : d2 < 2 ^ n := by
  have h1 := Nat.one_le_two_pow (n := n)
  cases hs : sp (2 ^ n - 1)
  · rw [hal_f hs] at hR; cases hR; exact h1
  · unfold hal at hR
    rw [if_pos hs] at hR
    refine sub_lt (d := 2 ^ n - 1) (by omega) (fun q h => ?_)
    refine hrn_sub sp 128 (2 ^ n - 1, 2, [2 ^ n - 1], []) q ?_
    rw [hR]; exact h
/-- a dish that has all of the first i places -/
def low (d i : Nat) : Prop := ∀ q, q < i → d.testBit q = true
theorem low_cnt {d : Nat} : ∀ {i : Nat}, low d i → cnt d i = i
  | 0, _ => rfl
  | i + 1, h => by rw [cnt_t (h i (Nat.lt_succ_self i)), low_cnt (fun q hq => h q (by omega))]
theorem low_plc {d i j : Nat} (h : low d i) (hi : i ≤ 24) (hj : j < i) : plc d j = j := by
  have h1 := plc_cnt (d := d) (i := j) (by omega) (h j hj)
  rw [low_cnt (fun q hq => h q (by omega))] at h1
  exact h1
theorem low_rest {d i : Nat} (h : low d (i + 1)) (hi : i < 24) : prt d i (i + 1) 24 = 2 ^ i := by
  have h1 : i < cnt d 24 := by
    have h2 := low_cnt h
    have h3 := cnt_mono d (i := i + 1) (j := 24) (by omega)
    omega
  rw [prt_one h1, low_plc h (by omega) (Nat.lt_succ_self i)]
theorem low_one {d i : Nat} (h : low d (i + 1)) (hi : i < 24) (hd : d < 2 ^ 24) : nd d (2 ^ i) = 0 ↔ cnt d 24 = 1 := by
  have h1 : i < cnt d 24 := by
    have h2 := low_cnt h
    have h3 := cnt_mono d (i := i + 1) (j := 24) (by omega)
    omega
  rw [← cnt_0_iff (nd_lt hd), ← low_rest h hi, cnt_part_nd d (Nat.le_succ i) h1]
  omega
theorem low_nd {d i : Nat} (h : low d (i + 1)) : low (nd d (2 ^ i)) i := fun q hq => nd_pow_b (by omega) (h q (by omega))
theorem low_less {d i : Nat} (h : low d (i + 1)) : low d i := fun q hq => h q (by omega)
theorem low_whole (n : Nat) : low (2 ^ n - 1) n := fun q hq => by rw [Nat.testBit_two_pow_sub_one, decide_eq_true hq]
theorem KD_one {w : Nat} (h : w < 2 ^ 24) : KD [w] := fun j hj => by
  have hj2 : j < 1 := hj
  have : j = 0 := by omega
  rw [this]; exact h
