/-! ===== how much a search by halves makes: what is bounded turn by turn ===== -/
def psiT : List (List Nat) := [[0, 0, 0, 0, 0, 0, 0, 0, 0, 0, 0, 0, 0, 0, 0, 0, 0, 0, 0, 0, 0, 0, 0, 0, 0], [0, 0, 0, 0, 0, 0, 0, 0, 0, 0, 0, 0, 0, 0, 0, 0, 0, 0, 0, 0, 0, 0, 0, 0, 0], [0, 0, 8, 0, 0, 0, 0, 0, 0, 0, 0, 0, 0, 0, 0, 0, 0, 0, 0, 0, 0, 0, 0, 0, 0], [0, 0, 56, 44, 0, 0, 0, 0, 0, 0, 0, 0, 0, 0, 0, 0, 0, 0, 0, 0, 0, 0, 0, 0, 0], [0, 0, 124, 156, 108, 0, 0, 0, 0, 0, 0, 0, 0, 0, 0, 0, 0, 0, 0, 0, 0, 0, 0, 0, 0], [0, 0, 308, 268, 288, 208, 0, 0, 0, 0, 0, 0, 0, 0, 0, 0, 0, 0, 0, 0, 0, 0, 0, 0, 0], [0, 0, 472, 424, 448, 472, 352, 0, 0, 0, 0, 0, 0, 0, 0, 0, 0, 0, 0, 0, 0, 0, 0, 0, 0], [0, 0, 688, 800, 660, 688, 716, 548, 0, 0, 0, 0, 0, 0, 0, 0, 0, 0, 0, 0, 0, 0, 0, 0, 0], [0, 0, 964, 1092, 932, 964, 996, 1028, 804, 0, 0, 0, 0, 0, 0, 0, 0, 0, 0, 0, 0, 0, 0, 0, 0], [0, 0, 1596, 1452, 1560, 1308, 1344, 1380, 1416, 1128, 0, 0, 0, 0, 0, 0, 0, 0, 0, 0, 0, 0, 0, 0, 0], [0, 0, 2048, 1888, 2008, 1728, 1768, 1808, 1848, 1888, 1528, 0, 0, 0, 0, 0, 0, 0, 0, 0, 0, 0, 0, 0, 0], [0, 0, 2584, 2408, 2540, 2672, 2276, 2320, 2364, 2408, 2452, 2012, 0, 0, 0, 0, 0, 0, 0, 0, 0, 0, 0, 0, 0], [0, 0, 3212, 3020, 3164, 3308, 2876, 2924, 2972, 3020, 3068, 3116, 2588, 0, 0, 0, 0, 0, 0, 0, 0, 0, 0, 0, 0], [0, 0, 3940, 4356, 3888, 4044, 4200, 3628, 3680, 3732, 3784, 3836, 3888, 3264, 0, 0, 0, 0, 0, 0, 0, 0, 0, 0, 0], [0, 0, 4776, 5224, 4720, 4888, 5056, 4440, 4496, 4552, 4608, 4664, 4720, 4776, 4048, 0, 0, 0, 0, 0, 0, 0, 0, 0, 0], [0, 0, 5728, 6208, 5668, 5848, 6028, 6208, 5428, 5488, 5548, 5608, 5668, 5728, 5788, 4948, 0, 0, 0, 0, 0, 0, 0, 0, 0], [0, 0, 6804, 7316, 6740, 6932, 7124, 7316, 6484, 6548, 6612, 6676, 6740, 6804, 6868, 6932, 5972, 0, 0, 0, 0, 0, 0, 0, 0], [0, 0, 9100, 8556, 9032, 8148, 8352, 8556, 8760, 7740, 7808, 7876, 7944, 8012, 8080, 8148, 8216, 7128, 0, 0, 0, 0, 0, 0, 0], [0, 0, 10512, 9936, 10440, 9504, 9720, 9936, 10152, 9072, 9144, 9216, 9288, 9360, 9432, 9504, 9576, 9648, 8424, 0, 0, 0, 0, 0, 0], [0, 0, 12072, 11464, 11996, 11008, 11236, 11464, 11692, 11920, 10628, 10704, 10780, 10856, 10932, 11008, 11084, 11160, 11236, 9868, 0, 0, 0, 0, 0], [0, 0, 13788, 13148, 13708, 12668, 12908, 13148, 13388, 13628, 12268, 12348, 12428, 12508, 12588, 12668, 12748, 12828, 12908, 12988, 11468, 0, 0, 0, 0], [0, 0, 15668, 14996, 15584, 16172, 14744, 14996, 15248, 15500, 15752, 14156, 14240, 14324, 14408, 14492, 14576, 14660, 14744, 14828, 14912, 13232, 0, 0, 0], [0, 0, 17720, 17016, 17632, 18248, 16752, 17016, 17280, 17544, 17808, 16136, 16224, 16312, 16400, 16488, 16576, 16664, 16752, 16840, 16928, 17016, 15168, 0, 0], [0, 0, 19952, 19216, 19860, 20504, 18940, 19216, 19492, 19768, 20044, 20320, 18388, 18480, 18572, 18664, 18756, 18848, 18940, 19032, 19124, 19216, 19308, 17284, 0], [0, 0, 22372, 21604, 22276, 22948, 21316, 21604, 21892, 22180, 22468, 22756, 20740, 20836, 20932, 21028, 21124, 21220, 21316, 21412, 21508, 21604, 21700, 21796, 19588]]
def psi (m n : Nat) : Nat := (psiT.getD m []).getD n 0
/-- .. dishes of more than one place that it may taste yet -/
def nusT : List (List Nat) := [[0, 0, 0, 0, 0, 0, 0, 0, 0, 0, 0, 0, 0, 0, 0, 0, 0, 0, 0, 0, 0, 0, 0, 0, 0], [0, 0, 0, 0, 0, 0, 0, 0, 0, 0, 0, 0, 0, 0, 0, 0, 0, 0, 0, 0, 0, 0, 0, 0, 0], [0, 0, 0, 0, 0, 0, 0, 0, 0, 0, 0, 0, 0, 0, 0, 0, 0, 0, 0, 0, 0, 0, 0, 0, 0], [0, 0, 5, 3, 0, 0, 0, 0, 0, 0, 0, 0, 0, 0, 0, 0, 0, 0, 0, 0, 0, 0, 0, 0, 0], [0, 0, 9, 13, 7, 0, 0, 0, 0, 0, 0, 0, 0, 0, 0, 0, 0, 0, 0, 0, 0, 0, 0, 0, 0], [0, 0, 23, 18, 21, 12, 0, 0, 0, 0, 0, 0, 0, 0, 0, 0, 0, 0, 0, 0, 0, 0, 0, 0, 0], [0, 0, 28, 24, 26, 31, 18, 0, 0, 0, 0, 0, 0, 0, 0, 0, 0, 0, 0, 0, 0, 0, 0, 0, 0], [0, 0, 35, 49, 33, 36, 43, 25, 0, 0, 0, 0, 0, 0, 0, 0, 0, 0, 0, 0, 0, 0, 0, 0, 0], [0, 0, 43, 54, 41, 43, 48, 57, 33, 0, 0, 0, 0, 0, 0, 0, 0, 0, 0, 0, 0, 0, 0, 0, 0], [0, 0, 83, 61, 81, 52, 55, 62, 73, 42, 0, 0, 0, 0, 0, 0, 0, 0, 0, 0, 0, 0, 0, 0, 0], [0, 0, 88, 70, 86, 62, 64, 69, 78, 91, 52, 0, 0, 0, 0, 0, 0, 0, 0, 0, 0, 0, 0, 0, 0], [0, 0, 95, 81, 93, 121, 75, 78, 85, 96, 111, 63, 0, 0, 0, 0, 0, 0, 0, 0, 0, 0, 0, 0, 0], [0, 0, 104, 93, 102, 126, 87, 89, 94, 103, 116, 133, 75, 0, 0, 0, 0, 0, 0, 0, 0, 0, 0, 0, 0], [0, 0, 115, 175, 113, 133, 169, 102, 105, 112, 123, 138, 157, 88, 0, 0, 0, 0, 0, 0, 0, 0, 0, 0, 0], [0, 0, 128, 180, 126, 142, 174, 116, 118, 123, 132, 145, 162, 183, 102, 0, 0, 0, 0, 0, 0, 0, 0, 0, 0], [0, 0, 143, 187, 141, 153, 181, 225, 133, 136, 143, 154, 169, 188, 211, 117, 0, 0, 0, 0, 0, 0, 0, 0, 0], [0, 0, 159, 196, 157, 166, 190, 230, 149, 151, 156, 165, 178, 195, 216, 241, 133, 0, 0, 0, 0, 0, 0, 0, 0], [0, 0, 299, 207, 297, 181, 201, 237, 289, 168, 171, 178, 189, 204, 223, 246, 273, 150, 0, 0, 0, 0, 0, 0, 0], [0, 0, 304, 220, 302, 198, 214, 246, 294, 186, 188, 193, 202, 215, 232, 253, 278, 307, 168, 0, 0, 0, 0, 0, 0], [0, 0, 311, 235, 309, 217, 229, 257, 301, 361, 207, 210, 217, 228, 243, 262, 285, 312, 343, 187, 0, 0, 0, 0, 0], [0, 0, 320, 252, 318, 237, 246, 270, 310, 366, 227, 229, 234, 243, 256, 273, 294, 319, 348, 381, 207, 0, 0, 0, 0], [0, 0, 331, 271, 329, 451, 265, 285, 321, 373, 441, 250, 253, 260, 271, 286, 305, 328, 355, 386, 421, 228, 0, 0, 0], [0, 0, 344, 292, 342, 456, 286, 302, 334, 382, 446, 272, 274, 279, 288, 301, 318, 339, 364, 393, 426, 463, 250, 0, 0], [0, 0, 359, 315, 357, 463, 309, 321, 349, 393, 453, 529, 297, 300, 307, 318, 333, 352, 375, 402, 433, 468, 507, 273, 0], [0, 0, 376, 339, 374, 472, 333, 342, 366, 406, 462, 534, 321, 323, 328, 337, 350, 367, 388, 413, 442, 475, 512, 553, 297]]
def nus (m n : Nat) : Nat := (nusT.getD m []).getD n 0
/-- .. steps that it may make yet -/
def stpT : List (List Nat) := [[0, 0, 0, 0, 0, 0, 0, 0, 0, 0, 0, 0, 0, 0, 0, 0, 0, 0, 0, 0, 0, 0, 0, 0, 0], [0, 0, 0, 0, 0, 0, 0, 0, 0, 0, 0, 0, 0, 0, 0, 0, 0, 0, 0, 0, 0, 0, 0, 0, 0], [0, 0, 1, 0, 0, 0, 0, 0, 0, 0, 0, 0, 0, 0, 0, 0, 0, 0, 0, 0, 0, 0, 0, 0, 0], [0, 0, 3, 2, 0, 0, 0, 0, 0, 0, 0, 0, 0, 0, 0, 0, 0, 0, 0, 0, 0, 0, 0, 0, 0], [0, 0, 4, 4, 3, 0, 0, 0, 0, 0, 0, 0, 0, 0, 0, 0, 0, 0, 0, 0, 0, 0, 0, 0, 0], [0, 0, 6, 5, 5, 4, 0, 0, 0, 0, 0, 0, 0, 0, 0, 0, 0, 0, 0, 0, 0, 0, 0, 0, 0], [0, 0, 7, 6, 6, 6, 5, 0, 0, 0, 0, 0, 0, 0, 0, 0, 0, 0, 0, 0, 0, 0, 0, 0, 0], [0, 0, 8, 8, 7, 7, 7, 6, 0, 0, 0, 0, 0, 0, 0, 0, 0, 0, 0, 0, 0, 0, 0, 0, 0], [0, 0, 9, 9, 8, 8, 8, 8, 7, 0, 0, 0, 0, 0, 0, 0, 0, 0, 0, 0, 0, 0, 0, 0, 0], [0, 0, 11, 10, 10, 9, 9, 9, 9, 8, 0, 0, 0, 0, 0, 0, 0, 0, 0, 0, 0, 0, 0, 0, 0], [0, 0, 12, 11, 11, 10, 10, 10, 10, 10, 9, 0, 0, 0, 0, 0, 0, 0, 0, 0, 0, 0, 0, 0, 0], [0, 0, 13, 12, 12, 12, 11, 11, 11, 11, 11, 10, 0, 0, 0, 0, 0, 0, 0, 0, 0, 0, 0, 0, 0], [0, 0, 14, 13, 13, 13, 12, 12, 12, 12, 12, 12, 11, 0, 0, 0, 0, 0, 0, 0, 0, 0, 0, 0, 0], [0, 0, 15, 15, 14, 14, 14, 13, 13, 13, 13, 13, 13, 12, 0, 0, 0, 0, 0, 0, 0, 0, 0, 0, 0], [0, 0, 16, 16, 15, 15, 15, 14, 14, 14, 14, 14, 14, 14, 13, 0, 0, 0, 0, 0, 0, 0, 0, 0, 0], [0, 0, 17, 17, 16, 16, 16, 16, 15, 15, 15, 15, 15, 15, 15, 14, 0, 0, 0, 0, 0, 0, 0, 0, 0], [0, 0, 18, 18, 17, 17, 17, 17, 16, 16, 16, 16, 16, 16, 16, 16, 15, 0, 0, 0, 0, 0, 0, 0, 0], [0, 0, 20, 19, 19, 18, 18, 18, 18, 17, 17, 17, 17, 17, 17, 17, 17, 16, 0, 0, 0, 0, 0, 0, 0], [0, 0, 21, 20, 20, 19, 19, 19, 19, 18, 18, 18, 18, 18, 18, 18, 18, 18, 17, 0, 0, 0, 0, 0, 0], [0, 0, 22, 21, 21, 20, 20, 20, 20, 20, 19, 19, 19, 19, 19, 19, 19, 19, 19, 18, 0, 0, 0, 0, 0], [0, 0, 23, 22, 22, 21, 21, 21, 21, 21, 20, 20, 20, 20, 20, 20, 20, 20, 20, 20, 19, 0, 0, 0, 0], [0, 0, 24, 23, 23, 23, 22, 22, 22, 22, 22, 21, 21, 21, 21, 21, 21, 21, 21, 21, 21, 20, 0, 0, 0], [0, 0, 25, 24, 24, 24, 23, 23, 23, 23, 23, 22, 22, 22, 22, 22, 22, 22, 22, 22, 22, 22, 21, 0, 0], [0, 0, 26, 25, 25, 25, 24, 24, 24, 24, 24, 24, 23, 23, 23, 23, 23, 23, 23, 23, 23, 23, 23, 22, 0], [0, 0, 27, 26, 26, 26, 25, 25, 25, 25, 25, 25, 24, 24, 24, 24, 24, 24, 24, 24, 24, 24, 24, 24, 23]]
def stp (m n : Nat) : Nat := (stpT.getD m []).getD n 0
def rngB (m n : Nat) : Bool := decide (2 ≤ n) && decide (n ≤ m)
theorem psi_p0 : ∀ m, m < 25 → ∀ n, n < 25 → rngB m n = true → ∀ i, i < n → 2 * m * (i + 1) + psi ((i + 1) * m / n - i * m / n) 2 ≤ psi m n := by decide +kernel
theorem psi_c0 : ∀ m, m < 25 → ∀ n, n < 25 → rngB m n = true → 2 < n → ∀ i, i < n → 2 * m * n + 2 * m * (i + 1) + psi (m - ((i + 1) * m / n - i * m / n)) (n - 1) ≤ psi m n := by decide +kernel
theorem psi_d0 : ∀ m, m < 25 → ∀ n, n < 25 → rngB m n = true → n < m → 2 * m * n + (if 2 < n then 2 * m * n else 0) + psi m (min (n * 2) m) ≤ psi m n := by decide +kernel
theorem psi_e0 : ∀ m, m < 25 → ∀ n, n < 25 → rngB m n = true → 2 * m * n + (if 2 < n then 2 * m * n else 0) ≤ psi m n := by decide +kernel
theorem psi_top : ∀ m, m < 25 → psi m 2 ≤ 22372 := by decide +kernel
theorem nus_p0 : ∀ m, m < 25 → ∀ n, n < 25 → rngB m n = true → ∀ i, i < n → (if n < m then n else 0) + nus ((i + 1) * m / n - i * m / n) 2 ≤ nus m n := by decide +kernel
theorem nus_c0 : ∀ m, m < 25 → ∀ n, n < 25 → rngB m n = true → 2 < n → ∀ i, i < n → (if n < m then n else 0) + n + nus (m - ((i + 1) * m / n - i * m / n)) (n - 1) ≤ nus m n := by decide +kernel
theorem nus_d0 : ∀ m, m < 25 → ∀ n, n < 25 → rngB m n = true → n < m → n + (if 2 < n then n else 0) + nus m (min (n * 2) m) ≤ nus m n := by decide +kernel
theorem nus_e0 : ∀ m, m < 25 → ∀ n, n < 25 → rngB m n = true → (if n < m then n else 0) + (if 2 < n then n else 0) ≤ nus m n := by decide +kernel
theorem nus_top : ∀ m, m < 25 → nus m 2 ≤ 376 := by decide +kernel
theorem stp_p0 : ∀ m, m < 25 → ∀ n, n < 25 → rngB m n = true → ∀ i, i < n → 1 + stp ((i + 1) * m / n - i * m / n) 2 ≤ stp m n := by decide +kernel
theorem stp_c0 : ∀ m, m < 25 → ∀ n, n < 25 → rngB m n = true → 2 < n → ∀ i, i < n → 1 + stp (m - ((i + 1) * m / n - i * m / n)) (n - 1) ≤ stp m n := by decide +kernel
theorem stp_d0 : ∀ m, m < 25 → ∀ n, n < 25 → rngB m n = true → n < m → 1 + stp m (min (n * 2) m) ≤ stp m n := by decide +kernel
theorem stp_top : ∀ m, m < 25 → stp m 2 ≤ 27 := by decide +kernel
theorem rng_t {m n : Nat} (h1 : 2 ≤ n) (h2 : n ≤ m) : rngB m n = true := by unfold rngB; rw [decide_eq_true h1, decide_eq_true h2]; rfl
/-! ===== what is known: only dishes; it grows ===== -/
def KD (K : List Nat) : Prop := ∀ j, j < K.length → K.getD j 0 < 2 ^ 24
theorem KD_lk {K : List Nat} {d : Nat} (h : KD K) (hd : d < 2 ^ 24) : KD (lk K d) := by
  unfold lk
  split
  · exact h
  · intro j hj
    rw [List.length_append] at hj
    simp only [List.length_cons, List.length_nil] at hj
    by_cases q : j < K.length
    · rw [getD_app_l _ _ _ q]; exact h j q
    · rw [getD_app_r _ _ _ (by omega), show j - K.length = 0 by omega]; exact hd
theorem KD_nil : KD [] := fun j h => absurd h (Nat.not_lt_zero j)
theorem pto_sub {d n k q : Nat} (h : (pto d n k).testBit q = true) : d.testBit q = true := prt_sub d _ _ 24 q h
theorem sub_lt {d x n : Nat} (hd : d < 2 ^ n) (h : ∀ q, x.testBit q = true → d.testBit q = true) : x < 2 ^ n := Nat.lt_pow_two_of_testBit _ (fun i hi => by
  cases hq : x.testBit i
  · rfl
  · have h1 := h i hq
    rw [Nat.testBit_lt_two_pow (Nat.lt_of_lt_of_le hd (Nat.pow_le_pow_right (by decide) hi))] at h1
    cases h1)
theorem pto_ltn {d n p k : Nat} (hd : d < 2 ^ n) : pto d p k < 2 ^ n := sub_lt hd (fun _ h => pto_sub h)
theorem fst1_ge (sp : Nat → Bool) (mk : Nat → Nat) (f k : Nat) (K : List Nat) : K.length ≤ (fst1 sp mk f k K).2.length := (fst1_le sp mk f k K).2
theorem hst_grow (sp : Nat → Bool) (x : hS4) : x.2.2.1.length ≤ (hst sp x).2.2.2.1.length ∧ x.2.2.2.length ≤ (hst sp x).2.2.2.2.length := by
  obtain ⟨d, n, K, F⟩ := x
  by_cases c : cnt d 24 ≤ 1
  · rw [hst_0 c]; exact ⟨Nat.le_refl _, Nat.le_refl _⟩
  · obtain ⟨o1, K1, e1⟩ : ∃ o K1, fst1 sp (pto d n) n 0 K = (o, K1) := ⟨_, _, rfl⟩
    have g1 := fst1_ge sp (pto d n) n 0 K
    rw [e1] at g1
    simp only at g1
    rcases o1 with _ | k1
    · by_cases c2 : 2 < n
      · obtain ⟨o2, K2, e2⟩ : ∃ o K2, fst1 sp (fun k => nd d (pto d n k)) n 0 K1 = (o, K2) := ⟨_, _, rfl⟩
        have g2 := fst1_ge sp (fun k => nd d (pto d n k)) n 0 K1
        rw [e2] at g2
        simp only at g2
        rcases o2 with _ | k2
        · by_cases c4 : n < cnt d 24
          · rw [hst_3a c e1 c2 e2 c4]; exact ⟨Nat.le_trans g1 g2, by show F.length ≤ (F ++ _).length; rw [List.length_append]; omega⟩
          · rw [hst_4a c e1 c2 e2 c4]; exact ⟨Nat.le_trans g1 g2, Nat.le_refl _⟩
        · rw [hst_2 c e1 c2 e2]; exact ⟨Nat.le_trans g1 g2, by show F.length ≤ (F ++ _).length; rw [List.length_append]; omega⟩
      · by_cases c4 : n < cnt d 24
        · rw [hst_3b c e1 c2 c4]; exact ⟨g1, by show F.length ≤ (F ++ _).length; rw [List.length_append]; omega⟩
        · rw [hst_4b c e1 c2 c4]; exact ⟨g1, Nat.le_refl _⟩
    · rw [hst_1 c e1]; exact ⟨g1, by show F.length ≤ (F ++ _).length; rw [List.length_append]; omega⟩
theorem hrn_grow (sp : Nat → Bool) : ∀ f x, x.2.2.1.length ≤ (hrn sp f x).2.2.1.length ∧ x.2.2.2.length ≤ (hrn sp f x).2.2.2.length
  | 0, x => ⟨Nat.le_refl _, Nat.le_refl _⟩
  | f + 1, x => by
    have h1 := hst_grow sp x
    cases e : (hst sp x).1
    · rw [hrn_no e]; exact h1
    · rw [hrn_go e]
      have h2 := hrn_grow sp f (hst sp x).2
      exact ⟨Nat.le_trans h1.1 h2.1, Nat.le_trans h1.2 h2.2⟩
theorem hrn_gr {sp : Nat → Bool} {f d n d2 n2 : Nat} {K K2 : List Nat} {F F2 : List Int32} (h : hrn sp f (d, n, K, F) = (d2, n2, K2, F2)) : K.length ≤ K2.length ∧ F.length ≤ F2.length ∧ tri K.length ≤ tri K2.length ∧ tri (F.length / 5) ≤ tri (F2.length / 5) := by
  have h1 := hrn_grow sp f (d, n, K, F)
  rw [h] at h1
  simp only at h1
  exact ⟨h1.1, h1.2, tri_le h1.1, tri_le (Nat.div_le_div_right h1.2)⟩
theorem spl_0 (k ne sp : Nat → Nat) (n rc : Nat) : spl k ne sp n rc 0 = false := by
  have h0 : ∀ m, kds k 0 m = 0 := by
    intro m
    induction m with
    | zero => rfl
    | succ m ih => rw [kds_f (Nat.zero_testBit m), ih]
  exact spl_i (fun i _ => by rw [h0]; exact kq_0 ne sp i)
theorem i5_e (z : Nat → Int32) (a b c d e : Int32) {j : Nat} (h : j < 5) : va_up (va_up (va_up (va_up (va_up z 0 a) 1 b) 2 c) 3 d) 4 e j = [a, b, c, d, e].getD j 0 := by
  have h5 : j = 0 ∨ j = 1 ∨ j = 2 ∨ j = 3 ∨ j = 4 := by omega
  rcases h5 with rfl | rfl | rfl | rfl | rfl <;> rfl
theorem dI_piece {G : cG} {L : List Nat} {f : Nat → va_E} {c d p i : Nat} (hq : i * cnt d 24 / p < (i + 1) * cnt d 24 / p ∧ (i + 1) * cnt d 24 / p ≤ cnt d 24 ∧ (i + 1) * cnt d 24 / p - i * cnt d 24 / p + (p - 1) ≤ cnt d 24) (h : fI G L f c ((i + 1) * cnt d 24 / p - i * cnt d 24 / p) (fun j => nI (plc d (i * cnt d 24 / p + j)))) : dI G L f c (pto d p i) :=
  h.ton (cnt_part d (Nat.le_of_lt hq.1) hq.2.1).symm (fun j hj => by
    rw [show cnt (pto d p i) 24 = (i + 1) * cnt d 24 / p - i * cnt d 24 / p from cnt_part d (Nat.le_of_lt hq.1) hq.2.1] at hj
    exact congrArg nI (plc_prt (Nat.le_of_lt hq.1) hq.2.1 hj).symm)
theorem dI_rest {G : cG} {L : List Nat} {f : Nat → va_E} {c d a b : Nat} (hab : a ≤ b) (hb : b ≤ cnt d 24) (h : fI G L f c (cnt d 24 - b + a) (fun j => nI (plc d (if j < a then j else j + (b - a))))) : dI G L f c (nd d (prt d a b 24)) :=
  h.ton (by rw [cnt_part_nd d hab hb]; omega) (fun j hj => by
    rw [cnt_part_nd d hab hb] at hj
    exact congrArg nI (plc_nd hab hb hj).symm)
theorem fst1_lk {sp : Nat → Bool} {mk : Nat → Nat} {f k : Nat} {K K1 : List Nat} {o : Option Nat} (h : fst1 sp mk f k K = (o, K1)) (hf : 0 < f) : (lk K (mk k)).length ≤ K1.length := by
  obtain ⟨f, rfl⟩ : ∃ f', f = f' + 1 := ⟨f - 1, by omega⟩
  cases hs : sp (mk k)
  · rw [fst1_f hs] at h
    have := fst1_ge sp mk f (k + 1) (lk K (mk k))
    rw [h] at this
    exact this
  · rw [fst1_t hs] at h
    cases h
    exact Nat.le_refl _
theorem hst_K3 {sp : Nat → Bool} {d n : Nat} {K K1 K3 : List Nat} {F : List Int32} {o2 : Option Nat} (c : ¬ cnt d 24 ≤ 1) (e1 : fst1 sp (pto d n) n 0 K = (none, K1)) (e2 : (if 2 < n then fst1 sp (fun k => nd d (pto d n k)) n 0 K1 else (none, K1)) = (o2, K3)) : K3.length ≤ (hst sp (d, n, K, F)).2.2.2.1.length ∧ K1.length ≤ K3.length := by
  by_cases c2 : 2 < n
  · rw [if_pos c2] at e2
    have g2 := fst1_ge sp (fun k => nd d (pto d n k)) n 0 K1
    rw [e2] at g2
    simp only at g2
    rcases o2 with _ | k2
    · by_cases c4 : n < cnt d 24
      · rw [hst_3a c e1 c2 e2 c4]; exact ⟨Nat.le_refl _, g2⟩
      · rw [hst_4a c e1 c2 e2 c4]; exact ⟨Nat.le_refl _, g2⟩
    · rw [hst_2 c e1 c2 e2]; exact ⟨Nat.le_refl _, g2⟩
  · rw [if_neg c2] at e2
    cases e2
    by_cases c4 : n < cnt d 24
    · rw [hst_3b c e1 c2 c4]; exact ⟨Nat.le_refl _, Nat.le_refl _⟩
    · rw [hst_4b c e1 c2 c4]; exact ⟨Nat.le_refl _, Nat.le_refl _⟩
theorem hst_K1 {sp : Nat → Bool} {d n : Nat} {K K1 : List Nat} {F : List Int32} {o1 : Option Nat} (c : ¬ cnt d 24 ≤ 1) (e1 : fst1 sp (pto d n) n 0 K = (o1, K1)) : K1.length ≤ (hst sp (d, n, K, F)).2.2.2.1.length := by
  rcases o1 with _ | k1
  · obtain ⟨o2, K3, e2⟩ : ∃ o K3, (if 2 < n then fst1 sp (fun k => nd d (pto d n k)) n 0 K1 else (none, K1)) = (o, K3) := ⟨_, _, rfl⟩
    have h := hst_K3 (F := F) c e1 e2
    exact Nat.le_trans h.2 h.1
  · rw [hst_1 c e1]; exact Nat.le_refl _
theorem hrn_ge1 {sp : Nat → Bool} {f : Nat} {x : hS4} {d2 n2 : Nat} {K2 : List Nat} {F2 : List Int32} (h : hrn sp (f + 1) x = (d2, n2, K2, F2)) {q : Nat} (hq : q ≤ (hst sp x).2.2.2.1.length) : q ≤ K2.length := by
  have h2 : (hst sp x).2.2.2.1.length ≤ (hrn sp (f + 1) x).2.2.1.length := by
    cases e : (hst sp x).1
    · rw [hrn_no e]; exact Nat.le_refl _
    · rw [hrn_go e]; exact (hrn_grow sp f (hst sp x).2).1
  rw [h] at h2
  exact Nat.le_trans hq h2
