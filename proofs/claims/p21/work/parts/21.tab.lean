/-! ===== the table of the dishes that are known: number of the search above the dish, probed in a row ===== -/
def hmI (d : Nat) : Int32 := ((nI d * (-1640531535)).toUInt32 >>> ((nI 20).toUInt32 &&& Int32.toUInt32 31)).toInt32
def hm (d : Nat) : Nat := (hmI d).toBitVec.toNat
theorem hm_lt (d : Nat) : hm d < 4096 := by
  unfold hm hmI
  rw [pk_ushr (nI d * (-1640531535)) (nI 20) 20 (s_u 20 (by decide))]
  have h := (nI d * (-1640531535)).toBitVec.isLt
  omega
theorem hm_e (d : Nat) : ((nI d * (-1640531535)).toUInt32 >>> ((nI 20).toUInt32 &&& Int32.toUInt32 31)).toInt32 = nI (hm d) := by
  show hmI d = nI (hm d)
  apply Int32.toBitVec_inj.mp
  apply BitVec.eq_of_toNat_eq
  rw [nI_bv, BitVec.toNat_ofNat]
  show hm d = hm d % 2 ^ 32
  have := hm_lt d
  omega
/-- a table that holds marks of searches up to s alone -/
def TB (T : Nat → Int64) (s : Nat) : Prop := ∃ v : Nat → Nat, ∀ j, j < 4096 → T j = lN (v j) ∧ v j < 2 ^ 62 ∧ v j / 2 ^ 24 ≤ s
/-- .. and, of search s, the dishes K -/
def TI2 (v : Nat → Nat) (s : Nat) (K : List Nat) : Prop :=
  (∀ j, j < 4096 → v j < 2 ^ 62 ∧ v j / 2 ^ 24 ≤ s) ∧ (∀ j, j < 4096 → v j / 2 ^ 24 = s → v j % 2 ^ 24 ∈ K) ∧
  (∀ i j, i < 4096 → j < 4096 → v i / 2 ^ 24 = s → v j / 2 ^ 24 = s → v i % 2 ^ 24 = v j % 2 ^ 24 → i = j) ∧
  (∀ d, d ∈ K → d < 2 ^ 24 ∧ ∃ q, q < 4096 ∧ v ((hm d + q) % 4096) = s * 2 ^ 24 + d ∧ ∀ r, r < q → v ((hm d + r) % 4096) / 2 ^ 24 = s)
def TI (T : Nat → Int64) (s : Nat) (K : List Nat) : Prop := ∃ v : Nat → Nat, (∀ j, j < 4096 → T j = lN (v j)) ∧ TI2 v s K
theorem TI_TB {T : Nat → Int64} {s : Nat} {K : List Nat} (h : TI T s K) : TB T s := by
  obtain ⟨v, h1, h2, -⟩ := h
  exact ⟨v, fun j hj => ⟨h1 j hj, h2 j hj⟩⟩
theorem TB_0 : TB (fun _ => 0) 0 := ⟨fun _ => 0, fun _ _ => ⟨rfl, by show 0 < 2 ^ 62; decide, by show 0 / 2 ^ 24 ≤ 0; decide⟩⟩
theorem TB_new {T : Nat → Int64} {s : Nat} (h : TB T s) : TI T (s + 1) [] := by
  obtain ⟨v, h⟩ := h
  refine ⟨v, fun j hj => (h j hj).1, fun j hj => ⟨(h j hj).2.1, ?_⟩, fun j hj e => ?_, fun i j hi hj e => ?_, fun d hd => ?_⟩
  · have := (h j hj).2.2; omega
  · have := (h j hj).2.2; omega
  · have := (h i hi).2.2; omega
  · cases hd
theorem TI2_in {v : Nat → Nat} {s : Nat} {K : List Nat} (h : TI2 v s K) {j d : Nat} (hj : j < 4096) (hd : d < 2 ^ 24) (e : v j = s * 2 ^ 24 + d) : d ∈ K := by
  have h1 : v j / 2 ^ 24 = s := by omega
  have h2 := h.2.1 j hj h1
  rw [show v j % 2 ^ 24 = d by omega] at h2
  exact h2
theorem TI2_full {v : Nat → Nat} {s : Nat} {K : List Nat} (h : TI2 v s K) (hK : K.length < 4096) {b : Nat} (ha : ∀ r, r < 4096 → v ((b + r) % 4096) / 2 ^ 24 = s) : False := by
  have hall : ∀ j, j < 4096 → v j / 2 ^ 24 = s := by
    intro j hj
    have h1 := ha ((j + 4096 - b % 4096) % 4096) (Nat.mod_lt _ (by decide))
    rw [show (b + (j + 4096 - b % 4096) % 4096) % 4096 = j by omega] at h1
    exact h1
  have h2 := fb_holes K.length 4096 (fun j => K.idxOf (v j % 2 ^ 24)) (fun j hj => List.idxOf_lt_length_of_mem (h.2.1 j hj (hall j hj))) (fun i j hij hj e => by
    have hi : i < 4096 := by omega
    have m1 := h.2.1 i hi (hall i hi)
    have m2 := h.2.1 j hj (hall j hj)
    have l1 := List.idxOf_lt_length_of_mem m1
    have l2 := List.idxOf_lt_length_of_mem m2
    have g1 : K[K.idxOf (v i % 2 ^ 24)] = v i % 2 ^ 24 := List.getElem_idxOf l1
    have g2 : K[K.idxOf (v j % 2 ^ 24)] = v j % 2 ^ 24 := List.getElem_idxOf l2
    have g3 : v i % 2 ^ 24 = v j % 2 ^ 24 := by
      rw [← g1, ← g2]; congr 1
    have := h.2.2.1 i j hi hj (hall i hi) (hall j hj) g3
    omega)
  omega
theorem TI2_out {v : Nat → Nat} {s : Nat} {K : List Nat} (h : TI2 v s K) {d i : Nat} (hi : i < 4096) (hr : ∀ r, r < i → v ((hm d + r) % 4096) / 2 ^ 24 = s ∧ v ((hm d + r) % 4096) ≠ s * 2 ^ 24 + d) (hx : ¬ v ((hm d + i) % 4096) / 2 ^ 24 = s) : ¬ d ∈ K := by
  intro hd
  obtain ⟨hd2, q, hq, e, hb⟩ := h.2.2.2 d hd
  rcases Nat.lt_or_ge q i with z | z
  · exact (hr q z).2 e
  · rcases Nat.lt_or_ge i q with y | y
    · exact hx (hb i y)
    · have : q = i := by omega
      subst this
      rw [e] at hx
      omega
theorem TI2_put {v : Nat → Nat} {s : Nat} {K : List Nat} (h : TI2 v s K) (hs : s < 2 ^ 36) {d i : Nat} (hd : d < 2 ^ 24) (hi : i < 4096) (hr : ∀ r, r < i → v ((hm d + r) % 4096) / 2 ^ 24 = s) (hx : ¬ v ((hm d + i) % 4096) / 2 ^ 24 = s) (hn : ¬ d ∈ K) : TI2 (va_up v ((hm d + i) % 4096) (s * 2 ^ 24 + d)) s (K ++ [d]) := by
  generalize hx0 : (hm d + i) % 4096 = x at *
  have hxl : x < 4096 := by rw [← hx0]; exact Nat.mod_lt _ (by decide)
  have uS : va_up v x (s * 2 ^ 24 + d) x = s * 2 ^ 24 + d := if_pos rfl
  have uN : ∀ j, j ≠ x → va_up v x (s * 2 ^ 24 + d) j = v j := fun j hj => if_neg hj
  refine ⟨fun j hj => ?_, fun j hj e => ?_, fun i j hi hj e1 e2 e3 => ?_, fun c hc => ?_⟩
  · by_cases q : j = x
    · rw [q, uS]; exact ⟨by omega, by omega⟩
    · rw [uN j q]; exact h.1 j hj
  · by_cases q : j = x
    · rw [q, uS, show (s * 2 ^ 24 + d) % 2 ^ 24 = d by omega]; simp
    · rw [uN j q] at e ⊢
      exact List.mem_append_left _ (h.2.1 j hj e)
  · by_cases q1 : i = x
    · by_cases q2 : j = x
      · rw [q1, q2]
      · rw [q1, uS, uN j q2, show (s * 2 ^ 24 + d) % 2 ^ 24 = d by omega] at e3
        rw [uN j q2] at e2
        have := h.2.1 j hj e2
        rw [← e3] at this
        exact absurd this hn
    · by_cases q2 : j = x
      · rw [q2, uS, uN i q1, show (s * 2 ^ 24 + d) % 2 ^ 24 = d by omega] at e3
        rw [uN i q1] at e1
        have := h.2.1 i hi e1
        rw [e3] at this
        exact absurd this hn
      · rw [uN i q1] at e1 e3
        rw [uN j q2] at e2 e3
        exact h.2.2.1 i j hi hj e1 e2 e3
  · rcases List.mem_append.mp hc with q | q
    · obtain ⟨g1, w, g2, g3, g4⟩ := h.2.2.2 c q
      refine ⟨g1, w, g2, ?_, fun r hr2 => ?_⟩
      · have : (hm c + w) % 4096 ≠ x := fun z => by rw [z] at g3; rw [g3] at hx; omega
        rw [uN _ this]; exact g3
      · have : (hm c + r) % 4096 ≠ x := fun z => by have := g4 r hr2; rw [z] at this; exact hx this
        rw [uN _ this]; exact g4 r hr2
    · have e : c = d := by simpa using q
      subst e
      refine ⟨hd, i, hi, by rw [hx0]; exact uS, fun r hr2 => ?_⟩
      by_cases z : (hm c + r) % 4096 = x
      · rw [z, uS]; omega
      · rw [uN _ z]; exact hr r hr2
theorem TI_v {T : Nat → Int64} {v : Nat → Nat} (h : ∀ j, j < 4096 → T j = lN (v j)) (x y : Nat) : ∀ j, j < 4096 → va_up T x (lN y) j = lN (va_up v x y j) := by
  intro j hj
  unfold va_up
  by_cases q : j = x
  · rw [if_pos q, if_pos q]
  · rw [if_neg q, if_neg q]; exact h j hj
