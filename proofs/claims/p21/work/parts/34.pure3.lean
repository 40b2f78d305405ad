theorem hal_in {sp : Nat → Bool} {w d2 n2 : Nat} {K2 : List Nat} {F2 : List Int32} (hw : w < 2 ^ 24) (hR : hal sp w = (d2, n2, K2, F2)) :
    (sp w = true → hIn ((if sp w = true then w else 0), 2, [w], ([] : List Int32)) ∧ ([] : List Int32).length = 5 * 0 ∧ hrn sp (128 - 0) ((if sp w = true then w else 0), 2, [w], ([] : List Int32)) = (d2, n2, K2, F2)) ∧ (sp w = false → ((if sp w = true then w else 0), 2, [w], ([] : List Int32)) = (d2, n2, K2, F2)) := by
  unfold hal at hR
  refine ⟨fun h => ?_, fun h => ?_⟩
  · rw [if_pos h] at hR ⊢
    have h1 := cnt_le w 24
    have h2 := hph_num4 (cnt w 24) (by omega)
    exact ⟨⟨hw, Nat.le_refl 2, Or.inr rfl, by show 1 + hph (cnt w 24) 2 ≤ 1798; omega⟩, rfl, hR⟩
  · rw [if_neg (by rw [h]; decide)] at hR ⊢
    exact hR
theorem hgo_s {sp : Nat → Bool} {x y R : hS4} {gg : Bool} {tu : Nat} (hy : hst sp x = (gg, y)) (hI : hIn x) (hF : x.2.2.2.length = 5 * tu) (hr : hrn sp (128 - tu) x = R) (ht : tu < 128) :
    (gg = true → hIn y ∧ y.2.2.2.length = 5 * (tu + 1) ∧ hrn sp (128 - (tu + 1)) y = R) ∧ (gg = false → y = R) := by
  rw [show 128 - tu = (128 - (tu + 1)) + 1 by omega] at hr
  have e1 : (hst sp x).1 = gg := by rw [hy]
  have e2 : (hst sp x).2 = y := by rw [hy]
  refine ⟨fun h => ?_, fun h => ?_⟩
  · rw [h] at e1
    have h1 := hst_ok sp x hI e1
    rw [hrn_go e1, e2] at hr
    rw [e2] at h1
    exact ⟨h1.1, by rw [h1.2.2.1]; omega, hr⟩
  · rw [h] at e1
    rw [hrn_no e1, e2] at hr
    exact hr
theorem obl_in {sp : Nat → Bool} {w d2 : Nat} {K2 : List Nat} (hR : obl sp w = (d2, K2)) :
    (sp w = true → obo sp 24 (if sp w = true then w else 0) [w] = (d2, K2)) ∧ (sp w = false → ((if sp w = true then w else 0), [w]) = (d2, K2)) := by
  unfold obl at hR
  refine ⟨fun h => ?_, fun h => ?_⟩
  · rw [if_pos h] at hR ⊢; exact hR
  · rw [if_neg (by rw [h]; decide)] at hR ⊢; exact hR
theorem ite_lt24 {c : Prop} [Decidable c] {w : Nat} (h : w < 2 ^ 24) : (if c then w else 0) < 2 ^ 24 := by split <;> omega
