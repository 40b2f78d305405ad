/-! ===== the law: what holds at its loop's head ===== -/
theorem adc_le (x : Int32) (n : Nat) : adc x n ≤ 2 := by unfold adc; split <;> (try split) <;> omega
theorem drc_le (x : Int32) (n : Nat) : drc x n ≤ 2 := by unfold drc; split <;> omega
theorem rlc_le (n : Nat) : rlc n ≤ 2 := by unfold rlc; split <;> omega
theorem stc_le (x1 x2 : Int32) (b : Bool) (rc : Nat) (ag : Nat → Nat) : stc x1 x2 b rc ag ≤ 2 := by unfold stc; split <;> (try split) <;> omega
theorem tw_le (x1 x2 : Int32) (a b : Nat) : tw x1 x2 a b ≤ 2 := by unfold tw; split <;> omega
theorem drc_t {x : Int32} {n : Nat} (h : drc x n = 0) : hp x n = true := by
  unfold drc at h
  by_cases q : hp x n = true
  · exact q
  · rw [if_neg q] at h; cases h
theorem drc_j {x : Int32} {n : Nat} (hn : n < 2 ^ 31) (h : drc x n = 0) : ∃ j, j < n ∧ x = nI j := hp_of2 hn (drc_t h)
theorem adc_j {x : Int32} {n : Nat} (h : adc x n = 0) : (∃ j, j < 16 ∧ x = nI j) ∧ ¬ n = 24 := by
  unfold adc at h
  by_cases q : hp x 16 = true
  · rw [if_pos q] at h
    refine ⟨hp_of2 (by omega) q, fun z => ?_⟩
    rw [if_pos z] at h; cases h
  · rw [if_neg q] at h; cases h
theorem stc_j {x1 x2 : Int32} {b : Bool} {rc : Nat} {ag : Nat → Nat} (h : stc x1 x2 b rc ag = 0) : hp x1 rc = true ∧ hp x2 16 = true := by
  unfold stc at h
  by_cases q : hp x1 rc = true ∧ hp x2 16 = true
  · exact q
  · rw [if_neg q] at h; cases h
theorem wb_lt {bits j : Nat} {b : Bool} (hb : bits < 65536) (hj : j < 16) : wb bits j b < 65536 := by
  unfold wb
  split
  · exact Nat.or_lt_two_pow (n := 16) hb (Nat.pow_lt_pow_right (by decide) hj)
  · exact nd_lt (n := 16) hb
def lwInv (it n rc sn dd st kq : Nat) (kp : Bool) (k ne sp g g1 : Nat → Nat) (T : Nat → Int64) (fx gx : Nat → Int32) (F : List Int32) : Prop :=
  n ≤ 24 ∧ (∀ j, j < n → k j < 16) ∧ rc ≤ 6 ∧ (∀ j, j < 6 → ne j < 65536) ∧ (∀ j, j < 6 → sp j < 65536) ∧ TB T sn ∧ sn ≤ 24 * it ∧ dd < 2 ^ 24 ∧ kq < 65536 ∧ (kp = false → kq = 0) ∧ st = F.length / 5 ∧ F.length ≤ 640 ∧ F.length % 5 = 0 ∧ FR fx F ∧ FR gx F ∧ g 0 = 0 ∧ g1 0 = 0
theorem lwInv_same {it n rc sn dd st kq : Nat} {kp : Bool} {k ne sp g g1 : Nat → Nat} {T : Nat → Int64} {fx gx : Nat → Int32} {F : List Int32} (h : lwInv it n rc sn dd st kq kp k ne sp g g1 T fx gx F) : lwInv (it + 1) n rc sn dd st kq kp k ne sp g g1 T fx gx F := by
  obtain ⟨h1, h2, h3, h4, h5, h6, h7, h8⟩ := h
  exact ⟨h1, h2, h3, h4, h5, h6, by omega, h8⟩
theorem lwInv_sn {it n rc sn dd st kq : Nat} {kp : Bool} {k ne sp g g1 : Nat → Nat} {T : Nat → Int64} {fx gx : Nat → Int32} {F : List Int32} (h : lwInv it n rc sn dd st kq kp k ne sp g g1 T fx gx F) {sn2 : Nat} {T2 : Nat → Int64} {g2 : Nat → Nat} (hT : TB T2 sn2) (hs : sn2 ≤ sn + 24) (hg : g2 0 = 0) : lwInv (it + 1) n rc sn2 dd st kq kp k ne sp g g2 T2 fx gx F := by
  obtain ⟨h1, h2, h3, h4, h5, h6, h7, h8, h9, h10, h11, h12, h13, h14, h15, h16, h17⟩ := h
  exact ⟨h1, h2, h3, h4, h5, hT, by omega, h8, h9, h10, h11, h12, h13, h14, h15, h16, hg⟩
theorem lwInv_n {it n rc sn dd st kq : Nat} {kp : Bool} {k ne sp g g1 : Nat → Nat} {T : Nat → Int64} {fx gx : Nat → Int32} {F : List Int32} (h : lwInv it n rc sn dd st kq kp k ne sp g g1 T fx gx F) {n2 : Nat} {k2 : Nat → Nat} (hn : n2 ≤ 24) (hk : ∀ j, j < n2 → k2 j < 16) : lwInv (it + 1) n2 rc sn dd st kq kp k2 ne sp g g1 T fx gx F := by
  obtain ⟨h1, h2, h3, h4, h5, h6, h7, h8⟩ := h
  exact ⟨hn, hk, h3, h4, h5, h6, by omega, h8⟩
theorem lwInv_add {it n rc sn dd st kq : Nat} {kp : Bool} {k ne sp g g1 : Nat → Nat} {T : Nat → Int64} {fx gx : Nat → Int32} {F : List Int32} (h : lwInv it n rc sn dd st kq kp k ne sp g g1 T fx gx F) (v : Int32) :
    lwInv (it + 1) (if adc v n = 0 then n + 1 else n) rc sn dd st kq kp (if adc v n = 0 then va_up k n (vN v) else k) ne sp g g1 T fx gx F := by
  by_cases q : adc v n = 0
  · rw [if_pos q, if_pos q]
    obtain ⟨⟨j, hj, rfl⟩, hn⟩ := adc_j q
    rw [vN_nI (by omega)]
    refine lwInv_n h (by have := h.1; omega) (fun i hi => ?_)
    unfold va_up
    split
    · exact hj
    · exact h.2.1 i (by omega)
  · rw [if_neg q, if_neg q]; exact lwInv_same h
theorem lwInv_drop {it n rc sn dd st kq : Nat} {kp : Bool} {k ne sp g g1 : Nat → Nat} {T : Nat → Int64} {fx gx : Nat → Int32} {F : List Int32} (h : lwInv it n rc sn dd st kq kp k ne sp g g1 T fx gx F) (v : Int32) :
    lwInv (it + 1) (if drc v n = 0 then n - 1 else n) rc sn dd st kq kp (if drc v n = 0 then tkt k (vN v) (n - 1) else k) ne sp g g1 T fx gx F := by
  by_cases q : drc v n = 0
  · rw [if_pos q, if_pos q]
    refine lwInv_n h (by have := h.1; omega) (fun i hi => ?_)
    unfold tkt
    split
    · exact h.2.1 _ (by omega)
    · exact h.2.1 _ (by omega)
  · rw [if_neg q, if_neg q]; exact lwInv_same h
theorem lwInv_rule {it n rc sn dd st kq : Nat} {kp : Bool} {k ne sp g g1 : Nat → Nat} {T : Nat → Int64} {fx gx : Nat → Int32} {F : List Int32} (h : lwInv it n rc sn dd st kq kp k ne sp g g1 T fx gx F) :
    lwInv (it + 1) n (if rlc rc = 0 then rc + 1 else rc) sn dd st kq kp k ne sp g g1 T fx gx F := by
  by_cases q : rlc rc = 0
  · rw [if_pos q]
    have h9 : ¬ rc = 6 := fun z => by unfold rlc at q; rw [if_pos z] at q; cases q
    obtain ⟨h1, h2, h3, h4, h5, h6, h7, h8⟩ := lwInv_same h
    exact ⟨h1, h2, by omega, h4, h5, h6, h7, h8⟩
  · rw [if_neg q]; exact lwInv_same h
theorem row_ok {row ag : Nat → Nat} {x1 x2 : Int32} {b : Bool} {rc : Nat} (h : ∀ j, j < 6 → row j < 65536) (hrc : rc ≤ 6) : ∀ j, j < 6 → (if stc x1 x2 b rc ag = 0 then va_up row (vN x1) (wb (row (vN x1)) (vN x2) b) else row) j < 65536 := by
  intro j hj
  by_cases q : stc x1 x2 b rc ag = 0
  · rw [if_pos q]
    obtain ⟨q1, q2⟩ := stc_j q
    obtain ⟨j1, hj1, rfl⟩ := hp_of2 (by omega) q1
    obtain ⟨j2, hj2, rfl⟩ := hp_of2 (by omega) q2
    rw [vN_nI (by omega), vN_nI (by omega)]
    unfold va_up
    split
    · exact wb_lt (h _ (by omega)) hj2
    · exact h j hj
  · rw [if_neg q]; exact h j hj
theorem lwInv_ne {it n rc sn dd st kq : Nat} {kp : Bool} {k ne sp g g1 : Nat → Nat} {T : Nat → Int64} {fx gx : Nat → Int32} {F : List Int32} (h : lwInv it n rc sn dd st kq kp k ne sp g g1 T fx gx F) (x1 x2 : Int32) (b : Bool) :
    lwInv (it + 1) n rc sn dd st kq kp k (if stc x1 x2 b rc sp = 0 then va_up ne (vN x1) (wb (ne (vN x1)) (vN x2) b) else ne) sp g g1 T fx gx F := by
  obtain ⟨h1, h2, h3, h4, h5, h6, h7, h8⟩ := lwInv_same h
  exact ⟨h1, h2, h3, row_ok h4 h3, h5, h6, h7, h8⟩
theorem lwInv_sp {it n rc sn dd st kq : Nat} {kp : Bool} {k ne sp g g1 : Nat → Nat} {T : Nat → Int64} {fx gx : Nat → Int32} {F : List Int32} (h : lwInv it n rc sn dd st kq kp k ne sp g g1 T fx gx F) (x1 x2 : Int32) (b : Bool) :
    lwInv (it + 1) n rc sn dd st kq kp k ne (if stc x1 x2 b rc ne = 0 then va_up sp (vN x1) (wb (sp (vN x1)) (vN x2) b) else sp) g g1 T fx gx F := by
  obtain ⟨h1, h2, h3, h4, h5, h6, h7, h8⟩ := lwInv_same h
  exact ⟨h1, h2, h3, h4, row_ok h5 h3, h6, h7, h8⟩
theorem lwInv_shr {it n rc sn dd st kq : Nat} {kp : Bool} {k ne sp g g1 : Nat → Nat} {T : Nat → Int64} {fx gx : Nat → Int32} {F : List Int32} (h : lwInv it n rc sn dd st kq kp k ne sp g g1 T fx gx F) {d2 n2 : Nat} {K2 : List Nat} {F2 : List Int32} (hR : hal (spl k ne sp n rc) (2 ^ n - 1) = (d2, n2, K2, F2)) {T2 : Nat → Int64} {fx2 gx2 : Nat → Int32} {g2 : Nat → Nat} (hT : TB T2 (sn + 1)) (hf : FR fx2 F2) (hgx : FR gx2 F2) (hg : g2 0 = 0) :
    lwInv (it + 1) n rc (sn + 1) d2 (F2.length / 5) (kds k d2 n) true k ne sp g2 g1 T2 fx2 gx2 F2 := by
  obtain ⟨h1, h2, h3, h4, h5, h6, h7, h8, h9, h10, h11, h12, h13, h14, h15, h16, h17⟩ := h
  have hp24 := two_pow24 h1
  obtain ⟨q1, q2, q3, -, -⟩ := hal_bd (by omega) hR
  exact ⟨h1, h2, h3, h4, h5, hT, by omega, q1, kds_lt h2, fun z => (by cases z), rfl, q3, q2, hf, hgx, hg, h17⟩
theorem mean_cmp0 : ∀ a, a < 145 → ∀ b, b < 7 → (0 < b → Op.cmpValue (FP.dcmp (FP.ddiv (FP.i2d (nI a)) (FP.i2d (nI b))) (FP.ddiv (FP.i2d (nI a)) (FP.i2d (nI b)))) .l = 0) := by decide +kernel
theorem mean_cmp1 : Op.cmpValue (FP.dcmp FP.dconst0 FP.dconst0) .l = 0 := by decide +kernel
theorem mnv_cmp (ne : Nat → Nat) {rc : Nat} (h : rc ≤ 6) : Op.cmpValue (FP.dcmp (mnv ne rc) (mnv ne rc)) .l = nI 0 := by
  have h9 : Op.cmpValue (FP.dcmp (mnv ne rc) (mnv ne rc)) .l = 0 := by
    unfold mnv
    by_cases q : rc = 0
    · rw [if_pos q]; exact mean_cmp1
    · rw [if_neg q]; exact mean_cmp0 _ (by have := sms_le ne rc; omega) _ (by omega) (by omega)
  rw [h9]; rfl
theorem step_eq {fx gx : Nat → Int32} {F : List Int32} {st : Nat} (hst : st = F.length / 5) (hf : FR fx F) (hg : FR gx F) {x1 x2 : Int32} (h : tw x1 x2 st 5 = 0) (hst2 : st ≤ 512) : fx (vN x1 * 5 + vN x2) = gx (5 * vN x1 + vN x2) := by
  have q : hp x1 st = true ∧ hp x2 5 = true := by
    unfold tw at h
    by_cases q : hp x1 st = true ∧ hp x2 5 = true
    · exact q
    · rw [if_neg q] at h; cases h
  obtain ⟨j1, hj1, rfl⟩ := hp_of2 (by omega) q.1
  obtain ⟨j2, hj2, rfl⟩ := hp_of2 (by omega) q.2
  rw [vN_nI (by omega), vN_nI (by omega), Nat.mul_comm 5 j1, hf _ (by omega), hg _ (by omega)]
