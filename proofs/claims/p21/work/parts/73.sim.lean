/-! ===== the law's own finder: its state in the pool ===== -/
abbrev pU : Type := List Nat × (Nat → va_E)
abbrev dI (G : cG) (L : List Nat) (f : Nat → va_E) (a d : Nat) : Prop := fI G L f a (cnt d 24) (fun j => nI (plc d j))
def simK (G : cG) (gr : ClassId) (R L : List Nat) (f : Nat → va_E) (ak ar n : Nat) (k : Nat → Nat) (rc : Nat) (ne sp : Nat → Nat) : Prop :=
  fI G L f ak n (fun j => nI (k j)) ∧ R.length = rc ∧ fR gr L f ar rc (fun j => R.getD j 0) ∧ ∀ j, j < rc → fI G R f (R.getD j 0) 16 (rwv (ne j) (sp j))
theorem simK.mono {G : cG} {gr : ClassId} {R L L' : List Nat} {f f' : Nat → va_E} {ak ar n rc : Nat} {k ne sp : Nat → Nat} (h : simK G gr R L f ak ar n k rc ne sp) (hx : pX R L f L' f') : simK G gr R L' f' ak ar n k rc ne sp :=
  ⟨h.1.mono hx, h.2.1, h.2.2.1.mono hx, fun j hj => (h.2.2.2 j hj).monoR hx⟩
def sK (G : cG) (gr : ClassId) (L : List Nat) (f : Nat → va_E) (a : Nat) (K : List Nat) : Prop := ∃ rr : Nat → Nat, fR gr L f a K.length rr ∧ ∀ j, j < K.length → dI G L f (rr j) (K.getD j 0)
theorem sK.mono {G : cG} {gr : ClassId} {R L L' : List Nat} {f f' : Nat → va_E} {a : Nat} {K : List Nat} (h : sK G gr L f a K) (hx : pX R L f L' f') : sK G gr L' f' a K := by
  obtain ⟨rr, h1, h2⟩ := h
  exact ⟨rr, h1.mono hx, fun j hj => (h2 j hj).mono hx⟩
def sF (G : cG) (gr : ClassId) (L : List Nat) (f : Nat → va_E) (a : Nat) (F : List Int32) : Prop := ∃ rr : Nat → Nat, fR gr L f a (F.length / 5) rr ∧ ∀ j, j < F.length / 5 → fI G L f (rr j) 5 (fun i => F.getD (5 * j + i) 0)
theorem sF.mono {G : cG} {gr : ClassId} {R L L' : List Nat} {f f' : Nat → va_E} {a : Nat} {F : List Int32} (h : sF G gr L f a F) (hx : pX R L f L' f') : sF G gr L' f' a F := by
  obtain ⟨rr, h1, h2⟩ := h
  exact ⟨rr, h1.mono hx, fun j hj => (h2 j hj).mono hx⟩
theorem getD_app_l {α : Type} (K : List α) (x : List α) (z : α) {j : Nat} (h : j < K.length) : (K ++ x).getD j z = K.getD j z := by
  rw [List.getD_eq_getElem?_getD, List.getD_eq_getElem?_getD, List.getElem?_append_left h]
theorem getD_app_r {α : Type} (K : List α) (x : List α) (z : α) {j : Nat} (h : K.length ≤ j) : (K ++ x).getD j z = x.getD (j - K.length) z := by
  rw [List.getD_eq_getElem?_getD, List.getD_eq_getElem?_getD, List.getElem?_append_right h]
theorem sK.push {G : cG} {gr : ClassId} {L : List Nat} {f : Nat → va_E} {c b d : Nat} {K : List Nat} {rr : Nat → Nat} (h1 : fR gr L f c (K.length + 1) (fun j => if j < K.length then rr j else b)) (h2 : ∀ j, j < K.length → dI G L f (rr j) (K.getD j 0)) (h3 : dI G L f b d) : sK G gr L f c (K ++ [d]) := by
  refine ⟨_, by rw [List.length_append]; exact h1, fun j hj => ?_⟩
  rw [List.length_append] at hj
  simp only [List.length_cons, List.length_nil] at hj
  by_cases q : j < K.length
  · rw [getD_app_l _ _ _ q, if_pos q]; exact h2 j q
  · rw [getD_app_r _ _ _ (by omega), if_neg q, show j - K.length = 0 by omega]; exact h3
theorem sF.push {G : cG} {gr : ClassId} {L : List Nat} {f : Nat → va_E} {c b : Nat} {F : List Int32} {rr : Nat → Nat} {x0 x1 x2 x3 x4 : Int32} (hF : F.length % 5 = 0) (h1 : fR gr L f c (F.length / 5 + 1) (fun j => if j < F.length / 5 then rr j else b)) (h2 : ∀ j, j < F.length / 5 → fI G L f (rr j) 5 (fun i => F.getD (5 * j + i) 0)) (h3 : fI G L f b 5 (fun i => [x0, x1, x2, x3, x4].getD i 0)) : sF G gr L f c (F ++ [x0, x1, x2, x3, x4]) := by
  have hl : (F ++ [x0, x1, x2, x3, x4]).length / 5 = F.length / 5 + 1 := by rw [List.length_append]; simp only [List.length_cons, List.length_nil]; omega
  refine ⟨_, by rw [hl]; exact h1, fun j hj => ?_⟩
  rw [hl] at hj
  by_cases q : j < F.length / 5
  · rw [if_pos q]
    exact (h2 j q).to (fun i hi => by rw [getD_app_l _ _ _ (by omega)])
  · rw [if_neg q]
    exact h3.to (fun i hi => by rw [getD_app_r _ _ _ (by omega), show 5 * j + i - F.length = i by omega])
theorem fil_s {α : Type} (f g : Nat → α) (i : Nat) : va_up (fa_fill f g i) i (f i) = fa_fill f g (i + 1) := by
  funext k
  by_cases e : k = i
  · subst e; rw [va_up_self, fa_fill_in (Nat.lt_succ_self k)]
  · rw [va_up_ne _ _ e]
    by_cases h : k < i
    · rw [fa_fill_in h, fa_fill_in (by omega)]
    · rw [fa_fill_out (by omega), fa_fill_out (by omega)]
theorem fil_e {α : Type} {f g : Nat → α} {i : Nat} {v : α} (h : f i = v) : va_up (fa_fill f g i) i v = fa_fill f g (i + 1) := by rw [← h, fil_s]
theorem bI_or (a b : Bool) : bI a ||| bI b = bI (a || b) := by cases a <;> cases b <;> rfl
/-- whether a dish is known, of the first i -/
def knn (K : List Nat) (d : Nat) : Nat → Bool
  | 0 => false
  | i + 1 => knn K d i || decide (K.getD i 0 = d)
theorem knn_of (K : List Nat) (d : Nat) : ∀ i, i ≤ K.length → (knn K d i = true ↔ ∃ j, j < i ∧ K.getD j 0 = d)
  | 0, _ => ⟨fun h => (by cases h), fun ⟨j, h, _⟩ => absurd h (Nat.not_lt_zero j)⟩
  | i + 1, h => by
    have ih := knn_of K d i (by omega)
    show (knn K d i || decide (K.getD i 0 = d)) = true ↔ _
    rw [Bool.or_eq_true, ih, decide_eq_true_eq]
    constructor
    · rintro (⟨j, h1, h2⟩ | h1)
      · exact ⟨j, by omega, h2⟩
      · exact ⟨i, Nat.lt_succ_self i, h1⟩
    · rintro ⟨j, h1, h2⟩
      rcases Nat.lt_or_ge j i with z | z
      · exact Or.inl ⟨j, z, h2⟩
      · have e : j = i := by omega
        subst e; exact Or.inr h2
theorem getD_mem {K : List Nat} {d : Nat} : d ∈ K ↔ ∃ j, j < K.length ∧ K.getD j 0 = d := by
  constructor
  · intro h
    obtain ⟨j, h1, h2⟩ := List.getElem_of_mem h
    exact ⟨j, h1, by rw [List.getD_eq_getElem?_getD, List.getElem?_eq_getElem h1]; exact h2⟩
  · rintro ⟨j, h1, h2⟩
    rw [List.getD_eq_getElem?_getD, List.getElem?_eq_getElem h1] at h2
    rw [← h2]; exact List.getElem_mem h1
theorem knn_all (K : List Nat) (d : Nat) : knn K d K.length = decide (d ∈ K) := by
  have h := knn_of K d K.length (Nat.le_refl _)
  rw [← getD_mem] at h
  by_cases q : d ∈ K
  · rw [decide_eq_true q]; exact h.mpr q
  · rw [decide_eq_false q]
    cases e : knn K d K.length
    · rfl
    · exact absurd (h.mp e) q
/-- how much a row of rows has cost that grew one by one -/
def tri : Nat → Nat
  | 0 => 0
  | n + 1 => tri n + (n + 1)
theorem tri_s (n : Nat) : tri (n + 1) = tri n + (n + 1) := rfl
theorem tri_le {a b : Nat} (h : a ≤ b) : tri a ≤ tri b := by
  induction h with
  | refl => exact Nat.le_refl _
  | step _ ih => rw [tri_s]; omega
theorem spl_i {k ne sp : Nat → Nat} {n rc d : Nat} (h : ∀ i, i < rc → hld (ne i) (sp i) (kds k d n) = false) : spl k ne sp n rc d = false := by
  have key : ∀ r, r ≤ rc → hcn ne sp (kds k d n) r = 0 := by
    intro r
    induction r with
    | zero => intro _; rfl
    | succ r ih => intro q; rw [hcn_f (h r (by omega)), ih (by omega)]
  unfold spl
  rw [key rc (Nat.le_refl _)]; rfl
theorem dI_eq {d e : Nat} (hd : d < 2 ^ 24) (he : e < 2 ^ 24) {b : Bool} (h1 : b = true → cnt d 24 = cnt e 24 ∧ ∀ j, j < cnt d 24 → nI (plc d j) = nI (plc e j)) (h2 : b = false → cnt d 24 ≠ cnt e 24 ∨ (cnt d 24 = cnt e 24 ∧ ∃ j, j < cnt d 24 ∧ ¬ nI (plc d j) = nI (plc e j))) : b = decide (d = e) := by
  cases b
  · symm
    refine decide_eq_false (fun z => ?_)
    subst z
    rcases h2 rfl with q | ⟨-, j, -, q⟩
    · exact q rfl
    · exact q rfl
  · symm
    obtain ⟨q1, q2⟩ := h1 rfl
    refine decide_eq_true (dish_ext hd he q1 (fun j hj => ?_))
    have p1 := (plc_ok hj).1
    have p2 := (plc_ok (d := e) (j := j) (by omega)).1
    exact (nI_eq (by omega) (by omega)).mp (q2 j hj)
theorem mor_e {rr : Nat → Nat} {q b j : Nat} (h : j < q + 1) : va_up (fa_fill (fun j9 => some (rr j9)) (fun _ => (none : Option Nat)) q) q (some b) j = some (if j < q then rr j else b) := by
  by_cases z : j < q
  · rw [va_up_ne _ _ (by omega), fa_fill_in z, if_pos z]
  · rw [if_neg z, show j = q by omega, va_up_self]
