/-! ===== more rows: a static method of the class's JDK, two ways that meet again ===== -/
section PR2
variable {p : Program} {l : Launch} {e : Env} {R : Room} {s : State} {m : MethodId} {args : Array Value} {below : List Frame} {meth : Method} {c : Code} {H H0 : Heap} {locs : List Loc} {cells slots : Nat} {Q : State → Prop}
variable {cc : ByteArray} {pc : Nat} {ls : Array Slot} {rest st0 : List Value} {A : Nat → Prop} {G : cG} {gr : ClassId} {ws wc wr X : va_W} {P L RR : List Nat} {f : Nat → va_E} {a n : Nat}
variable {nL index na : Nat} {own C : String} {Ts wy : List Cond} {y : MethodName} {bytes : ByteArray} {maxL : Nat} {ret : Option FieldType} {rm : Room} {b : Nat} {As : List Value} {cx : va_W} {sa : Nat → Nat}
theorem q_si {S : Type} {post : Int32 → S → Prop} {wo : S → va_W} (Sf : CallFix p m c cc nL s args Ts own) (hK : va_K G.1 vwCl (cTy G) s) (hP : va_P G.1 vwCl (X ++ va_pl P f) H) (hD : va_D A (X ++ va_pl P f)) (hS : va_S A s.heap H locs) (hA : ∀ q, s.heap.size ≤ q → A q)
    (hM : cMI l G y wy rm As cx post wo) (cw : CallB R s args own index y bytes maxL ret wy rm rm.cells rm.slots na ∧ (Cond.static y).before args s = true) (isC isR : List Nat) (hcut : pCut X cx wr isC isR)
    (hn : As.length = na) (hsize : ls.size = nL) (hst : st0 = As.reverse ++ rest) (hW : (rest.map fun v => v.category).sum ≤ 8)
    (hf : cells + rm.cells ≤ R.cells ∧ slots + rm.slots ≤ R.slots) (hdg : decode cc pc = .ok (.invokestatic index, 3))
    (kk : ∀ (r : Int32) (u : S) (H1 : Heap) (locs1 : List Loc), post r u → va_P G.1 vwCl ((wr ++ wo u) ++ va_pl P f) H1 → va_D A ((wr ++ wo u) ++ va_pl P f) → va_S A s.heap H1 locs1 → W p l e R s m args below meth c H1 locs1 (cells + rm.cells) (slots + rm.slots) Q (F0 m (pc + 3) ls (.int r :: rest))) :
    W p l e R s m args below meth c H locs cells slots Q (F0 m pc ls st0) := by
  obtain ⟨hC, hR, hn1, hn2, hdis⟩ := hcut
  have hPc := p_cutP hP isC hC
  have hDc := p_cutD hD isC hn1 hC
  have hFc := p_cutF hD hS hA isC hC
  refine va_calli (va_runS (As := As) (rest := rest) Sf (hM H.size) cw ⟨cPre_blind _ _ _ _, fun U hU hW => ⟨rfl, by rw [hU], by rw [hU]; exact hPc, va_K.moved hW.alike hK, hDc.weaken (fun _ _ _ _ => trivial)⟩⟩ rfl hn hsize hst (lv_room hW) hdg hf) hS (fun q _ h => hFc q h) hFc (fun r u t H1 locs1 ht hvm hw hB hz1 hk1 hS => ?_)
  obtain ⟨hP1, hK1, hD1⟩ := hB
  rw [ht] at hP1
  obtain ⟨hP2, hD2⟩ := va_joinQ hP hD isC isR hC hR hn2 hdis hk1 hFc hP1 hD1
  exact kk r u H1 locs1 hw hP2 hD2 hS
/-- two ways that meet: what stands on the stack there -/
theorem p_dia {pcJ : Nat} {v0 : Int32} {rJ : List Value} (br : (∀ v : Int32, v = v0 → W p l e R s m args below meth c H locs cells slots Q (F0 m pcJ ls (.int v :: rJ))) → W p l e R s m args below meth c H locs cells slots Q (F0 m pc ls st0))
    (kk : W p l e R s m args below meth c H locs cells slots Q (F0 m pcJ ls (.int v0 :: rJ))) : W p l e R s m args below meth c H locs cells slots Q (F0 m pc ls st0) := br (fun v h => by subst h; exact kk)
end PR2
theorem mean_cmp0 : ∀ a, a < 145 → ∀ b, b < 7 → (0 < b → Op.cmpValue (FP.dcmp (FP.ddiv (FP.i2d (nI a)) (FP.i2d (nI b))) (FP.ddiv (FP.i2d (nI a)) (FP.i2d (nI b)))) .l = 0) := by decide +kernel
theorem mean_cmp1 : Op.cmpValue (FP.dcmp FP.dconst0 FP.dconst0) .l = 0 := by decide +kernel
theorem mnv_cmp (ne : Nat → Nat) {rc : Nat} (h : rc ≤ 6) : Op.cmpValue (FP.dcmp (mnv ne rc) (mnv ne rc)) .l = nI 0 := by
  have h9 : Op.cmpValue (FP.dcmp (mnv ne rc) (mnv ne rc)) .l = 0 := by
    unfold mnv
    by_cases q : rc = 0
    · rw [if_pos q]; exact mean_cmp1
    · rw [if_neg q]; exact mean_cmp0 _ (by have := sms_le ne rc; omega) _ (by omega) (by omega)
  rw [h9]; rfl
theorem tld_row (k ne sp : Nat → Nat) (n kq j : Nat) {w : Nat} (h : w < 5) : nI (tld k ne sp n kq j w) = [nI (ne j), nI (sp j), nI (cnt (ne j) 24), bI (hld (ne j) (sp j) (kds k (2 ^ n - 1) n)), bI (hld (ne j) (sp j) kq)].getD w 0 := by
  have h5 : w = 0 ∨ w = 1 ∨ w = 2 ∨ w = 3 ∨ w = 4 := by omega
  rcases h5 with rfl | rfl | rfl | rfl | rfl
  · rfl
  · rfl
  · rfl
  · show nI (if hld (ne j) (sp j) (kds k (2 ^ n - 1) n) = true then 1 else 0) = bI _
    cases hld (ne j) (sp j) (kds k (2 ^ n - 1) n) <;> rfl
  · show nI (if hld (ne j) (sp j) kq = true then 1 else 0) = bI _
    cases hld (ne j) (sp j) kq <;> rfl
theorem cfc_row (k ne sp : Nat → Nat) (n rc D st Kt al : Nat) {w : Nat} (h : w < 7) : nI (cfc k ne sp n rc D st Kt al w) = [nI n, nI rc, nI (hcn ne sp (kds k (2 ^ n - 1) n) rc), nI (cnt D 24), nI st, nI Kt, nI al].getD w 0 := by
  have h5 : w = 0 ∨ w = 1 ∨ w = 2 ∨ w = 3 ∨ w = 4 ∨ w = 5 ∨ w = 6 := by omega
  rcases h5 with rfl | rfl | rfl | rfl | rfl | rfl | rfl <;> rfl
theorem i7_e (z : Nat → Int32) (a b c d e x y : Int32) {j : Nat} (h : j < 7) : va_up (va_up (va_up (va_up (va_up (va_up (va_up z 0 a) 1 b) 2 c) 3 d) 4 e) 5 x) 6 y j = [a, b, c, d, e, x, y].getD j 0 := by
  have h5 : j = 0 ∨ j = 1 ∨ j = 2 ∨ j = 3 ∨ j = 4 ∨ j = 5 ∨ j = 6 := by omega
  rcases h5 with rfl | rfl | rfl | rfl | rfl | rfl | rfl <;> rfl
theorem drc_ok {j n : Nat} (h : j < n) (hn : n < 2 ^ 31) : drc (nI j) n = 0 := if_pos (hp_nI2 h hn)
theorem tw_ok {i j a b : Nat} (h1 : i < a) (h2 : j < b) (ha : a < 2 ^ 31) (hb : b < 2 ^ 31) : tw (nI i) (nI j) a b = 0 := if_pos ⟨hp_nI2 h1 ha, hp_nI2 h2 hb⟩
theorem bI_c (b : Bool) : (if bI b = 0 then nI 0 else nI 1) = bI b := by cases b <;> rfl
theorem hcn_add (a b : Nat → Nat) (kk r : Nat) : nI (hcn a b kk r) + bI (hld (a r) (b r) kk) = nI (hcn a b kk (r + 1)) := by
  cases h : hld (a r) (b r) kk
  · rw [hcn_f h]; exact nI_add _ 0
  · rw [hcn_t h]; exact nI_add _ 1
theorem obo_sub (sp : Nat → Bool) : ∀ p d K q, (obo sp p d K).1.testBit q = true → d.testBit q = true
  | 0, _, _, _, h => h
  | p + 1, d, K, q, h => by
    by_cases h1 : d.testBit p = true ∧ nd d (2 ^ p) ≠ 0
    · cases hs : sp (nd d (2 ^ p))
      · rw [obo_n h1.1 h1.2 hs] at h; exact obo_sub sp p _ _ q h
      · rw [obo_s h1.1 h1.2 hs] at h
        have h2 := obo_sub sp p _ _ q h
        rw [nd_bit, Bool.and_eq_true] at h2
        exact h2.1
    · have h2 : d.testBit p = false ∨ nd d (2 ^ p) = 0 := by
        cases hb : d.testBit p
        · exact Or.inl rfl
        · exact Or.inr (Classical.byContradiction (fun z => h1 ⟨hb, z⟩))
      rw [obo_k h2] at h
      exact obo_sub sp p _ _ q h
theorem obl_lt {sp : Nat → Bool} {w d3 : Nat} {K3 : List Nat} (hw : w < 2 ^ 24) (hR : obl sp w = (d3, K3)) : d3 < 2 ^ 24 := by
  unfold obl at hR
  by_cases h : sp w = true
  · rw [if_pos h] at hR
    refine sub_lt hw (fun q hq => ?_)
    refine obo_sub sp 24 w [w] q ?_
    rw [hR]; exact hq
  · rw [if_neg h] at hR; cases hR; exact Nat.pos_of_ne_zero (by decide)
