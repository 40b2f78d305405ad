/-! ===== a call of a method with a table ===== -/
section PR6
variable {p : Program} {l : Launch} {e : Env} {R : Room} {s : State} {m : MethodId} {args : Array Value} {below : List Frame} {meth : Method} {c : Code} {H H0 : Heap} {locs : List Loc} {cells slots : Nat} {Q : State → Prop}
variable {cc : ByteArray} {pc : Nat} {ls : Array Slot} {rest st0 : List Value} {A : Nat → Prop} {G : cG} {gr : ClassId} {ws wc wr X : va_W} {P L RR : List Nat} {f : Nat → va_E} {a n : Nat}
variable {nL index na : Nat} {own C : String} {Ts wy : List Cond} {y : MethodName} {bytes : ByteArray} {maxL : Nat} {ret : Option FieldType} {rm : Room} {b : Nat} {As : List Value} {cx : va_W} {sa : Nat → Nat}
theorem w_si {hh : List (Nat × Nat × Nat × Nat)} {S : Type} {post : Int32 → S → Prop} {wo : S → va_W} (Sf : CallFix p m c cc nL s args Ts own) (hK : va_K G.1 vwCl (cTy G) s) (hQ : pQ G gr s) (hP : va_P G.1 vwCl (X ++ va_pl P f) H) (hD : va_D A (X ++ va_pl P f)) (hS : va_S A s.heap H locs) (hA : ∀ q, s.heap.size ≤ q → A q) (hZ : cEx sa A s) (hN : va_Nc eIO eIS s)
    (hM : pMI l G gr sa y wy rm As (cx ++ va_pl P f) post wo) (cw : vx_CSW R s args own index y bytes maxL ret hh wy rm rm.cells rm.slots na) (isC isR : List Nat) (hcut : pCut X cx wr isC isR)
    (hn : As.length = na) (hsize : ls.size = nL) (hst : st0 = As.reverse ++ rest) (hW : (rest.map fun v => v.category).sum ≤ 8)
    (hf : cells + rm.cells ≤ R.cells ∧ slots + rm.slots ≤ R.slots) (hdg : decode cc pc = .ok (.invokestatic index, 3))
    (kk : ∀ (r : Int32) (u : S) (H1 : Heap) (locs1 : List Loc), post r u → va_P G.1 vwCl (wr ++ wo u) H1 → va_D A (wr ++ wo u) → va_S A s.heap H1 locs1 → W p l e R s m args below meth c H1 locs1 (cells + rm.cells) (slots + rm.slots) Q (F0 m (pc + 3) ls (.int r :: rest))) :
    W p l e R s m args below meth c H locs cells slots Q (F0 m pc ls st0) := by
  obtain ⟨hC, hR, hn1, hn2, hdis⟩ := hcut
  have hPc := hP.part isC hC
  have hDc := hD.part isC hn1 hC
  have hFc := va_freeP hD hS hA isC hC
  refine va_calli (vx_runSW (As := As) (rest := rest) Sf (hM H.size) cw ⟨pPre_blind _ _ _ _ _ _, fun U hU hW => ⟨rfl, ⟨⟨⟨by rw [hU], by rw [hU]; exact hPc, va_K.moved hW.alike hK, hDc.weaken (fun _ _ _ _ => trivial)⟩, hZ.at hW hS hU hFc⟩, va_Nc.moved hW.alike hN⟩, pQ.moved hW.alike hQ⟩⟩ rfl hn hsize hst (lv_room hW) hdg hf) hS (fun q _ h => hFc q h) hFc (fun r u t H1 locs1 ht hvm hw hB hz1 hk1 hS => ?_)
  obtain ⟨hP1, hK1, hD1⟩ := hB
  rw [ht] at hP1
  obtain ⟨hP2, hD2⟩ := va_joinP (rx := []) hP hD isC isR hC hR hn2 hdis hk1 hFc hP1 hD1
  rw [List.append_nil] at hP2 hD2
  exact kk r u H1 locs1 hw hP2 hD2 hS
end PR6
theorem set_ne {ne sp : Nat → Nat} {w k rc : Nat} {b : Bool} (hne : ∀ j, j < 6 → ne j < 65536) (hdj : ∀ j, j < 6 → ne j &&& sp j = 0) (hz : ∀ j, rc ≤ j → ne j = 0 ∧ sp j = 0) (hw : w < rc) (hrc : rc ≤ 6) (hk : k < 16) (hb : b = true → (sp w).testBit k = false) :
    (∀ j, j < 6 → va_up ne (vN (nI w)) (wb (ne (vN (nI w))) (vN (nI k)) b) j < 65536) ∧ (∀ j, j < 6 → va_up ne (vN (nI w)) (wb (ne (vN (nI w))) (vN (nI k)) b) j &&& sp j = 0) ∧ ∀ j, rc ≤ j → va_up ne (vN (nI w)) (wb (ne (vN (nI w))) (vN (nI k)) b) j = 0 ∧ sp j = 0 := by
  rw [vN_nI (by omega), vN_nI (by omega)]
  refine ⟨vup_all (p := fun x => x < 65536) hne (wb_lt (hne w (by omega)) hk b), fun j hj => ?_, fun j hj => ?_⟩
  · by_cases q : j = w
    · subst q; rw [va_up_self]; exact wb_dj (hdj j hj) hb
    · rw [va_up_ne _ _ q]; exact hdj j hj
  · rw [va_up_ne _ _ (by omega)]; exact hz j hj
theorem set_sp {ne sp : Nat → Nat} {w k rc : Nat} {b : Bool} (hsp : ∀ j, j < 6 → sp j < 65536) (hdj : ∀ j, j < 6 → ne j &&& sp j = 0) (hz : ∀ j, rc ≤ j → ne j = 0 ∧ sp j = 0) (hw : w < rc) (hrc : rc ≤ 6) (hk : k < 16) (hb : b = true → (ne w).testBit k = false) :
    (∀ j, j < 6 → va_up sp (vN (nI w)) (wb (sp (vN (nI w))) (vN (nI k)) b) j < 65536) ∧ (∀ j, j < 6 → ne j &&& va_up sp (vN (nI w)) (wb (sp (vN (nI w))) (vN (nI k)) b) j = 0) ∧ ∀ j, rc ≤ j → ne j = 0 ∧ va_up sp (vN (nI w)) (wb (sp (vN (nI w))) (vN (nI k)) b) j = 0 := by
  rw [vN_nI (by omega), vN_nI (by omega)]
  refine ⟨vup_all (p := fun x => x < 65536) hsp (wb_lt (hsp w (by omega)) hk b), fun j hj => ?_, fun j hj => ?_⟩
  · by_cases q : j = w
    · subst q; rw [va_up_self, Nat.and_comm]; exact wb_dj (by rw [Nat.and_comm]; exact hdj j hj) hb
    · rw [va_up_ne _ _ q]; exact hdj j hj
  · rw [va_up_ne _ _ (by omega)]; exact hz j hj
