/-! ===== a rule's row goes into the pool; methods with a table; the script at hand ===== -/
section PR3
variable {p : Program} {l : Launch} {e : Env} {R : Room} {s : State} {m : MethodId} {args : Array Value} {below : List Frame} {meth : Method} {c : Code} {H H0 : Heap} {locs : List Loc} {cells slots : Nat} {Q : State → Prop}
variable {cc : ByteArray} {pc : Nat} {ls : Array Slot} {rest st0 : List Value} {A : Nat → Prop} {G : cG} {gr : ClassId} {ws wc wr X : va_W} {P L RR : List Nat} {f : Nat → va_E} {a n : Nat}
variable {nL index na : Nat} {own C : String} {Ts wy : List Cond} {y : MethodName} {bytes : ByteArray} {maxL : Nat} {ret : Option FieldType} {rm : Room} {b : Nat} {As : List Value} {cx : va_W} {sa : Nat → Nat}
theorem p_frzR {q : Nat} {E : va_E} (hP : va_P G.1 vwCl ((X ++ [(q, E)]) ++ va_pl (RR ++ L) f) H) (hD : va_D A ((X ++ [(q, E)]) ++ va_pl (RR ++ L) f)) :
    va_P G.1 vwCl (X ++ va_pl ((RR ++ [q]) ++ L) (va_up f q E)) H ∧ va_D A (X ++ va_pl ((RR ++ [q]) ++ L) (va_up f q E)) ∧ (∀ a ∈ RR, va_up f q E a = f a) ∧ (∀ a ∈ L, va_up f q E a = f a) ∧ va_up f q E q = E := by
  obtain ⟨h1, h2, h3, h4, h5⟩ := p_frz hP hD
  have e1 : X ++ va_pl (RR ++ (L ++ [q])) (va_up f q E) = ((X ++ va_pl RR (va_up f q E)) ++ va_pl L (va_up f q E)) ++ va_pl [q] (va_up f q E) := by simp [va_pl, List.map_append, List.append_assoc]
  have e2 : X ++ va_pl ((RR ++ [q]) ++ L) (va_up f q E) = ((X ++ va_pl RR (va_up f q E)) ++ va_pl [q] (va_up f q E)) ++ va_pl L (va_up f q E) := by simp [va_pl, List.map_append, List.append_assoc]
  rw [e1] at h1 h2
  exact ⟨by rw [e2]; exact h1.swap, by rw [e2]; exact h2.swap, h3.1, fun a ha => (h3.2 a ha).2, h5⟩
end PR3
section PS3
variable {l : Launch} {G : cG} {gr : ClassId} {sa : Nat → Nat} {y : MethodName} {wy wy' : List Cond} {rm : Room} {as : List Value} {ws : va_W} {S : Type} {wo : S → va_W} {own : String} {cc : ByteArray} {maxL : Nat} {ret : Option FieldType}
theorem ps_IW {hh : List (Nat × Nat × Nat × Nat)} {post : Int32 → S → Prop} (hy : plainName y.cls = true) (hown : y.cls = own) (hw : wy = Cond.codeWith y cc maxL ret hh :: wy') (hlen : (lg_sl as).length ≤ maxL)
    (body : ∀ (p : Program) (e : Env) (s : State) (m : MethodId) (below : List Frame) (meth : Method) (c : Code) (A : Nat → Prop), c.exceptionTable.toList = tableOf hh → pHas p l e s m below meth c A G gr sa y wy rm as ws own cc maxL ret (MQ below (va_Qi post (fun u t => cB G A (wo u) t) A) as.toArray s rm.cells rm.slots A)) : pMI l G gr sa y wy rm as ws post wo := by
  intro sz
  refine va_MetW (cc := cc) (maxL := maxL) (ret := ret) (hh := hh) hy hw ?_
  intro p e s m args below meth c s₁ B hml hv
  obtain ⟨rfl, ⟨⟨⟨hsz, hP, hK, hD0⟩, hE⟩, hN⟩, hQ⟩ := hv
  have hts := atoms_spec (ws := wy) B.pre
  have hown' : s.vm.findClass y.cls = some m.cls := findClass_of_methodNamed B.named
  rw [hown] at hown'
  subst hsz
  have htbl := vx_table (x := y) B (hts _ (by rw [hw]; exact List.mem_cons_self))
  have hl := lv_entry as (n := maxL) hlen
  rw [lg_entry_eq]
  exact body p e s m below meth c (va_A ws s.heap.size) htbl hE hN hQ B.exec B.bytes B.returns hml hts hown' B.notSynchronized (name_of_methodNamed B.named B.method).1 (fun q h => Or.inr h) hK hP hD0.self va_S.rf _ hl
end PS3
/-- the nest word of the finder's constructor -/
def nW : Cond := .methodLinkNest RL 59 yX5_init RL
theorem nW_ot : nW.onTables = true := by decide +kernel
def bX (sc Ls : Nat) (xs : Nat → Int32) (A : Nat → Prop) (U : State) : Prop := va_X sc Ls xs U U.heap ∧ sc < U.heap.size ∧ ¬ A sc ∧ va_Nw nW U
theorem bX.at {sc Ls : Nat} {xs : Nat → Int32} {A B : Nat → Prop} {s U : State} {H : Heap} {locs : List Loc} (h : bX sc Ls xs A s) (hW : s.WarmedH U.vm) (hS : va_S A s.heap H locs) (hU : U.heap = H) (hB : ∀ q, B q → A q) : bX sc Ls xs B U := by
  obtain ⟨h1, h2, h3, h4⟩ := h
  refine ⟨?_, by rw [hU]; exact Nat.lt_of_lt_of_le h2 hS.1, fun z => h3 (hB _ z), va_Nw.warmM hW h4⟩
  rw [hU]
  exact va_X.moved hW.alike (h1.kept (hS.2.1 sc h2 h3))
def bPre (G : cG) (gr : ClassId) (sa : Nat → Nat) (sc Ls : Nat) (xs : Nat → Int32) (sz : Nat) (ws : va_W) (U : State) : Prop := pPre G gr sa sz ws U ∧ bX sc Ls xs (va_A ws sz) U
def bMI (l : Launch) (G : cG) (gr : ClassId) (sa : Nat → Nat) (sc Ls : Nat) (xs : Nat → Int32) (y : MethodName) (wy : List Cond) (rm : Room) (as : List Value) (ws : va_W) {S : Type} (post : Int32 → S → Prop) (wo : S → va_W) : Prop :=
  ∀ sz : Nat, Met l y wy rm (va_Pc as (bPre G gr sa sc Ls xs sz ws)) (va_Qi post (fun u t => cB G (va_A ws sz) (wo u) t) (va_A ws sz)) rm.cells rm.slots (va_A ws sz)
def bMR (l : Launch) (G : cG) (gr : ClassId) (sa : Nat → Nat) (sc Ls : Nat) (xs : Nat → Int32) (y : MethodName) (wy : List Cond) (rm : Room) (as : List Value) (ws : va_W) {S : Type} (post : Nat → S → Prop) (wo : S → va_W) : Prop :=
  ∀ sz : Nat, Met l y wy rm (va_Pc as (bPre G gr sa sc Ls xs sz ws)) (pQr G (va_A ws sz) post wo) rm.cells rm.slots (va_A ws sz)
theorem bPre_blind (as : List Value) (G : cG) (gr : ClassId) (sa : Nat → Nat) (sc Ls : Nat) (xs : Nat → Int32) (sz : Nat) (ws : va_W) : FrameBlind (va_Pc as (bPre G gr sa sc Ls xs sz ws)) := fun a U g mk q => by
  obtain ⟨q0, qP, qX⟩ := q
  obtain ⟨-, q1⟩ := pPre_blind as G gr sa sz ws a U g mk ⟨q0, qP⟩
  exact ⟨q0, q1, qX.at (U := U.calling g mk a) (State.WarmedH.refl U) (va_S.rf (A := va_A ws sz)) rfl (fun _ h => h)⟩
section
variable {l : Launch} {G : cG} {gr : ClassId} {sa : Nat → Nat} {y : MethodName} {wy wy' : List Cond} {rm : Room} {as : List Value} {ws : va_W} {S : Type} {wo : S → va_W} {own : String} {cc : ByteArray} {maxL : Nat} {ret : Option FieldType}
theorem ps_BI {sc Ls : Nat} {xs : Nat → Int32} {post : Int32 → S → Prop} (hy : plainName y.cls = true) (hown : y.cls = own) (hw : wy = Cond.code y cc maxL ret :: wy') (hlen : (lg_sl as).length ≤ maxL)
    (body : ∀ (p : Program) (e : Env) (s : State) (m : MethodId) (below : List Frame) (meth : Method) (c : Code) (A : Nat → Prop), bX sc Ls xs A s → pHas p l e s m below meth c A G gr sa y wy rm as ws own cc maxL ret (MQ below (va_Qi post (fun u t => cB G A (wo u) t) A) as.toArray s rm.cells rm.slots A)) : bMI l G gr sa sc Ls xs y wy rm as ws post wo := by
  intro sz
  refine Met.ofW (cc := cc) (maxL := maxL) (ret := ret) hy hw ?_
  intro p e s m args below meth c s₁ B hml hv
  obtain ⟨rfl, ⟨⟨⟨⟨hsz, hP, hK, hD0⟩, hE⟩, hN⟩, hQ⟩, hX⟩ := hv
  have hts := atoms_spec (ws := wy) B.pre
  have hown' : s.vm.findClass y.cls = some m.cls := findClass_of_methodNamed B.named
  rw [hown] at hown'
  subst hsz
  have hl := lv_entry as (n := maxL) hlen
  rw [lg_entry_eq]
  exact body p e s m below meth c (va_A ws s.heap.size) hX hE hN hQ B.exec B.bytes B.returns hml hts hown' B.notSynchronized (name_of_methodNamed B.named B.method).1 (fun q h => Or.inr h) hK hP hD0.self va_S.rf _ hl
end
section
variable {l : Launch} {G : cG} {gr : ClassId} {sa : Nat → Nat} {y : MethodName} {wy wy' : List Cond} {rm : Room} {as : List Value} {ws : va_W} {S : Type} {wo : S → va_W} {own : String} {cc : ByteArray} {maxL : Nat} {ret : Option FieldType}
theorem ps_BR {sc Ls : Nat} {xs : Nat → Int32} {post : Nat → S → Prop} (hy : plainName y.cls = true) (hown : y.cls = own) (hw : wy = Cond.code y cc maxL ret :: wy') (hlen : (lg_sl as).length ≤ maxL)
    (body : ∀ (p : Program) (e : Env) (s : State) (m : MethodId) (below : List Frame) (meth : Method) (c : Code) (A : Nat → Prop), bX sc Ls xs A s → pHas p l e s m below meth c A G gr sa y wy rm as ws own cc maxL ret (MQ below (pQr G A post wo) as.toArray s rm.cells rm.slots A)) : bMR l G gr sa sc Ls xs y wy rm as ws post wo := by
  intro sz
  refine Met.ofW (cc := cc) (maxL := maxL) (ret := ret) hy hw ?_
  intro p e s m args below meth c s₁ B hml hv
  obtain ⟨rfl, ⟨⟨⟨⟨hsz, hP, hK, hD0⟩, hE⟩, hN⟩, hQ⟩, hX⟩ := hv
  have hts := atoms_spec (ws := wy) B.pre
  have hown' : s.vm.findClass y.cls = some m.cls := findClass_of_methodNamed B.named
  rw [hown] at hown'
  subst hsz
  have hl := lv_entry as (n := maxL) hlen
  rw [lg_entry_eq]
  exact body p e s m below meth c (va_A ws s.heap.size) hX hE hN hQ B.exec B.bytes B.returns hml hts hown' B.notSynchronized (name_of_methodNamed B.named B.method).1 (fun q h => Or.inr h) hK hP hD0.self va_S.rf _ hl
end
section PR4
variable {p : Program} {l : Launch} {e : Env} {R : Room} {s : State} {m : MethodId} {args : Array Value} {below : List Frame} {meth : Method} {c : Code} {H H0 : Heap} {locs : List Loc} {cells slots : Nat} {Q : State → Prop}
variable {cc : ByteArray} {pc : Nat} {ls : Array Slot} {rest st0 : List Value} {A : Nat → Prop} {G : cG} {gr : ClassId} {ws wc wr X : va_W} {P L RR : List Nat} {f : Nat → va_E} {a n : Nat}
variable {nL index na : Nat} {own C : String} {Ts wy : List Cond} {y : MethodName} {bytes : ByteArray} {maxL : Nat} {ret : Option FieldType} {rm : Room} {b : Nat} {As : List Value} {cx : va_W} {sa : Nat → Nat}
theorem b_si {sc Ls : Nat} {xs : Nat → Int32} {S : Type} {post : Int32 → S → Prop} {wo : S → va_W} (Sf : CallFix p m c cc nL s args Ts own) (hK : va_K G.1 vwCl (cTy G) s) (hQ : pQ G gr s) (hP : va_P G.1 vwCl (X ++ va_pl P f) H) (hD : va_D A (X ++ va_pl P f)) (hS : va_S A s.heap H locs) (hA : ∀ q, s.heap.size ≤ q → A q) (hZ : cEx sa A s) (hN : va_Nc eIO eIS s) (hX : bX sc Ls xs A s)
    (hM : bMI l G gr sa sc Ls xs y wy rm As (cx ++ va_pl P f) post wo) (cw : CallB R s args own index y bytes maxL ret wy rm rm.cells rm.slots na ∧ (Cond.static y).before args s = true) (isC isR : List Nat) (hcut : pCut X cx wr isC isR)
    (hn : As.length = na) (hsize : ls.size = nL) (hst : st0 = As.reverse ++ rest) (hW : (rest.map fun v => v.category).sum ≤ 8)
    (hf : cells + rm.cells ≤ R.cells ∧ slots + rm.slots ≤ R.slots) (hdg : decode cc pc = .ok (.invokestatic index, 3))
    (kk : ∀ (r : Int32) (u : S) (H1 : Heap) (locs1 : List Loc), post r u → va_P G.1 vwCl (wr ++ wo u) H1 → va_D A (wr ++ wo u) → va_S A s.heap H1 locs1 → W p l e R s m args below meth c H1 locs1 (cells + rm.cells) (slots + rm.slots) Q (F0 m (pc + 3) ls (.int r :: rest))) :
    W p l e R s m args below meth c H locs cells slots Q (F0 m pc ls st0) := by
  obtain ⟨hC, hR, hn1, hn2, hdis⟩ := hcut
  have hPc := hP.part isC hC
  have hDc := hD.part isC hn1 hC
  have hFc := va_freeP hD hS hA isC hC
  refine va_calli (va_runS (As := As) (rest := rest) Sf (hM H.size) cw ⟨bPre_blind _ _ _ _ _ _ _ _ _, fun U hU hW => ⟨rfl, ⟨⟨⟨⟨by rw [hU], by rw [hU]; exact hPc, va_K.moved hW.alike hK, hDc.weaken (fun _ _ _ _ => trivial)⟩, hZ.at hW hS hU hFc⟩, va_Nc.moved hW.alike hN⟩, pQ.moved hW.alike hQ⟩, hX.at hW hS hU hFc⟩⟩ rfl hn hsize hst (lv_room hW) hdg hf) hS (fun q _ h => hFc q h) hFc (fun r u t H1 locs1 ht hvm hw hB hz1 hk1 hS => ?_)
  obtain ⟨hP1, hK1, hD1⟩ := hB
  rw [ht] at hP1
  obtain ⟨hP2, hD2⟩ := va_joinP (rx := []) hP hD isC isR hC hR hn2 hdis hk1 hFc hP1 hD1
  rw [List.append_nil] at hP2 hD2
  exact kk r u H1 locs1 hw hP2 hD2 hS
theorem b_sr {sc Ls : Nat} {xs : Nat → Int32} {S : Type} {post : Nat → S → Prop} {wo : S → va_W} (Sf : CallFix p m c cc nL s args Ts own) (hK : va_K G.1 vwCl (cTy G) s) (hQ : pQ G gr s) (hP : va_P G.1 vwCl (X ++ va_pl P f) H) (hD : va_D A (X ++ va_pl P f)) (hS : va_S A s.heap H locs) (hA : ∀ q, s.heap.size ≤ q → A q) (hZ : cEx sa A s) (hN : va_Nc eIO eIS s) (hX : bX sc Ls xs A s)
    (hM : bMR l G gr sa sc Ls xs y wy rm As (cx ++ va_pl P f) post wo) (cw : CallB R s args own index y bytes maxL ret wy rm rm.cells rm.slots na ∧ (Cond.static y).before args s = true) (isC isR : List Nat) (hcut : pCut X cx wr isC isR)
    (hn : As.length = na) (hsize : ls.size = nL) (hst : st0 = As.reverse ++ rest) (hW : (rest.map fun v => v.category).sum ≤ 8)
    (hf : cells + rm.cells ≤ R.cells ∧ slots + rm.slots ≤ R.slots) (hdg : decode cc pc = .ok (.invokestatic index, 3))
    (kk : ∀ (r : Nat) (u : S) (H1 : Heap) (locs1 : List Loc), post r u → va_P G.1 vwCl (wr ++ wo u) H1 → va_D A (wr ++ wo u) → va_S A s.heap H1 locs1 → W p l e R s m args below meth c H1 locs1 (cells + rm.cells) (slots + rm.slots) Q (F0 m (pc + 3) ls (.ref r :: rest))) :
    W p l e R s m args below meth c H locs cells slots Q (F0 m pc ls st0) := by
  obtain ⟨hC, hR, hn1, hn2, hdis⟩ := hcut
  have hPc := hP.part isC hC
  have hDc := hD.part isC hn1 hC
  have hFc := va_freeP hD hS hA isC hC
  refine va_callr (va_runS (As := As) (rest := rest) Sf (hM H.size) cw ⟨bPre_blind _ _ _ _ _ _ _ _ _, fun U hU hW => ⟨rfl, ⟨⟨⟨⟨by rw [hU], by rw [hU]; exact hPc, va_K.moved hW.alike hK, hDc.weaken (fun _ _ _ _ => trivial)⟩, hZ.at hW hS hU hFc⟩, va_Nc.moved hW.alike hN⟩, pQ.moved hW.alike hQ⟩, hX.at hW hS hU hFc⟩⟩ rfl hn hsize hst (lv_room hW) hdg hf) hS (fun q _ h => hFc q h) hFc (fun u9 ra t H1 locs1 ht hvm hw hB hz1 hk1 hS => ?_)
  obtain ⟨r, u⟩ := u9
  obtain ⟨e9, hP1, hK1, hD1⟩ := hB
  simp only at e9 hw
  subst e9
  rw [ht] at hP1
  obtain ⟨hP2, hD2⟩ := va_joinP (rx := []) hP hD isC isR hC hR hn2 hdis hk1 hFc hP1 hD1
  rw [List.append_nil] at hP2 hD2
  exact kk _ u H1 locs1 hw hP2 hD2 hS
theorem p_cn {host : String} {S : Type} {post : S → Prop} {wo : S → va_W} (Sf : CallFix p m c cc nL s args Ts own) (hK : va_K G.1 vwCl (cTy G) s) (hQ : pQ G gr s) (hP : va_P G.1 vwCl (X ++ va_pl P f) H) (hD : va_D A (X ++ va_pl P f)) (hS : va_S A s.heap H locs) (hA : ∀ q, s.heap.size ≤ q → A q) (hZ : cEx sa A s) (hN : va_Nc eIO eIS s)
    (hM : pMV l G gr sa y wy rm (.ref b :: As) (cx ++ va_pl P f) post wo) (cw : va_CN R s args own index y host bytes maxL none wy rm rm.cells rm.slots na ∧ y.name = "<init>" ∧ (Cond.instanceMethod y).before args s = true) (isC isR : List Nat) (hcut : pCut X cx wr isC isR)
    (hn : As.length = na) (hsize : ls.size = nL) (hst : st0 = As.reverse ++ .ref b :: rest) (hW : (rest.map fun v => v.category).sum ≤ 8)
    (hf : cells + rm.cells ≤ R.cells ∧ slots + rm.slots ≤ R.slots) (hdg : decode cc pc = .ok (.invokespecial index, 3))
    (kk : ∀ (u : S) (H1 : Heap) (locs1 : List Loc), post u → va_P G.1 vwCl (wr ++ wo u) H1 → va_D A (wr ++ wo u) → va_S A s.heap H1 locs1 → W p l e R s m args below meth c H1 locs1 (cells + rm.cells) (slots + rm.slots) Q (F0 m (pc + 3) ls rest)) :
    W p l e R s m args below meth c H locs cells slots Q (F0 m pc ls st0) := by
  obtain ⟨hC, hR, hn1, hn2, hdis⟩ := hcut
  have hPc := hP.part isC hC
  have hDc := hD.part isC hn1 hC
  have hFc := va_freeP hD hS hA isC hC
  refine va_callv (va_runIN (As := As) (rest := rest) Sf (hM H.size) cw ⟨pPre_blind _ _ _ _ _ _, fun U hU hW => ⟨rfl, ⟨⟨⟨by rw [hU], by rw [hU]; exact hPc, va_K.moved hW.alike hK, hDc.weaken (fun _ _ _ _ => trivial)⟩, hZ.at hW hS hU hFc⟩, va_Nc.moved hW.alike hN⟩, pQ.moved hW.alike hQ⟩⟩ rfl hn hsize hst (lv_room hW) hdg hf) hS (fun q _ h => hFc q h) hFc (fun u t H1 locs1 ht hvm hw hB hz1 hk1 hS => ?_)
  obtain ⟨hP1, hK1, hD1⟩ := hB
  rw [ht] at hP1
  obtain ⟨hP2, hD2⟩ := va_joinP (rx := []) hP hD isC isR hC hR hn2 hdis hk1 hFc hP1 hD1
  rw [List.append_nil] at hP2 hD2
  exact kk u H1 locs1 hw hP2 hD2 hS
end PR4
/-! ===== the law's small numbers ===== -/
theorem bl_and (v : Int32) : v &&& nI 2147483647 = nI (v.toBitVec.toNat % 2147483648) := by
  obtain ⟨w, hw, e⟩ := pk_andE v (m := nI 2147483647) 31 (by decide +kernel)
  rw [e]
  have h2 : ((v &&& nI 2147483647).toBitVec).toNat = w := by rw [e, nI_bv, BitVec.toNat_ofNat]; omega
  rw [Int32.toBitVec_and, nI_bv, BitVec.toNat_and, BitVec.toNat_ofNat, show 2147483647 % 2 ^ 32 = 2 ^ 31 - 1 by decide, Nat.and_two_pow_sub_one_eq_mod] at h2
  rw [← h2]
theorem bl_nI {a : Nat} (h : a < 2147483648) : (nI a).toBitVec.toNat % 2147483648 = a := by
  rw [nI_bv, BitVec.toNat_ofNat]; omega
