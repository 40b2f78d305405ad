/-! ===== short forms for the walks: one G for the classes, the slots and the two array classes ===== -/
abbrev cG : Type := va_G × (ClassId × ClassId)
abbrev cTy (G : cG) : List (ClassId × FieldType) := [(G.2.1, .int), (G.2.2, .long)]
def cB (G : cG) (A : Nat → Prop) (ws : va_W) (t : State) : Prop := va_P G.1 vwCl ws t.heap ∧ va_K G.1 vwCl (cTy G) t ∧ va_D A ws
def cPre (G : cG) (sz : Nat) (ws : va_W) (U : State) : Prop := U.heap.size = sz ∧ va_P G.1 vwCl ws U.heap ∧ va_K G.1 vwCl (cTy G) U ∧ va_D (fun _ => True) ws
def cMI (l : Launch) (G : cG) (y : MethodName) (wy : List Cond) (rm : Room) (as : List Value) (ws : va_W) {S : Type} (post : Int32 → S → Prop) (wo : S → va_W) : Prop :=
  ∀ sz : Nat, Met l y wy rm (va_Pc as (cPre G sz ws)) (va_Qi post (fun u t => cB G (va_A ws sz) (wo u) t) (va_A ws sz)) rm.cells rm.slots (va_A ws sz)
def cML (l : Launch) (G : cG) (y : MethodName) (wy : List Cond) (rm : Room) (as : List Value) (ws : va_W) {S : Type} (post : Int64 → S → Prop) (wo : S → va_W) : Prop :=
  ∀ sz : Nat, Met l y wy rm (va_Pc as (cPre G sz ws)) (va_Ql post (fun u t => cB G (va_A ws sz) (wo u) t) (va_A ws sz)) rm.cells rm.slots (va_A ws sz)
def cMD (l : Launch) (G : cG) (y : MethodName) (wy : List Cond) (rm : Room) (as : List Value) (ws : va_W) {S : Type} (post : UInt64 → S → Prop) (wo : S → va_W) : Prop :=
  ∀ sz : Nat, Met l y wy rm (va_Pc as (cPre G sz ws)) (va_Qd post (fun u t => cB G (va_A ws sz) (wo u) t) (va_A ws sz)) rm.cells rm.slots (va_A ws sz)
def cMV (l : Launch) (G : cG) (y : MethodName) (wy : List Cond) (rm : Room) (as : List Value) (ws : va_W) {S : Type} (post : S → Prop) (wo : S → va_W) : Prop :=
  ∀ sz : Nat, Met l y wy rm (va_Pc as (cPre G sz ws)) (va_Qv post (fun u t => cB G (va_A ws sz) (wo u) t) (va_A ws sz)) rm.cells rm.slots (va_A ws sz)
theorem cPre_blind (as : List Value) (G : cG) (sz : Nat) (ws : va_W) : FrameBlind (va_Pc as (cPre G sz ws)) := fun a U g mk q => by
  obtain ⟨q0, q1, qP, qK, qD⟩ := q
  exact ⟨q0, q1, qP, va_K.moved (u := U) (U := U.calling g mk a) (Vm.Alike.refl U.vm) qK, qD⟩
theorem cs_fm {is : List Nat} {ws wc : va_W} (h : is.map (fun i => ws[i]?) = wc.map some) : is.filterMap (fun i => ws[i]?) = wc := by
  have h1 : (is.map (fun i => ws[i]?)).filterMap id = (wc.map some).filterMap id := congrArg (List.filterMap id) h
  simpa [List.filterMap_map, Function.comp_def] using h1
/-- a start: what every walk has at hand -/
abbrev cHas (p : Program) (l : Launch) (e : Env) (s : State) (m : MethodId) (below : List Frame) (meth : Method) (c : Code) (A : Nat → Prop) (G : cG) (y : MethodName) (wy : List Cond) (rm : Room) (as : List Value) (ws : va_W) (own : String) (cc : ByteArray) (maxL : Nat) (ret : Option FieldType) (Q : State → Prop) : Prop :=
  p.tables.exec = Jvm.exec → c.code = cc → meth.sig.returnType = ret → c.maxLocals = maxL → (∀ w ∈ wy, w.before as.toArray s = true) → s.vm.findClass own = some m.cls → meth.locks = false → meth.name = y.name → (∀ q : Nat, s.heap.size ≤ q → A q) → va_K G.1 vwCl (cTy G) s → va_P G.1 vwCl ws s.heap → va_D A ws → va_S A s.heap s.heap [] → ∀ ls : Array Slot, lv_has ls maxL (lv_args 0 as) →
     W p l e rm s m as.toArray below meth c s.heap [] 0 0 Q (F0 m 0 ls [])
theorem cs_sI {l : Launch} {G : cG} {y : MethodName} {wy wy' : List Cond} {rm : Room} {as : List Value} {ws : va_W} {S : Type} {post : Int32 → S → Prop} {wo : S → va_W} {own : String} {cc : ByteArray} {maxL : Nat} {ret : Option FieldType}
    (hy : plainName y.cls = true) (hown : y.cls = own) (hw : wy = Cond.code y cc maxL ret :: wy') (hlen : (lg_sl as).length ≤ maxL)
    (body : ∀ (p : Program) (e : Env) (s : State) (m : MethodId) (below : List Frame) (meth : Method) (c : Code) (A : Nat → Prop), cHas p l e s m below meth c A G y wy rm as ws own cc maxL ret (MQ below (va_Qi post (fun u t => cB G A (wo u) t) A) as.toArray s rm.cells rm.slots A)) : cMI l G y wy rm as ws post wo := by
  intro sz
  refine Met.ofW (cc := cc) (maxL := maxL) (ret := ret) hy hw ?_
  intro p e s m args below meth c s₁ B hml hv
  obtain ⟨rfl, hsz, hP, hK, hD0⟩ := hv
  have hts := atoms_spec (ws := wy) B.pre
  have hown' : s.vm.findClass y.cls = some m.cls := findClass_of_methodNamed B.named
  rw [hown] at hown'
  subst hsz
  have hl := lv_entry as (n := maxL) hlen
  rw [lg_entry_eq]
  exact body p e s m below meth c (va_A ws s.heap.size) B.exec B.bytes B.returns hml hts hown' B.notSynchronized (name_of_methodNamed B.named B.method).1 (fun q h => Or.inr h) hK hP hD0.self va_S.rf _ hl
theorem cs_sL {l : Launch} {G : cG} {y : MethodName} {wy wy' : List Cond} {rm : Room} {as : List Value} {ws : va_W} {S : Type} {post : Int64 → S → Prop} {wo : S → va_W} {own : String} {cc : ByteArray} {maxL : Nat} {ret : Option FieldType}
    (hy : plainName y.cls = true) (hown : y.cls = own) (hw : wy = Cond.code y cc maxL ret :: wy') (hlen : (lg_sl as).length ≤ maxL)
    (body : ∀ (p : Program) (e : Env) (s : State) (m : MethodId) (below : List Frame) (meth : Method) (c : Code) (A : Nat → Prop), cHas p l e s m below meth c A G y wy rm as ws own cc maxL ret (MQ below (va_Ql post (fun u t => cB G A (wo u) t) A) as.toArray s rm.cells rm.slots A)) : cML l G y wy rm as ws post wo := by
  intro sz
  refine Met.ofW (cc := cc) (maxL := maxL) (ret := ret) hy hw ?_
  intro p e s m args below meth c s₁ B hml hv
  obtain ⟨rfl, hsz, hP, hK, hD0⟩ := hv
  have hts := atoms_spec (ws := wy) B.pre
  have hown' : s.vm.findClass y.cls = some m.cls := findClass_of_methodNamed B.named
  rw [hown] at hown'
  subst hsz
  have hl := lv_entry as (n := maxL) hlen
  rw [lg_entry_eq]
  exact body p e s m below meth c (va_A ws s.heap.size) B.exec B.bytes B.returns hml hts hown' B.notSynchronized (name_of_methodNamed B.named B.method).1 (fun q h => Or.inr h) hK hP hD0.self va_S.rf _ hl
theorem cs_sD {l : Launch} {G : cG} {y : MethodName} {wy wy' : List Cond} {rm : Room} {as : List Value} {ws : va_W} {S : Type} {post : UInt64 → S → Prop} {wo : S → va_W} {own : String} {cc : ByteArray} {maxL : Nat} {ret : Option FieldType}
    (hy : plainName y.cls = true) (hown : y.cls = own) (hw : wy = Cond.code y cc maxL ret :: wy') (hlen : (lg_sl as).length ≤ maxL)
    (body : ∀ (p : Program) (e : Env) (s : State) (m : MethodId) (below : List Frame) (meth : Method) (c : Code) (A : Nat → Prop), cHas p l e s m below meth c A G y wy rm as ws own cc maxL ret (MQ below (va_Qd post (fun u t => cB G A (wo u) t) A) as.toArray s rm.cells rm.slots A)) : cMD l G y wy rm as ws post wo := by
  intro sz
  refine Met.ofW (cc := cc) (maxL := maxL) (ret := ret) hy hw ?_
  intro p e s m args below meth c s₁ B hml hv
  obtain ⟨rfl, hsz, hP, hK, hD0⟩ := hv
  have hts := atoms_spec (ws := wy) B.pre
  have hown' : s.vm.findClass y.cls = some m.cls := findClass_of_methodNamed B.named
  rw [hown] at hown'
  subst hsz
  have hl := lv_entry as (n := maxL) hlen
  rw [lg_entry_eq]
  exact body p e s m below meth c (va_A ws s.heap.size) B.exec B.bytes B.returns hml hts hown' B.notSynchronized (name_of_methodNamed B.named B.method).1 (fun q h => Or.inr h) hK hP hD0.self va_S.rf _ hl
theorem cs_sV {l : Launch} {G : cG} {y : MethodName} {wy wy' : List Cond} {rm : Room} {as : List Value} {ws : va_W} {S : Type} {post : S → Prop} {wo : S → va_W} {own : String} {cc : ByteArray} {maxL : Nat} {ret : Option FieldType}
    (hy : plainName y.cls = true) (hown : y.cls = own) (hw : wy = Cond.code y cc maxL ret :: wy') (hlen : (lg_sl as).length ≤ maxL)
    (body : ∀ (p : Program) (e : Env) (s : State) (m : MethodId) (below : List Frame) (meth : Method) (c : Code) (A : Nat → Prop), cHas p l e s m below meth c A G y wy rm as ws own cc maxL ret (MQ below (va_Qv post (fun u t => cB G A (wo u) t) A) as.toArray s rm.cells rm.slots A)) : cMV l G y wy rm as ws post wo := by
  intro sz
  refine Met.ofW (cc := cc) (maxL := maxL) (ret := ret) hy hw ?_
  intro p e s m args below meth c s₁ B hml hv
  obtain ⟨rfl, hsz, hP, hK, hD0⟩ := hv
  have hts := atoms_spec (ws := wy) B.pre
  have hown' : s.vm.findClass y.cls = some m.cls := findClass_of_methodNamed B.named
  rw [hown] at hown'
  subst hsz
  have hl := lv_entry as (n := maxL) hlen
  rw [lg_entry_eq]
  exact body p e s m below meth c (va_A ws s.heap.size) B.exec B.bytes B.returns hml hts hown' B.notSynchronized (name_of_methodNamed B.named B.method).1 (fun q h => Or.inr h) hK hP hD0.self va_S.rf _ hl
section CS1
variable {p : Program} {l : Launch} {e : Env} {R : Room} {s : State} {m : MethodId} {args : Array Value} {below : List Frame} {meth : Method} {c : Code} {H H0 : Heap} {locs : List Loc} {cells slots : Nat} {Q : State → Prop}
variable {cc : ByteArray} {pc : Nat} {ls : Array Slot} {rest st0 : List Value} {A : Nat → Prop} {G : cG} {ws wc wr : va_W}
/-- the top of the stack by another name -/
theorem cs_i {x y : Int32} (h : x = y) (k : W p l e R s m args below meth c H locs cells slots Q (F0 m pc ls (.int y :: rest))) : W p l e R s m args below meth c H locs cells slots Q (F0 m pc ls (.int x :: rest)) := by
  subst h; exact k
theorem cs_l {x y : Int64} (h : x = y) (k : W p l e R s m args below meth c H locs cells slots Q (F0 m pc ls (.long y :: rest))) : W p l e R s m args below meth c H locs cells slots Q (F0 m pc ls (.long x :: rest)) := by
  subst h; exact k
/-- the ends -/
theorem cs_iret {S : Type} {post : Int32 → S → Prop} {wo : S → va_W} (hx : p.tables.exec = Jvm.exec) (hb : c.code = cc) (hr : meth.sig.returnType = some .int) (hlocks : meth.locks = false) (hK : va_K G.1 vwCl (cTy G) s) (hP : va_P G.1 vwCl ws H) (hD : va_D A ws) (hS : va_S A s.heap H locs) {v : Int32} (u : S) (hp : post v u) (hwo : wo u = ws) (hdg : decode cc pc = .ok (.ireturn, 1)) :
    W p l e R s m args below meth c H locs cells slots (MQ below (va_Qi post (fun u t => cB G A (wo u) t) A) args s cells slots A) (F0 m pc ls [.int v]) :=
  W.iret hx hb hr (fun t ht hW => ⟨⟨v, u, rfl, hp, by show cB G A (wo u) t; rw [hwo]; exact ⟨by rw [ht]; exact hP, va_K.moved hW.alike hK, hD⟩⟩, hS.F ht⟩) hS.2.2 hdg hlocks
theorem cs_zret {S : Type} {post : Int32 → S → Prop} {wo : S → va_W} {ty : FieldType} (hx : p.tables.exec = Jvm.exec) (hb : c.code = cc) (hr : meth.sig.returnType = some ty) (hlocks : meth.locks = false) (hK : va_K G.1 vwCl (cTy G) s) (hP : va_P G.1 vwCl ws H) (hD : va_D A ws) (hS : va_S A s.heap H locs) {v : Int32} (hn : narrow ty (.int v) = .int v) (u : S) (hp : post v u) (hwo : wo u = ws) (hdg : decode cc pc = .ok (.ireturn, 1)) :
    W p l e R s m args below meth c H locs cells slots (MQ below (va_Qi post (fun u t => cB G A (wo u) t) A) args s cells slots A) (F0 m pc ls [.int v]) :=
  W.zret hx hb hr hn (fun t ht hW => ⟨⟨v, u, rfl, hp, by show cB G A (wo u) t; rw [hwo]; exact ⟨by rw [ht]; exact hP, va_K.moved hW.alike hK, hD⟩⟩, hS.F ht⟩) hS.2.2 hdg hlocks
theorem cs_lret {S : Type} {post : Int64 → S → Prop} {wo : S → va_W} (hx : p.tables.exec = Jvm.exec) (hb : c.code = cc) (hr : meth.sig.returnType = some .long) (hlocks : meth.locks = false) (hK : va_K G.1 vwCl (cTy G) s) (hP : va_P G.1 vwCl ws H) (hD : va_D A ws) (hS : va_S A s.heap H locs) {v : Int64} (u : S) (hp : post v u) (hwo : wo u = ws) (hdg : decode cc pc = .ok (.lreturn, 1)) :
    W p l e R s m args below meth c H locs cells slots (MQ below (va_Ql post (fun u t => cB G A (wo u) t) A) args s cells slots A) (F0 m pc ls [.long v]) :=
  W.lret hx hb hr (fun t ht hW => ⟨⟨v, u, rfl, hp, by show cB G A (wo u) t; rw [hwo]; exact ⟨by rw [ht]; exact hP, va_K.moved hW.alike hK, hD⟩⟩, hS.F ht⟩) hS.2.2 hdg hlocks
theorem cs_dret {S : Type} {post : UInt64 → S → Prop} {wo : S → va_W} (hx : p.tables.exec = Jvm.exec) (hb : c.code = cc) (hr : meth.sig.returnType = some .double) (hlocks : meth.locks = false) (hK : va_K G.1 vwCl (cTy G) s) (hP : va_P G.1 vwCl ws H) (hD : va_D A ws) (hS : va_S A s.heap H locs) {v : UInt64} (u : S) (hp : post v u) (hwo : wo u = ws) (hdg : decode cc pc = .ok (.dreturn, 1)) :
    W p l e R s m args below meth c H locs cells slots (MQ below (va_Qd post (fun u t => cB G A (wo u) t) A) args s cells slots A) (F0 m pc ls [.double v]) :=
  W.dret hx hb hr (fun t ht hW => ⟨⟨v, u, rfl, hp, by show cB G A (wo u) t; rw [hwo]; exact ⟨by rw [ht]; exact hP, va_K.moved hW.alike hK, hD⟩⟩, hS.F ht⟩) hS.2.2 hdg hlocks
theorem cs_vret {S : Type} {post : S → Prop} {wo : S → va_W} (hx : p.tables.exec = Jvm.exec) (hb : c.code = cc) (hr : meth.sig.returnType = none) (hlocks : meth.locks = false) (hK : va_K G.1 vwCl (cTy G) s) (hP : va_P G.1 vwCl ws H) (hD : va_D A ws) (hS : va_S A s.heap H locs) (u : S) (hp : post u) (hwo : wo u = ws) (hdg : decode cc pc = .ok (.return_, 1)) :
    W p l e R s m args below meth c H locs cells slots (MQ below (va_Qv post (fun u t => cB G A (wo u) t) A) args s cells slots A) (F0 m pc ls []) :=
  W.vret hx hb hr (fun t ht hW => ⟨⟨u, rfl, hp, by show cB G A (wo u) t; rw [hwo]; exact ⟨by rw [ht]; exact hP, va_K.moved hW.alike hK, hD⟩⟩, hS.F ht⟩) hS.2.2 hdg hlocks
/-- a loop, its head with an empty stack: a measure that falls -/
theorem cs_loop {nL : Nat} {σ : Type} (μ : σ → Nat) (inv : σ → Prop) (wf : σ → va_W) (lv : σ → List (Nat × Value))
    (step : ∀ x : σ, inv x → (∀ y : σ, μ y < μ x → inv y → ∀ (H : Heap) (locs : List Loc) (ls : Array Slot), va_P G.1 vwCl (wf y) H → va_D A (wf y) → va_S A H0 H locs → lv_has ls nL (lv y) → W p l e R s m args below meth c H locs cells slots Q (F0 m pc ls [])) →
      ∀ (H : Heap) (locs : List Loc) (ls : Array Slot), va_P G.1 vwCl (wf x) H → va_D A (wf x) → va_S A H0 H locs → lv_has ls nL (lv x) → W p l e R s m args below meth c H locs cells slots Q (F0 m pc ls []))
    (x0 : σ) (h0 : inv x0) (hP : va_P G.1 vwCl (wf x0) H) (hD : va_D A (wf x0)) (hS : va_S A H0 H locs) (hl : lv_has ls nL (lv x0)) : W p l e R s m args below meth c H locs cells slots Q (F0 m pc ls []) := by
  have key : ∀ (n : Nat) (x : σ), μ x < n → inv x → ∀ (H : Heap) (locs : List Loc) (ls : Array Slot), va_P G.1 vwCl (wf x) H → va_D A (wf x) → va_S A H0 H locs → lv_has ls nL (lv x) → W p l e R s m args below meth c H locs cells slots Q (F0 m pc ls []) := by
    intro n
    induction n with
    | zero => intro x h; exact absurd h (Nat.not_lt_zero _)
    | succ n ih => intro x hx hi; exact step x hi (fun y hy hiy => ih y (by omega) hiy)
  exact key (μ x0 + 1) x0 (Nat.lt_succ_self _) h0 H locs ls hP hD hS hl
variable {nL index n : Nat} {own C : String} {Ts wy : List Cond} {y : MethodName} {bytes : ByteArray} {maxL : Nat} {ret : Option FieldType} {rm : Room} {b : Nat} {As : List Value}
/-- what a call's cut needs -/
abbrev cCut (ws wc wr : va_W) (isC isR : List Nat) : Prop := isC.map (fun i => ws[i]?) = wc.map some ∧ isR.map (fun i => ws[i]?) = wr.map some ∧ va_nd isC = true ∧ va_nd isR = true ∧ ∀ i ∈ isR, i ∉ isC
theorem cs_vi {S : Type} {post : Int32 → S → Prop} {wo : S → va_W} (Sf : CallFix p m c cc nL s args Ts own) (hK : va_K G.1 vwCl (cTy G) s) (hP : va_P G.1 vwCl ws H) (hD : va_D A ws) (hS : va_S A H0 H locs) (hA : ∀ q, H0.size ≤ q → A q)
    (hM : cMI l G y wy rm (.ref b :: As) wc post wo) (cw : CallW R s args own C index y bytes maxL ret wy rm rm.cells rm.slots n) (isC isR : List Nat) (hcut : cCut ws wc wr isC isR)
    (q0 ci : Nat) {fs : List Value} {T : u_T} {N : Nat} (he : ws[q0]? = some (b, .inr (ci, fs))) (hc : vwCl[ci]? = some (C, T, N)) (hn : As.length = n) (hsize : ls.size = nL) (hst : st0 = As.reverse ++ .ref b :: rest) (hW : (rest.map fun v => v.category).sum ≤ 8)
    (hf : cells + rm.cells ≤ R.cells ∧ slots + rm.slots ≤ R.slots) (hdg : decode cc pc = .ok (.invokevirtual index, 3))
    (kk : ∀ (r : Int32) (u : S) (H1 : Heap) (locs1 : List Loc), post r u → va_P G.1 vwCl (wr ++ wo u) H1 → va_D A (wr ++ wo u) → va_S A H0 H1 locs1 → W p l e R s m args below meth c H1 locs1 (cells + rm.cells) (slots + rm.slots) Q (F0 m (pc + 3) ls (.int r :: rest))) :
    W p l e R s m args below meth c H locs cells slots Q (F0 m pc ls st0) := by
  obtain ⟨hC, hR, hn1, hn2, hdis⟩ := hcut
  have hPc := hP.sub isC (cs_fm hC)
  have hDc := hD.sub isC hn1 hC
  have hFc := va_free hD hS hA isC hC
  refine va_calli (va_runV (As := As) (rest := rest) Sf (hM H.size) cw ⟨cPre_blind _ _ _ _, va_recv hK hP hc he, fun U hU hW => ⟨rfl, by rw [hU], by rw [hU]; exact hPc, va_K.moved hW.alike hK, hDc.weaken (fun _ _ _ _ => trivial)⟩⟩ rfl hn hsize hst (lv_room hW) hdg hf) hS (fun q _ h => hFc q h) hFc (fun r u t H1 locs1 ht hvm hw hB hz1 hk1 hS => ?_)
  obtain ⟨hP1, hK1, hD1⟩ := hB
  rw [ht] at hP1
  obtain ⟨hP, hD⟩ := va_join hP hD isC isR hC hR hn2 hdis hk1 hFc hP1 hD1
  exact kk r u H1 locs1 hw hP hD hS
theorem cs_vl {S : Type} {post : Int64 → S → Prop} {wo : S → va_W} (Sf : CallFix p m c cc nL s args Ts own) (hK : va_K G.1 vwCl (cTy G) s) (hP : va_P G.1 vwCl ws H) (hD : va_D A ws) (hS : va_S A H0 H locs) (hA : ∀ q, H0.size ≤ q → A q)
    (hM : cML l G y wy rm (.ref b :: As) wc post wo) (cw : CallW R s args own C index y bytes maxL ret wy rm rm.cells rm.slots n) (isC isR : List Nat) (hcut : cCut ws wc wr isC isR)
    (q0 ci : Nat) {fs : List Value} {T : u_T} {N : Nat} (he : ws[q0]? = some (b, .inr (ci, fs))) (hc : vwCl[ci]? = some (C, T, N)) (hn : As.length = n) (hsize : ls.size = nL) (hst : st0 = As.reverse ++ .ref b :: rest) (hW : (rest.map fun v => v.category).sum ≤ 8)
    (hf : cells + rm.cells ≤ R.cells ∧ slots + rm.slots ≤ R.slots) (hdg : decode cc pc = .ok (.invokevirtual index, 3))
    (kk : ∀ (r : Int64) (u : S) (H1 : Heap) (locs1 : List Loc), post r u → va_P G.1 vwCl (wr ++ wo u) H1 → va_D A (wr ++ wo u) → va_S A H0 H1 locs1 → W p l e R s m args below meth c H1 locs1 (cells + rm.cells) (slots + rm.slots) Q (F0 m (pc + 3) ls (.long r :: rest))) :
    W p l e R s m args below meth c H locs cells slots Q (F0 m pc ls st0) := by
  obtain ⟨hC, hR, hn1, hn2, hdis⟩ := hcut
  have hPc := hP.sub isC (cs_fm hC)
  have hDc := hD.sub isC hn1 hC
  have hFc := va_free hD hS hA isC hC
  refine va_calll (va_runV (As := As) (rest := rest) Sf (hM H.size) cw ⟨cPre_blind _ _ _ _, va_recv hK hP hc he, fun U hU hW => ⟨rfl, by rw [hU], by rw [hU]; exact hPc, va_K.moved hW.alike hK, hDc.weaken (fun _ _ _ _ => trivial)⟩⟩ rfl hn hsize hst (lv_room hW) hdg hf) hS (fun q _ h => hFc q h) hFc (fun r u t H1 locs1 ht hvm hw hB hz1 hk1 hS => ?_)
  obtain ⟨hP1, hK1, hD1⟩ := hB
  rw [ht] at hP1
  obtain ⟨hP, hD⟩ := va_join hP hD isC isR hC hR hn2 hdis hk1 hFc hP1 hD1
  exact kk r u H1 locs1 hw hP hD hS
theorem cs_vd {S : Type} {post : UInt64 → S → Prop} {wo : S → va_W} (Sf : CallFix p m c cc nL s args Ts own) (hK : va_K G.1 vwCl (cTy G) s) (hP : va_P G.1 vwCl ws H) (hD : va_D A ws) (hS : va_S A H0 H locs) (hA : ∀ q, H0.size ≤ q → A q)
    (hM : cMD l G y wy rm (.ref b :: As) wc post wo) (cw : CallW R s args own C index y bytes maxL ret wy rm rm.cells rm.slots n) (isC isR : List Nat) (hcut : cCut ws wc wr isC isR)
    (q0 ci : Nat) {fs : List Value} {T : u_T} {N : Nat} (he : ws[q0]? = some (b, .inr (ci, fs))) (hc : vwCl[ci]? = some (C, T, N)) (hn : As.length = n) (hsize : ls.size = nL) (hst : st0 = As.reverse ++ .ref b :: rest) (hW : (rest.map fun v => v.category).sum ≤ 8)
    (hf : cells + rm.cells ≤ R.cells ∧ slots + rm.slots ≤ R.slots) (hdg : decode cc pc = .ok (.invokevirtual index, 3))
    (kk : ∀ (r : UInt64) (u : S) (H1 : Heap) (locs1 : List Loc), post r u → va_P G.1 vwCl (wr ++ wo u) H1 → va_D A (wr ++ wo u) → va_S A H0 H1 locs1 → W p l e R s m args below meth c H1 locs1 (cells + rm.cells) (slots + rm.slots) Q (F0 m (pc + 3) ls (.double r :: rest))) :
    W p l e R s m args below meth c H locs cells slots Q (F0 m pc ls st0) := by
  obtain ⟨hC, hR, hn1, hn2, hdis⟩ := hcut
  have hPc := hP.sub isC (cs_fm hC)
  have hDc := hD.sub isC hn1 hC
  have hFc := va_free hD hS hA isC hC
  refine va_calld (va_runV (As := As) (rest := rest) Sf (hM H.size) cw ⟨cPre_blind _ _ _ _, va_recv hK hP hc he, fun U hU hW => ⟨rfl, by rw [hU], by rw [hU]; exact hPc, va_K.moved hW.alike hK, hDc.weaken (fun _ _ _ _ => trivial)⟩⟩ rfl hn hsize hst (lv_room hW) hdg hf) hS (fun q _ h => hFc q h) hFc (fun r u t H1 locs1 ht hvm hw hB hz1 hk1 hS => ?_)
  obtain ⟨hP1, hK1, hD1⟩ := hB
  rw [ht] at hP1
  obtain ⟨hP, hD⟩ := va_join hP hD isC isR hC hR hn2 hdis hk1 hFc hP1 hD1
  exact kk r u H1 locs1 hw hP hD hS
theorem cs_vv {S : Type} {post : S → Prop} {wo : S → va_W} (Sf : CallFix p m c cc nL s args Ts own) (hK : va_K G.1 vwCl (cTy G) s) (hP : va_P G.1 vwCl ws H) (hD : va_D A ws) (hS : va_S A H0 H locs) (hA : ∀ q, H0.size ≤ q → A q)
    (hM : cMV l G y wy rm (.ref b :: As) wc post wo) (cw : CallW R s args own C index y bytes maxL ret wy rm rm.cells rm.slots n) (isC isR : List Nat) (hcut : cCut ws wc wr isC isR)
    (q0 ci : Nat) {fs : List Value} {T : u_T} {N : Nat} (he : ws[q0]? = some (b, .inr (ci, fs))) (hc : vwCl[ci]? = some (C, T, N)) (hn : As.length = n) (hsize : ls.size = nL) (hst : st0 = As.reverse ++ .ref b :: rest) (hW : (rest.map fun v => v.category).sum ≤ 8)
    (hf : cells + rm.cells ≤ R.cells ∧ slots + rm.slots ≤ R.slots) (hdg : decode cc pc = .ok (.invokevirtual index, 3))
    (kk : ∀ (u : S) (H1 : Heap) (locs1 : List Loc), post u → va_P G.1 vwCl (wr ++ wo u) H1 → va_D A (wr ++ wo u) → va_S A H0 H1 locs1 → W p l e R s m args below meth c H1 locs1 (cells + rm.cells) (slots + rm.slots) Q (F0 m (pc + 3) ls rest)) :
    W p l e R s m args below meth c H locs cells slots Q (F0 m pc ls st0) := by
  obtain ⟨hC, hR, hn1, hn2, hdis⟩ := hcut
  have hPc := hP.sub isC (cs_fm hC)
  have hDc := hD.sub isC hn1 hC
  have hFc := va_free hD hS hA isC hC
  refine va_callv (va_runV (As := As) (rest := rest) Sf (hM H.size) cw ⟨cPre_blind _ _ _ _, va_recv hK hP hc he, fun U hU hW => ⟨rfl, by rw [hU], by rw [hU]; exact hPc, va_K.moved hW.alike hK, hDc.weaken (fun _ _ _ _ => trivial)⟩⟩ rfl hn hsize hst (lv_room hW) hdg hf) hS (fun q _ h => hFc q h) hFc (fun u t H1 locs1 ht hvm hw hB hz1 hk1 hS => ?_)
  obtain ⟨hP1, hK1, hD1⟩ := hB
  rw [ht] at hP1
  obtain ⟨hP, hD⟩ := va_join hP hD isC isR hC hR hn2 hdis hk1 hFc hP1 hD1
  exact kk u H1 locs1 hw hP hD hS
theorem cs_si {S : Type} {post : Int32 → S → Prop} {wo : S → va_W} (Sf : CallFix p m c cc nL s args Ts own) (hK : va_K G.1 vwCl (cTy G) s) (hP : va_P G.1 vwCl ws H) (hD : va_D A ws) (hS : va_S A H0 H locs) (hA : ∀ q, H0.size ≤ q → A q)
    (hM : cMI l G y wy rm As wc post wo) (cw : CallB R s args own index y bytes maxL ret wy rm rm.cells rm.slots n ∧ (Cond.static y).before args s = true) (isC isR : List Nat) (hcut : cCut ws wc wr isC isR)
    (hn : As.length = n) (hsize : ls.size = nL) (hst : st0 = As.reverse ++ rest) (hW : (rest.map fun v => v.category).sum ≤ 8)
    (hf : cells + rm.cells ≤ R.cells ∧ slots + rm.slots ≤ R.slots) (hdg : decode cc pc = .ok (.invokestatic index, 3))
    (kk : ∀ (r : Int32) (u : S) (H1 : Heap) (locs1 : List Loc), post r u → va_P G.1 vwCl (wr ++ wo u) H1 → va_D A (wr ++ wo u) → va_S A H0 H1 locs1 → W p l e R s m args below meth c H1 locs1 (cells + rm.cells) (slots + rm.slots) Q (F0 m (pc + 3) ls (.int r :: rest))) :
    W p l e R s m args below meth c H locs cells slots Q (F0 m pc ls st0) := by
  obtain ⟨hC, hR, hn1, hn2, hdis⟩ := hcut
  have hPc := hP.sub isC (cs_fm hC)
  have hDc := hD.sub isC hn1 hC
  have hFc := va_free hD hS hA isC hC
  refine va_calli (va_runS (As := As) (rest := rest) Sf (hM H.size) cw ⟨cPre_blind _ _ _ _, fun U hU hW => ⟨rfl, by rw [hU], by rw [hU]; exact hPc, va_K.moved hW.alike hK, hDc.weaken (fun _ _ _ _ => trivial)⟩⟩ rfl hn hsize hst (lv_room hW) hdg hf) hS (fun q _ h => hFc q h) hFc (fun r u t H1 locs1 ht hvm hw hB hz1 hk1 hS => ?_)
  obtain ⟨hP1, hK1, hD1⟩ := hB
  rw [ht] at hP1
  obtain ⟨hP, hD⟩ := va_join hP hD isC isR hC hR hn2 hdis hk1 hFc hP1 hD1
  exact kk r u H1 locs1 hw hP hD hS
theorem cs_sl {S : Type} {post : Int64 → S → Prop} {wo : S → va_W} (Sf : CallFix p m c cc nL s args Ts own) (hK : va_K G.1 vwCl (cTy G) s) (hP : va_P G.1 vwCl ws H) (hD : va_D A ws) (hS : va_S A H0 H locs) (hA : ∀ q, H0.size ≤ q → A q)
    (hM : cML l G y wy rm As wc post wo) (cw : CallB R s args own index y bytes maxL ret wy rm rm.cells rm.slots n ∧ (Cond.static y).before args s = true) (isC isR : List Nat) (hcut : cCut ws wc wr isC isR)
    (hn : As.length = n) (hsize : ls.size = nL) (hst : st0 = As.reverse ++ rest) (hW : (rest.map fun v => v.category).sum ≤ 8)
    (hf : cells + rm.cells ≤ R.cells ∧ slots + rm.slots ≤ R.slots) (hdg : decode cc pc = .ok (.invokestatic index, 3))
    (kk : ∀ (r : Int64) (u : S) (H1 : Heap) (locs1 : List Loc), post r u → va_P G.1 vwCl (wr ++ wo u) H1 → va_D A (wr ++ wo u) → va_S A H0 H1 locs1 → W p l e R s m args below meth c H1 locs1 (cells + rm.cells) (slots + rm.slots) Q (F0 m (pc + 3) ls (.long r :: rest))) :
    W p l e R s m args below meth c H locs cells slots Q (F0 m pc ls st0) := by
  obtain ⟨hC, hR, hn1, hn2, hdis⟩ := hcut
  have hPc := hP.sub isC (cs_fm hC)
  have hDc := hD.sub isC hn1 hC
  have hFc := va_free hD hS hA isC hC
  refine va_calll (va_runS (As := As) (rest := rest) Sf (hM H.size) cw ⟨cPre_blind _ _ _ _, fun U hU hW => ⟨rfl, by rw [hU], by rw [hU]; exact hPc, va_K.moved hW.alike hK, hDc.weaken (fun _ _ _ _ => trivial)⟩⟩ rfl hn hsize hst (lv_room hW) hdg hf) hS (fun q _ h => hFc q h) hFc (fun r u t H1 locs1 ht hvm hw hB hz1 hk1 hS => ?_)
  obtain ⟨hP1, hK1, hD1⟩ := hB
  rw [ht] at hP1
  obtain ⟨hP, hD⟩ := va_join hP hD isC isR hC hR hn2 hdis hk1 hFc hP1 hD1
  exact kk r u H1 locs1 hw hP hD hS
end CS1
/-! ===== numbers in arrays and answers ===== -/
/-- an array that holds whole numbers -/
def nF (k : Nat → Nat) : Nat → Int32 := fun j => nI (k j)
theorem nF_at (k : Nat → Nat) {i : Nat} (h : i < 2 ^ 31) : nF k (nI i).toNatClampNeg = nI (k i) := by unfold nF; rw [nI_clamp h]
theorem aF_at (f : Nat → Int32) {i : Nat} (h : i < 2 ^ 31) : f (nI i).toNatClampNeg = f i := by rw [nI_clamp h]
theorem nF_upd (k : Nat → Nat) {i : Nat} (h : i < 2 ^ 31) (v : Nat) : upd (nF k) (nI i).toNatClampNeg (nI v) = nF (va_up k i v) := by
  rw [nI_clamp h]
  funext j
  by_cases hj : j = i
  · subst hj; simp [upd, nF, va_up]
  · simp [upd, nF, va_up, hj]
theorem aF_upd (f : Nat → Int32) {i : Nat} (h : i < 2 ^ 31) (v : Int32) : upd f (nI i).toNatClampNeg v = va_up f i v := by
  rw [nI_clamp h]; rfl
/-- a truth as an int -/
def bI (b : Bool) : Int32 := if b then 1 else 0
theorem bI_t : bI true = 1 := rfl
theorem bI_f : bI false = 0 := rfl
theorem bI_0 {b : Bool} (h : bI b = 0) : b = false := by cases b <;> simp_all [bI]
theorem bI_n0 {b : Bool} (h : ¬ bI b = 0) : b = true := by cases b <;> simp_all [bI]
theorem bI_nar (b : Bool) : narrow .boolean (.int (bI b)) = .int (bI b) := by cases b <;> rfl
theorem bI_nI (b : Bool) : bI b = nI (if b then 1 else 0) := by cases b <;> rfl
