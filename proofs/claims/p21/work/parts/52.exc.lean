/-! ===== methods that throw: short forms ===== -/
def nmsE : List String := ["java/lang/RuntimeException", "java/lang/Exception"]
def eIO : String := "java/lang/IndexOutOfBoundsException"
def eIS : String := "java/lang/IllegalStateException"
def eIA : String := "java/lang/IllegalArgumentException"
/-- the words of a throw that are no good ones -/
def exW : List Cond := [.declares ⟨"java/lang/RuntimeException", "<init>", "(Ljava/lang/String;)V"⟩, .declares ⟨"java/lang/Exception", "<init>", "(Ljava/lang/String;)V"⟩, .declares ⟨"java/lang/Throwable", "<init>", "(Ljava/lang/String;)V"⟩, .castable eIO eIO, .castable eIS eIS, .castable eIA eIA]
def exS : List (Nat × String) := [(48, "no such kind"), (59, "the recipe is full"), (73, "no such place"), (83, "all rules are told"), (91, "no such rule or kind"), (100, "this kind spares the rule"), (113, "the rule needs this kind"), (118, "no such rule, or nothing to tell"), (129, "no such dish"), (161, "no such place in the kept list"), (169, "no such step, or nothing to tell"), (174, "nothing to count"), (179, "nothing to tell")]
theorem exW_ot : ∀ w ∈ exW, w.onTables = true := by decide +kernel
set_option maxRecDepth 100000 in
theorem xb_50 : ∀ w ∈ (vx_atS RX4 50 eIO nmsE).filter (fun w => !goodWord w), w ∈ exW := by decide +kernel
set_option maxRecDepth 100000 in
theorem xb_61 : ∀ w ∈ (vx_atS RX4 61 eIS nmsE).filter (fun w => !goodWord w), w ∈ exW := by decide +kernel
set_option maxRecDepth 100000 in
theorem xb_131 : ∀ w ∈ (vx_atS RX4 131 eIA nmsE).filter (fun w => !goodWord w), w ∈ exW := by decide +kernel
set_option maxRecDepth 100000 in
theorem xg_50 : ∀ w ∈ Cond.classLink RX4 46 eIO :: Cond.initialized eIO :: vx_atS RX4 50 eIO nmsE, vx_ot w = true := by decide +kernel
set_option maxRecDepth 100000 in
theorem xg_61 : ∀ w ∈ Cond.classLink RX4 57 eIS :: Cond.initialized eIS :: vx_atS RX4 61 eIS nmsE, vx_ot w = true := by decide +kernel
set_option maxRecDepth 100000 in
theorem xg_131 : ∀ w ∈ Cond.classLink RX4 127 eIA :: Cond.initialized eIA :: vx_atS RX4 131 eIA nmsE, vx_ot w = true := by decide +kernel
/-- what a throw needs of the state ahead of the call -/
def cEx (sa : Nat → Nat) (A : Nat → Prop) (U : State) : Prop :=
  vx_Zq Bundle.tN "UNASSIGNED_STACK" Bundle.steD A U U.heap ∧ vx_Zq Bundle.tN "SUPPRESSED_SENTINEL" Bundle.listD A U U.heap ∧ (∀ q ∈ exS, vk_R RX4 q.1 q.2 (sa q.1) U) ∧ ∀ w ∈ exW, va_Nw w U
theorem exW_warm {s U : State} (hW : s.WarmedH U.vm) (h : ∀ w ∈ exW, va_Nw w s) : ∀ w ∈ exW, va_Nw w U := by
  have d : ∀ x : MethodName, Cond.declares x ∈ exW → va_Nw (.declares x) U := fun x hx => va_Nw.warmD hW (h _ hx)
  have c : ∀ a b : String, Cond.castable a b ∈ exW → va_Nw (.castable a b) U := fun a b hx => va_Nw.warmC hW (h _ hx)
  intro w hw
  have key : ∀ L : List Cond, (∀ w ∈ L, w ∈ exW) → L = [.declares ⟨"java/lang/RuntimeException", "<init>", "(Ljava/lang/String;)V"⟩, .declares ⟨"java/lang/Exception", "<init>", "(Ljava/lang/String;)V"⟩, .declares ⟨"java/lang/Throwable", "<init>", "(Ljava/lang/String;)V"⟩, .castable eIO eIO, .castable eIS eIS, .castable eIA eIA] → ∀ w ∈ L, va_Nw w U := by
    intro L h1 h2 w hw
    have h3 := h1 w hw
    rw [h2] at hw
    simp only [List.mem_cons, List.not_mem_nil, or_false] at hw
    rcases hw with rfl | rfl | rfl | rfl | rfl | rfl
    · exact d _ h3
    · exact d _ h3
    · exact d _ h3
    · exact c _ _ h3
    · exact c _ _ h3
    · exact c _ _ h3
  exact key exW (fun _ h => h) rfl w hw
theorem cEx.at {sa : Nat → Nat} {A B : Nat → Prop} {s U : State} {H : Heap} {locs : List Loc} (h : cEx sa A s) (hW : s.WarmedH U.vm) (hS : va_S A s.heap H locs) (hU : U.heap = H) (hB : ∀ q, B q → A q) : cEx sa B U := by
  obtain ⟨h1, h2, h3, h4⟩ := h
  refine ⟨?_, ?_, fun q hq => vk_R.warm hW (h3 q hq), exW_warm hW h4⟩
  · rw [hU]; exact vx_Zq.moved hW.alike ((h1.kept hS.2.1).narrow hB)
  · rw [hU]; exact vx_Zq.moved hW.alike ((h2.kept hS.2.1).narrow hB)
def cPreX (G : cG) (sa : Nat → Nat) (sz : Nat) (ws : va_W) (U : State) : Prop := cPre G sz ws U ∧ cEx sa (va_A ws sz) U
def cXC (G : cG) (A : Nat → Prop) (ws : va_W) (px : String → Prop) : String → State → State → Prop := vx_X (fun _ : Unit => True) (fun E _ t => px E ∧ cB G A ws t) A
def cXI (l : Launch) (G : cG) (sa : Nat → Nat) (y : MethodName) (wy : List Cond) (rm : Room) (as : List Value) (ws : va_W) (px : String → Prop) {S : Type} (post : Int32 → S → Prop) (wo : S → va_W) : Prop :=
  ∀ sz : Nat, vx_Met l y wy rm (va_Pc as (cPreX G sa sz ws)) (va_Qi post (fun u t => cB G (va_A ws sz) (wo u) t) (va_A ws sz)) (cXC G (va_A ws sz) ws px) rm.cells rm.slots (va_A ws sz)
theorem cPreX_blind (as : List Value) (G : cG) (sa : Nat → Nat) (sz : Nat) (ws : va_W) : FrameBlind (va_Pc as (cPreX G sa sz ws)) := fun a U g mk q => by
  obtain ⟨q0, ⟨q1, qP, qK, qD⟩, qE⟩ := q
  refine ⟨q0, ⟨q1, qP, va_K.moved (u := U) (U := U.calling g mk a) (Vm.Alike.refl U.vm) qK, qD⟩, ?_⟩
  exact qE.at (U := U.calling g mk a) (State.WarmedH.refl U) (va_S.rf (A := va_A ws sz)) rfl (fun _ h => h)
theorem cs_sXI {l : Launch} {G : cG} {sa : Nat → Nat} {y : MethodName} {wy wy' : List Cond} {rm : Room} {as : List Value} {ws : va_W} {px : String → Prop} {S : Type} {post : Int32 → S → Prop} {wo : S → va_W} {own : String} {cc : ByteArray} {maxL : Nat} {ret : Option FieldType}
    (hy : plainName y.cls = true) (hown : y.cls = own) (hw : wy = Cond.code y cc maxL ret :: wy') (hlen : (lg_sl as).length ≤ maxL)
    (body : ∀ (p : Program) (e : Env) (s : State) (m : MethodId) (below : List Frame) (meth : Method) (c : Code) (A : Nat → Prop), (∀ x ∈ c.exceptionTable.toList, False) → cEx sa A s → cHas p l e s m below meth c A G y wy rm as ws own cc maxL ret (vx_MQ below (va_Qi post (fun u t => cB G A (wo u) t) A) (cXC G A ws px) as.toArray s rm.cells rm.slots A)) : cXI l G sa y wy rm as ws px post wo := by
  intro sz
  refine vx_ofW (cc := cc) (maxL := maxL) (ret := ret) hy hw ?_
  intro p e s m args below meth c s₁ B hml htb hv
  obtain ⟨rfl, ⟨hsz, hP, hK, hD0⟩, hE⟩ := hv
  have hts := atoms_spec (ws := wy) B.pre
  have hown' : s.vm.findClass y.cls = some m.cls := findClass_of_methodNamed B.named
  rw [hown] at hown'
  subst hsz
  have hl := lv_entry as (n := maxL) hlen
  rw [lg_entry_eq]
  exact body p e s m below meth c (va_A ws s.heap.size) htb hE B.exec B.bytes B.returns hml hts hown' B.notSynchronized (name_of_methodNamed B.named B.method).1 (fun q h => Or.inr h) hK hP hD0.self va_S.rf _ hl
section CSX
variable {p : Program} {l : Launch} {e : Env} {R : Room} {s : State} {m : MethodId} {args : Array Value} {below : List Frame} {meth : Method} {c : Code} {H H0 : Heap} {locs : List Loc} {cells slots mc ms : Nat} {Q : State → Prop}
variable {cc : ByteArray} {pc : Nat} {ls : Array Slot} {rest st0 : List Value} {A : Nat → Prop} {G : cG} {ws wc wr : va_W}
theorem cs_throw {Qc : Array Value → State → Outcome → State → Prop} {px : String → Prop} (hx : p.tables.exec = Jvm.exec) (hb : c.code = cc) (hl9 : l.stackTraces = false) {own cls text : String} {ik is ic : Nat} {sa : Nat → Nat}
    (hown : s.vm.findClass own = some m.cls) (hcls : Bundle.fit cls = true) (hnm : ∀ n ∈ nmsE, Bundle.fit n = true) (hk : (Cond.classLink own ik cls).before args s = true) (hini : (Cond.initialized cls).before args s = true) (hstr : vk_R own is text (sa is) s) (hat : ∀ w ∈ vx_atS own ic cls nmsE, w.before args s = true)
    (hgood : ∀ w ∈ Cond.classLink own ik cls :: Cond.initialized cls :: vx_atS own ic cls nmsE, vx_ot w = true) (hZ : cEx sa A s) (hS : va_S A s.heap H locs) (hsize : ls.size = c.maxLocals)
    (d0 : decode cc pc = .ok (.new ik, 3)) (d3 : decode cc (pc + 3) = .ok (.dup, 1)) (d4 : decode cc (pc + 4) = .ok (.ldc is, 2)) (d6 : decode cc (pc + 6) = .ok (.invokespecial ic, 3)) (d9 : decode cc (pc + 9) = .ok (.athrow, 1))
    (htb : ∀ x ∈ c.exceptionTable.toList, False) (hRf : 6 ≤ R.frames) (hRl : 82 ≤ R.locals) (hRc : cells + 1 ≤ R.cells) (hRs : slots + 6 ≤ R.slots) (hlocks : meth.locks = false)
    (hK : va_K G.1 vwCl (cTy G) s) (hP : va_P G.1 vwCl ws H) (hD : va_D A ws) (hpx : px cls) (hc : cells + 1 ≤ mc) (hs : slots + 6 ≤ ms) :
    W p l e R s m args below meth c H locs cells slots (vx_MQ below Qc (cXC G A ws px) args s mc ms A) (F0 m pc ls []) :=
  vx_throwS (names := nmsE) (text := text) (sa := sa is) (rest := []) hx hb hl9 hown hcls hnm hk hini hstr hat hgood hZ.1 hZ.2.1 hS hsize d0 d3 d4 d6 d9 (fun x h => (htb x h).elim) (by show 2 + 3 < R.frames; omega) (by show 0 + (13 * (2 + 1) + 43) ≤ R.locals; omega) hRc hRs hlocks
    (fun t hal hz hq => ⟨(), trivial, ⟨hpx, hP.kept (fun k q hk => hq q.1 (vx_lt hP hk)), va_K.moved hal hK, hD⟩, Nat.le_trans hS.1 hz, fun q h1 h2 => (hq q (Nat.lt_of_lt_of_le h1 hS.1)).trans (hS.2.1 q h1 h2)⟩)
    hS.2.2 hc hs
end CSX
