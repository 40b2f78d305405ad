/-! ===== the pool: all arrays that the law's own finder has made; what stands in L is never written again, what stands in R are the rules' rows ===== -/
def fI (G : cG) (P : List Nat) (f : Nat → va_E) (a n : Nat) (g : Nat → Int32) : Prop := a ∈ P ∧ ∃ h : Nat → Int32, f a = .inl (G.2.1, n, .inl h) ∧ ∀ j, j < n → h j = g j
def fR (gr : ClassId) (P : List Nat) (f : Nat → va_E) (a n : Nat) (r : Nat → Nat) : Prop := a ∈ P ∧ ∃ h : Nat → Option Nat, f a = .inl (gr, n, .inr (.inr (.inr (.inr h)))) ∧ ∀ j, j < n → h j = some (r j)
def pX (R L : List Nat) (f : Nat → va_E) (L' : List Nat) (f' : Nat → va_E) : Prop := (∀ a ∈ R, f' a = f a) ∧ ∀ a ∈ L, a ∈ L' ∧ f' a = f a
theorem pX.rf {R L : List Nat} {f : Nat → va_E} : pX R L f L f := ⟨fun _ _ => rfl, fun _ h => ⟨h, rfl⟩⟩
theorem pX.trans {R L L' L2 : List Nat} {f f' f2 : Nat → va_E} (h1 : pX R L f L' f') (h2 : pX R L' f' L2 f2) : pX R L f L2 f2 :=
  ⟨fun a h => (h2.1 a h).trans (h1.1 a h), fun a h => ⟨(h2.2 a (h1.2 a h).1).1, ((h2.2 a (h1.2 a h).1).2).trans (h1.2 a h).2⟩⟩
theorem fI.mono {G : cG} {R L L' : List Nat} {f f' : Nat → va_E} {a n : Nat} {g : Nat → Int32} (h : fI G L f a n g) (hx : pX R L f L' f') : fI G L' f' a n g := by
  obtain ⟨h1, h2, h3, h4⟩ := h
  exact ⟨(hx.2 a h1).1, h2, (hx.2 a h1).2.trans h3, h4⟩
theorem fR.mono {gr : ClassId} {R L L' : List Nat} {f f' : Nat → va_E} {a n : Nat} {r : Nat → Nat} (h : fR gr L f a n r) (hx : pX R L f L' f') : fR gr L' f' a n r := by
  obtain ⟨h1, h2, h3, h4⟩ := h
  exact ⟨(hx.2 a h1).1, h2, (hx.2 a h1).2.trans h3, h4⟩
theorem fI.monoR {G : cG} {R L L' : List Nat} {f f' : Nat → va_E} {a n : Nat} {g : Nat → Int32} (h : fI G R f a n g) (hx : pX R L f L' f') : fI G R f' a n g := by
  obtain ⟨h1, h2, h3, h4⟩ := h
  exact ⟨h1, h2, (hx.1 a h1).trans h3, h4⟩
theorem fI.monoP {G : cG} {R L L' : List Nat} {f f' : Nat → va_E} {a n : Nat} {g : Nat → Int32} (h : fI G (R ++ L) f a n g) (hx : pX R L f L' f') : fI G (R ++ L') f' a n g := by
  obtain ⟨h1, h2, h3, h4⟩ := h
  rcases List.mem_append.mp h1 with q | q
  · exact ⟨List.mem_append_left _ q, h2, (hx.1 a q).trans h3, h4⟩
  · exact ⟨List.mem_append_right _ (hx.2 a q).1, h2, (hx.2 a q).2.trans h3, h4⟩
theorem fI.l {G : cG} {L : List Nat} {f : Nat → va_E} {a n : Nat} {g : Nat → Int32} (R : List Nat) (h : fI G L f a n g) : fI G (R ++ L) f a n g := ⟨List.mem_append_right _ h.1, h.2⟩
theorem fI.r {G : cG} {R : List Nat} {f : Nat → va_E} {a n : Nat} {g : Nat → Int32} (L : List Nat) (h : fI G R f a n g) : fI G (R ++ L) f a n g := ⟨List.mem_append_left _ h.1, h.2⟩
theorem fR.l {gr : ClassId} {L : List Nat} {f : Nat → va_E} {a n : Nat} {r : Nat → Nat} (R : List Nat) (h : fR gr L f a n r) : fR gr (R ++ L) f a n r := ⟨List.mem_append_right _ h.1, h.2⟩
theorem fI.to {G : cG} {P : List Nat} {f : Nat → va_E} {a n : Nat} {g g' : Nat → Int32} (h : fI G P f a n g) (e : ∀ j, j < n → g j = g' j) : fI G P f a n g' := by
  obtain ⟨h1, h2, h3, h4⟩ := h
  exact ⟨h1, h2, h3, fun j hj => (h4 j hj).trans (e j hj)⟩
theorem fI.ton {G : cG} {P : List Nat} {f : Nat → va_E} {a n n' : Nat} {g g' : Nat → Int32} (h : fI G P f a n g) (hn : n = n') (e : ∀ j, j < n' → g j = g' j) : fI G P f a n' g' := by
  subst hn; exact h.to e
theorem fR.to {gr : ClassId} {P : List Nat} {f : Nat → va_E} {a n : Nat} {r r' : Nat → Nat} (h : fR gr P f a n r) (e : ∀ j, j < n → r j = r' j) : fR gr P f a n r' := by
  obtain ⟨h1, h2, h3, h4⟩ := h
  exact ⟨h1, h2, h3, fun j hj => (h4 j hj).trans (congrArg some (e j hj))⟩
/-- what the tables say of arrays of arrays -/
def pAO (U : State) : Prop := (Cond.arrayOver (.array .int)).before #[] U = true
theorem pAO.moved {u U : State} (hvm : u.vm.Alike U.vm) (h : pAO u) : pAO U := by
  obtain ⟨comp, c, k, h1, h2, h3, h4, h5⟩ := arrayOverA_spec h
  obtain ⟨k', hk', he⟩ := hvm.2.2 _ _ h3
  have hi : (U.vm.classes.findIdx? fun (x : Class) => match x.kind with | .array component _ => component == comp | _ => false) = some c := by
    rw [hvm.findIdx?_eq _ (fun _ => rfl)]
    exact h2
  have hkind : k'.kind = .array comp (.array .int) := by rw [he]; exact h4
  have f1 : U.vm.findClass (FieldType.array .int).toString = some comp := by rw [hvm.findClass]; exact h1
  have f2 : U.vm.findClass ("[" ++ (FieldType.array .int).toString) = some c := by rw [hvm.findClass]; exact h5
  unfold pAO Cond.before Cond.holds
  simp only [Cond.value]
  rw [f1, Option.bind_some]
  refine (congrArg (fun o : Option Nat => (o.bind (fun c => (U.vm.classes[c]?).map fun (k : Class) => match k.kind with | .array _ ty => decide (ty = FieldType.array .int) && decide (U.vm.findClass ("[" ++ (FieldType.array .int).toString) = some c) | _ => false) == some true)) hi).trans ?_
  simp [hk', hkind, f2]
def pQ (G : cG) (gr : ClassId) (U : State) : Prop := va_K G.1 vwCl [(gr, .array .int)] U ∧ pAO U
theorem pQ.moved {G : cG} {gr : ClassId} {u U : State} (hvm : u.vm.Alike U.vm) (h : pQ G gr u) : pQ G gr U := ⟨va_K.moved hvm h.1, pAO.moved hvm h.2⟩
def pPre (G : cG) (gr : ClassId) (sa : Nat → Nat) (sz : Nat) (ws : va_W) (U : State) : Prop := (cPreX G sa sz ws U ∧ va_Nc eIO eIS U) ∧ pQ G gr U
def pMI (l : Launch) (G : cG) (gr : ClassId) (sa : Nat → Nat) (y : MethodName) (wy : List Cond) (rm : Room) (as : List Value) (ws : va_W) {S : Type} (post : Int32 → S → Prop) (wo : S → va_W) : Prop :=
  ∀ sz : Nat, Met l y wy rm (va_Pc as (pPre G gr sa sz ws)) (va_Qi post (fun u t => cB G (va_A ws sz) (wo u) t) (va_A ws sz)) rm.cells rm.slots (va_A ws sz)
def pMV (l : Launch) (G : cG) (gr : ClassId) (sa : Nat → Nat) (y : MethodName) (wy : List Cond) (rm : Room) (as : List Value) (ws : va_W) {S : Type} (post : S → Prop) (wo : S → va_W) : Prop :=
  ∀ sz : Nat, Met l y wy rm (va_Pc as (pPre G gr sa sz ws)) (va_Qv post (fun u t => cB G (va_A ws sz) (wo u) t) (va_A ws sz)) rm.cells rm.slots (va_A ws sz)
def pQr {S : Type} (G : cG) (A : Nat → Prop) (post : Nat → S → Prop) (wo : S → va_W) : Array Value → State → Outcome → State → Prop := va_Qr (S := Nat × S) (fun u => post u.1 u.2) (fun u a t => a = u.1 ∧ cB G A (wo u.2) t) A
def pMR (l : Launch) (G : cG) (gr : ClassId) (sa : Nat → Nat) (y : MethodName) (wy : List Cond) (rm : Room) (as : List Value) (ws : va_W) {S : Type} (post : Nat → S → Prop) (wo : S → va_W) : Prop :=
  ∀ sz : Nat, Met l y wy rm (va_Pc as (pPre G gr sa sz ws)) (pQr G (va_A ws sz) post wo) rm.cells rm.slots (va_A ws sz)
theorem pPre_blind (as : List Value) (G : cG) (gr : ClassId) (sa : Nat → Nat) (sz : Nat) (ws : va_W) : FrameBlind (va_Pc as (pPre G gr sa sz ws)) := fun a U g mk q => by
  obtain ⟨q0, ⟨qX, qN⟩, qQ⟩ := q
  obtain ⟨-, q1⟩ := cPreX_blind as G sa sz ws a U g mk ⟨q0, qX⟩
  exact ⟨q0, ⟨q1, va_Nc.moved (u := U) (U := U.calling g mk a) (Vm.Alike.refl U.vm) qN⟩, pQ.moved (u := U) (U := U.calling g mk a) (Vm.Alike.refl U.vm) qQ⟩
/-- what every walk over a pool has at hand -/
abbrev pHas (p : Program) (l : Launch) (e : Env) (s : State) (m : MethodId) (below : List Frame) (meth : Method) (c : Code) (A : Nat → Prop) (G : cG) (gr : ClassId) (sa : Nat → Nat) (y : MethodName) (wy : List Cond) (rm : Room) (as : List Value) (ws : va_W) (own : String) (cc : ByteArray) (maxL : Nat) (ret : Option FieldType) (Q : State → Prop) : Prop :=
  cEx sa A s → va_Nc eIO eIS s → pQ G gr s → cHas p l e s m below meth c A G y wy rm as ws own cc maxL ret Q
theorem p_in {j n : Nat} (h : j < n) (h2 : j < 2 ^ 31) : vp_in (nI j) n := by
  unfold vp_in
  rw [nI_lt0 h2, nI_clamp h2]
  omega
theorem p_asg (vm : Vm) (c : ClassId) : vm.assignable c c = true := by
  show vm.assignableAux (255 + 1) c c = true
  unfold Vm.assignableAux
  rw [show (c == c) = true from beq_self_eq_true c]
  rfl
section PS
variable {l : Launch} {G : cG} {gr : ClassId} {sa : Nat → Nat} {y : MethodName} {wy wy' : List Cond} {rm : Room} {as : List Value} {ws : va_W} {S : Type} {wo : S → va_W} {own : String} {cc : ByteArray} {maxL : Nat} {ret : Option FieldType}
theorem ps_I {post : Int32 → S → Prop} (hy : plainName y.cls = true) (hown : y.cls = own) (hw : wy = Cond.code y cc maxL ret :: wy') (hlen : (lg_sl as).length ≤ maxL)
    (body : ∀ (p : Program) (e : Env) (s : State) (m : MethodId) (below : List Frame) (meth : Method) (c : Code) (A : Nat → Prop), pHas p l e s m below meth c A G gr sa y wy rm as ws own cc maxL ret (MQ below (va_Qi post (fun u t => cB G A (wo u) t) A) as.toArray s rm.cells rm.slots A)) : pMI l G gr sa y wy rm as ws post wo := by
  intro sz
  refine Met.ofW (cc := cc) (maxL := maxL) (ret := ret) hy hw ?_
  intro p e s m args below meth c s₁ B hml hv
  obtain ⟨rfl, ⟨⟨⟨hsz, hP, hK, hD0⟩, hE⟩, hN⟩, hQ⟩ := hv
  have hts := atoms_spec (ws := wy) B.pre
  have hown' : s.vm.findClass y.cls = some m.cls := findClass_of_methodNamed B.named
  rw [hown] at hown'
  subst hsz
  have hl := lv_entry as (n := maxL) hlen
  rw [lg_entry_eq]
  exact body p e s m below meth c (va_A ws s.heap.size) hE hN hQ B.exec B.bytes B.returns hml hts hown' B.notSynchronized (name_of_methodNamed B.named B.method).1 (fun q h => Or.inr h) hK hP hD0.self va_S.rf _ hl
theorem ps_V {post : S → Prop} (hy : plainName y.cls = true) (hown : y.cls = own) (hw : wy = Cond.code y cc maxL ret :: wy') (hlen : (lg_sl as).length ≤ maxL)
    (body : ∀ (p : Program) (e : Env) (s : State) (m : MethodId) (below : List Frame) (meth : Method) (c : Code) (A : Nat → Prop), pHas p l e s m below meth c A G gr sa y wy rm as ws own cc maxL ret (MQ below (va_Qv post (fun u t => cB G A (wo u) t) A) as.toArray s rm.cells rm.slots A)) : pMV l G gr sa y wy rm as ws post wo := by
  intro sz
  refine Met.ofW (cc := cc) (maxL := maxL) (ret := ret) hy hw ?_
  intro p e s m args below meth c s₁ B hml hv
  obtain ⟨rfl, ⟨⟨⟨hsz, hP, hK, hD0⟩, hE⟩, hN⟩, hQ⟩ := hv
  have hts := atoms_spec (ws := wy) B.pre
  have hown' : s.vm.findClass y.cls = some m.cls := findClass_of_methodNamed B.named
  rw [hown] at hown'
  subst hsz
  have hl := lv_entry as (n := maxL) hlen
  rw [lg_entry_eq]
  exact body p e s m below meth c (va_A ws s.heap.size) hE hN hQ B.exec B.bytes B.returns hml hts hown' B.notSynchronized (name_of_methodNamed B.named B.method).1 (fun q h => Or.inr h) hK hP hD0.self va_S.rf _ hl
theorem ps_R {post : Nat → S → Prop} (hy : plainName y.cls = true) (hown : y.cls = own) (hw : wy = Cond.code y cc maxL ret :: wy') (hlen : (lg_sl as).length ≤ maxL)
    (body : ∀ (p : Program) (e : Env) (s : State) (m : MethodId) (below : List Frame) (meth : Method) (c : Code) (A : Nat → Prop), pHas p l e s m below meth c A G gr sa y wy rm as ws own cc maxL ret (MQ below (pQr G A post wo) as.toArray s rm.cells rm.slots A)) : pMR l G gr sa y wy rm as ws post wo := by
  intro sz
  refine Met.ofW (cc := cc) (maxL := maxL) (ret := ret) hy hw ?_
  intro p e s m args below meth c s₁ B hml hv
  obtain ⟨rfl, ⟨⟨⟨hsz, hP, hK, hD0⟩, hE⟩, hN⟩, hQ⟩ := hv
  have hts := atoms_spec (ws := wy) B.pre
  have hown' : s.vm.findClass y.cls = some m.cls := findClass_of_methodNamed B.named
  rw [hown] at hown'
  subst hsz
  have hl := lv_entry as (n := maxL) hlen
  rw [lg_entry_eq]
  exact body p e s m below meth c (va_A ws s.heap.size) hE hN hQ B.exec B.bytes B.returns hml hts hown' B.notSynchronized (name_of_methodNamed B.named B.method).1 (fun q h => Or.inr h) hK hP hD0.self va_S.rf _ hl
end PS
section PR
variable {p : Program} {l : Launch} {e : Env} {R : Room} {s : State} {m : MethodId} {args : Array Value} {below : List Frame} {meth : Method} {c : Code} {H H0 : Heap} {locs : List Loc} {cells slots : Nat} {Q : State → Prop}
variable {cc : ByteArray} {pc : Nat} {ls : Array Slot} {rest st0 : List Value} {A : Nat → Prop} {G : cG} {gr : ClassId} {ws wc wr X : va_W} {P L RR : List Nat} {f : Nat → va_E} {a n : Nat}
theorem p_iald (hx : p.tables.exec = Jvm.exec) (hb : c.code = cc) (hK : va_K G.1 vwCl (cTy G) s) (hP : va_P G.1 vwCl (X ++ va_pl P f) H) {g : Nat → Int32} (hI : fI G P f a n g) {i : Int32} {j : Nat} (hi : i = nI j) (hj : j < n) (hj2 : j < 2 ^ 31) {v : Int32} (hv : g j = v) (hdg : decode cc pc = .ok (.iaload, 1))
    (kk : W p l e R s m args below meth c H locs cells slots Q (F0 m (pc + 1) ls (.int v :: rest))) : W p l e R s m args below meth c H locs cells slots Q (F0 m pc ls (.int i :: .ref a :: rest)) := by
  obtain ⟨h1, h, h2, h3⟩ := hI
  obtain ⟨k, hk⟩ := va_pl_get (X := X) (f := f) h1
  rw [h2] at hk
  subst hi
  refine va_iald hx hb hK hP k 0 hk rfl (p_in hj hj2) hdg ?_
  rw [nI_clamp hj2, h3 j hj, hv]
  exact kk
theorem p_ilen (hx : p.tables.exec = Jvm.exec) (hb : c.code = cc) (hK : va_K G.1 vwCl (cTy G) s) (hP : va_P G.1 vwCl (X ++ va_pl P f) H) {g : Nat → Int32} (hI : fI G P f a n g) (hdg : decode cc pc = .ok (.arraylength, 1))
    (kk : W p l e R s m args below meth c H locs cells slots Q (F0 m (pc + 1) ls (.int (nI n) :: rest))) : W p l e R s m args below meth c H locs cells slots Q (F0 m pc ls (.ref a :: rest)) := by
  obtain ⟨h1, h, h2, h3⟩ := hI
  obtain ⟨k, hk⟩ := va_pl_get (X := X) (f := f) h1
  rw [h2] at hk
  exact va_alen hx hb hK hP k 0 hk rfl (v := nI n) rfl hdg kk
theorem p_rlen (hx : p.tables.exec = Jvm.exec) (hb : c.code = cc) (hQ : pQ G gr s) (hP : va_P G.1 vwCl (X ++ va_pl P f) H) {r : Nat → Nat} (hI : fR gr P f a n r) (hdg : decode cc pc = .ok (.arraylength, 1))
    (kk : W p l e R s m args below meth c H locs cells slots Q (F0 m (pc + 1) ls (.int (nI n) :: rest))) : W p l e R s m args below meth c H locs cells slots Q (F0 m pc ls (.ref a :: rest)) := by
  obtain ⟨h1, h, h2, h3⟩ := hI
  obtain ⟨k, hk⟩ := va_pl_get (X := X) (f := f) h1
  rw [h2] at hk
  exact va_alen hx hb hQ.1 hP k 0 hk rfl (v := nI n) rfl hdg kk
theorem p_aald (hx : p.tables.exec = Jvm.exec) (hb : c.code = cc) (hQ : pQ G gr s) (hP : va_P G.1 vwCl (X ++ va_pl P f) H) {r : Nat → Nat} (hI : fR gr P f a n r) {i : Int32} {j : Nat} (hi : i = nI j) (hj : j < n) (hj2 : j < 2 ^ 31) {v : Nat} (hv : r j = v) (hdg : decode cc pc = .ok (.aaload, 1))
    (kk : W p l e R s m args below meth c H locs cells slots Q (F0 m (pc + 1) ls (.ref v :: rest))) : W p l e R s m args below meth c H locs cells slots Q (F0 m pc ls (.int i :: .ref a :: rest)) := by
  obtain ⟨h1, h, h2, h3⟩ := hI
  obtain ⟨k, hk⟩ := va_pl_get (X := X) (f := f) h1
  rw [h2] at hk
  subst hi
  have e1 : va_rf (h (nI j).toNatClampNeg) = .ref v := by rw [nI_clamp hj2, h3 j hj, hv]; rfl
  refine W.aald (v := .ref v) (ty := .array .int) hx hb (hP k _ hk) ((hQ.1.2 0 _ rfl).1 n (fun j => va_rf (h j))) rfl (fun q => by cases q) (by show ¬ (_ ∨ (arrV _ _ _).slots.size ≤ _); rw [arrV_size]; exact p_in hj hj2) ?_ rfl rfl hdg kk
  show (arrV _ _ _).slots[_]? = _
  rw [arrV_read _ _ (by rw [nI_clamp hj2]; exact hj), e1]
theorem p_newI (hx : p.tables.exec = Jvm.exec) (hb : c.code = cc) (harr : (Cond.arrayClass .int).before args s = true) (hK : va_K G.1 vwCl (cTy G) s) (hP : va_P G.1 vwCl (X ++ va_pl P f) H) (hD : va_D A (X ++ va_pl P f)) (hS : va_S A H0 H locs) (hA : ∀ q, H0.size ≤ q → A q)
    {k : Int32} {N' : Nat} (hk : k = nI N') (hN : N' < 1000000) (hcells : cells + 1 ≤ R.cells) (hslots : slots + N' ≤ R.slots) (hdg : decode cc pc = .ok (.newarray .int, 2))
    (kk : ∀ (q : Nat) (H1 : Heap), va_P G.1 vwCl ((X ++ [(q, .inl (G.2.1, N', .inl (nF (fun _ => 0))))]) ++ va_pl P f) H1 → va_D A ((X ++ [(q, .inl (G.2.1, N', .inl (nF (fun _ => 0))))]) ++ va_pl P f) → va_S A H0 H1 locs → W p l e R s m args below meth c H1 locs (cells + 1) (slots + N') Q (F0 m (pc + 2) ls (.ref q :: rest))) :
    W p l e R s m args below meth c H locs cells slots Q (F0 m pc ls (.int k :: rest)) := by
  subst hk
  refine va_newa (atype := .int) (ty := .int) (a0 := (N', .inl (nF (fun _ => 0)))) hx hb harr rfl hK hP hD hS hA (fun cA => rfl) (by rw [nI_lt0 (by omega)]; omega) (nI_clamp (by omega)) (by show N' * 4 ≤ 536870912; omega) hcells hslots hdg (fun q cA H1 hK1 hP1 hD1 hS1 => ?_)
  have e1 : s.vm.findClass ("[" ++ (FieldType.int).toString) = some cA := (hK1.2 2 (cA, .int) rfl).2
  have e2 : s.vm.findClass ("[" ++ (FieldType.int).toString) = some G.2.1 := (hK.2 0 (G.2.1, .int) rfl).2
  have e3 : cA = G.2.1 := Option.some.inj (e1.symm.trans e2)
  rw [e3] at hP1 hD1
  exact kk q H1 hP1.swap hD1.swap hS1
theorem p_newR (hx : p.tables.exec = Jvm.exec) (hb : c.code = cc) {own : String} {index : Nat} (hown : s.vm.findClass own = some m.cls) (hcl : (Cond.classLink own index "[I").before args s = true) (hQ : pQ G gr s) (hP : va_P G.1 vwCl (X ++ va_pl P f) H) (hD : va_D A (X ++ va_pl P f)) (hS : va_S A H0 H locs) (hA : ∀ q, H0.size ≤ q → A q)
    {k : Int32} {N' : Nat} (hk : k = nI N') (hN : N' < 1000000) (hcells : cells + 1 ≤ R.cells) (hslots : slots + N' ≤ R.slots) (hdg : decode cc pc = .ok (.anewarray index, 3))
    (kk : ∀ (q : Nat) (H1 : Heap), va_P G.1 vwCl ((X ++ [(q, .inl (gr, N', .inr (.inr (.inr (.inr (fun _ => none))))))]) ++ va_pl P f) H1 → va_D A ((X ++ [(q, .inl (gr, N', .inr (.inr (.inr (.inr (fun _ => none))))))]) ++ va_pl P f) → va_S A H0 H1 locs → W p l e R s m args below meth c H1 locs (cells + 1) (slots + N') Q (F0 m (pc + 3) ls (.ref q :: rest))) :
    W p l e R s m args below meth c H locs cells slots Q (F0 m pc ls (.int k :: rest)) := by
  subst hk
  have hc : (nI N').toNatClampNeg = N' := nI_clamp (by omega)
  refine W.anewA (t := .int) hx hb hown hcl (show (Cond.arrayOver (.array .int)).before args s = true from hQ.2) rfl hdg rfl (by rw [nI_lt0 (by omega)]; omega) (by rw [hc]; omega) hcells (by rw [hc]; exact hslots) fun cA kA comp f1 f2 f3 f4 => ?_
  rw [hc]
  have e2 : s.vm.findClass ("[" ++ (FieldType.array .int).toString) = some gr := (hQ.1.2 0 (gr, .array .int) rfl).2
  have e3 : cA = gr := Option.some.inj (f1.symm.trans e2)
  subst e3
  generalize hH1 : H.push ({ cls := cA, slots := Array.replicate N' .null, vm := .none } : Cell) = H1
  have z1 : H1.size = H.size + 1 := by rw [← hH1, Array.size_push]
  have e1 : H1[H.size]? = some (arrV cA N' (fun _ => .null)) := by rw [← hH1, Array.getElem?_push_size, ← arrV_new]
  have o1 : ∀ q : Nat, q < H.size → H1[q]? = H[q]? := fun q hq => by rw [← hH1, Array.getElem?_push, if_neg (Nat.ne_of_lt hq)]
  have hk : ∀ (k : Nat) (x : Nat × va_E), (X ++ va_pl P f)[k]? = some x → H1[x.1]? = H[x.1]? := fun k x hx => o1 x.1 ((hP k x hx).lt)
  have hP1 : va_P G.1 vwCl ((X ++ va_pl P f) ++ [(H.size, .inl (cA, N', .inr (.inr (.inr (.inr (fun _ => none))))))]) H1 := (hP.kept hk).app (fun k x hx => by
    have hz : k < 1 := (List.getElem?_eq_some_iff.mp hx).1
    rw [show k = 0 by omega] at hx
    cases hx
    show H1[H.size]? = some (vp_cell _ _)
    rw [vp_cell_q]
    exact e1)
  exact kk H.size H1 hP1.swap (hD.push hP rfl (hA _ hS.1)).swap ⟨Nat.le_trans hS.1 (by omega), fun x h1 h2 => (o1 x (Nat.lt_of_lt_of_le h1 hS.1)).trans (hS.2.1 x h1 h2), hS.2.2⟩
theorem p_aast (hx : p.tables.exec = Jvm.exec) (hb : c.code = cc) (hK : va_K G.1 vwCl (cTy G) s) (hQ : pQ G gr s) (hP : va_P G.1 vwCl (X ++ va_pl P f) H) (hD : va_D A (X ++ va_pl P f)) (hS : va_S A H0 H locs) (q0 : Nat) {N : Nat} {h : Nat → Option Nat} (ha : (X ++ va_pl P f)[q0]? = some (a, .inl (gr, N, .inr (.inr (.inr (.inr h))))))
    {b nb : Nat} {g : Nat → Int32} (hI : fI G P f b nb g) {i : Int32} {j : Nat} (hi : i = nI j) (hj : j < N) (hj2 : j < 2 ^ 31) (hdg : decode cc pc = .ok (.aastore, 1))
    (kk : ∀ (H1 : Heap) (locs1 : List Loc), va_P G.1 vwCl ((X ++ va_pl P f).set q0 (a, .inl (gr, N, .inr (.inr (.inr (.inr (va_up h j (some b)))))))) H1 → va_D A ((X ++ va_pl P f).set q0 (a, .inl (gr, N, .inr (.inr (.inr (.inr (va_up h j (some b)))))))) → va_S A H0 H1 locs1 → W p l e R s m args below meth c H1 locs1 cells slots Q (F0 m (pc + 1) ls rest)) :
    W p l e R s m args below meth c H locs cells slots Q (F0 m pc ls (.ref b :: .int i :: .ref a :: rest)) := by
  obtain ⟨h1, hb2, h2, -⟩ := hI
  obtain ⟨k, hk⟩ := va_pl_get (X := X) (f := f) h1
  rw [h2] at hk
  subst hi
  have hc : (nI j).toNatClampNeg = j := nI_clamp hj2
  obtain ⟨comp, cA, kA, k1, k2, k3, k4, k5⟩ := arrayOverA_spec hQ.2
  have e2 : s.vm.findClass ("[" ++ (FieldType.array .int).toString) = some gr := (hQ.1.2 0 (gr, .array .int) rfl).2
  have e3 : cA = gr := Option.some.inj (k5.symm.trans e2)
  subst e3
  have e4 : s.vm.findClass ("[" ++ (FieldType.int).toString) = some G.2.1 := (hK.2 0 (G.2.1, .int) rfl).2
  have e5 : comp = G.2.1 := Option.some.inj (k1.symm.trans e4)
  subst e5
  obtain ⟨kC, hkC, -⟩ := Vm.findClass_spec k1
  have hv := hP k _ hk
  refine W.aast (t := .array .int) hx hb (hP q0 _ ha) (fun q h => by cases h) (fun h => by cases h) k3 k4 rfl hkC ⟨by rw [nI_lt0 hj2]; omega, by show _ < (arrV _ _ _).slots.size; rw [arrV_size, hc]; exact hj⟩ hv (fun q h => by cases h) hkC (p_asg _ _) rfl rfl hdg fun H1 e z oq => ?_
  refine kk H1 _ (hP.set hD ha ?_ oq) (hD.set ha) (hS.put z oq (hD.2 q0 _ ha))
  show H1[a]? = some (vp_cell _ _)
  rw [e, hc]
  rw [vp_cell_q, vp_cell_q, arrV_store]
  congr 2
  funext q
  by_cases hq : q = j
  · subst hq
    simp [updV, va_up, va_rf]
  · simp [updV, va_up, hq]
/-- what is made goes into the pool -/
theorem p_frz {q : Nat} {E : va_E} (hP : va_P G.1 vwCl ((X ++ [(q, E)]) ++ va_pl (RR ++ L) f) H) (hD : va_D A ((X ++ [(q, E)]) ++ va_pl (RR ++ L) f)) :
    va_P G.1 vwCl (X ++ va_pl (RR ++ (L ++ [q])) (va_up f q E)) H ∧ va_D A (X ++ va_pl (RR ++ (L ++ [q])) (va_up f q E)) ∧ pX RR L f (L ++ [q]) (va_up f q E) ∧ q ∈ L ++ [q] ∧ va_up f q E q = E := by
  have hn : q ∉ RR ++ L := va_pl_fresh2 hD.swap
  have e : (X ++ va_pl (RR ++ L) f) ++ [(q, E)] = X ++ va_pl (RR ++ (L ++ [q])) (va_up f q E) := by
    rw [List.append_assoc, va_pl_push hn, List.append_assoc]
  refine ⟨by rw [← e]; exact hP.swap, by rw [← e]; exact hD.swap, ⟨fun a ha => va_up_ne _ _ (fun z => hn (z ▸ List.mem_append_left _ ha)), fun a ha => ⟨List.mem_append_left _ ha, va_up_ne _ _ (fun z => hn (z ▸ List.mem_append_right _ ha))⟩⟩, List.mem_append_right _ (List.mem_singleton.mpr rfl), va_up_self _ _ _⟩
theorem p_aret {S : Type} {post : Nat → S → Prop} {wo : S → va_W} {rt : FieldType} (hx : p.tables.exec = Jvm.exec) (hb : c.code = cc) (hr : meth.sig.returnType = some rt) (hrt : ∃ t, rt = .array t) (hlocks : meth.locks = false) (hK : va_K G.1 vwCl (cTy G) s) (hP : va_P G.1 vwCl ws H) (hD : va_D A ws) (hS : va_S A s.heap H locs) {v : Nat} (u : S) (hp : post v u) (hwo : wo u = ws) (hdg : decode cc pc = .ok (.areturn, 1)) :
    W p l e R s m args below meth c H locs cells slots (MQ below (pQr G A post wo) args s cells slots A) (F0 m pc ls [.ref v]) :=
  W.aret hx hb hr (Or.inr hrt) (Or.inr ⟨v, rfl⟩) (fun t ht hW => ⟨⟨(v, u), v, rfl, hp, rfl, by show cB G A (wo u) t; rw [hwo]; exact ⟨by rw [ht]; exact hP, va_K.moved hW.alike hK, hD⟩⟩, hS.F ht⟩) hS.2.2 hdg hlocks
/-- a loop whose turns make cells -/
theorem p_loop {nL : Nat} {σ : Type} (μ : σ → Nat) (inv : σ → Prop) (wf : σ → va_W) (lv : σ → List (Nat × Value)) (cf sf : σ → Nat)
    (step : ∀ x : σ, inv x → (∀ y : σ, μ y < μ x → inv y → ∀ (H : Heap) (locs : List Loc) (ls : Array Slot), va_P G.1 vwCl (wf y) H → va_D A (wf y) → va_S A H0 H locs → lv_has ls nL (lv y) → W p l e R s m args below meth c H locs (cf y) (sf y) Q (F0 m pc ls [])) →
      ∀ (H : Heap) (locs : List Loc) (ls : Array Slot), va_P G.1 vwCl (wf x) H → va_D A (wf x) → va_S A H0 H locs → lv_has ls nL (lv x) → W p l e R s m args below meth c H locs (cf x) (sf x) Q (F0 m pc ls []))
    (x0 : σ) (h0 : inv x0) (hc : cells ≤ cf x0) (hs : slots ≤ sf x0) (hP : va_P G.1 vwCl (wf x0) H) (hD : va_D A (wf x0)) (hS : va_S A H0 H locs) (hl : lv_has ls nL (lv x0)) : W p l e R s m args below meth c H locs cells slots Q (F0 m pc ls []) := by
  have key : ∀ (n : Nat) (x : σ), μ x < n → inv x → ∀ (H : Heap) (locs : List Loc) (ls : Array Slot), va_P G.1 vwCl (wf x) H → va_D A (wf x) → va_S A H0 H locs → lv_has ls nL (lv x) → W p l e R s m args below meth c H locs (cf x) (sf x) Q (F0 m pc ls []) := by
    intro n
    induction n with
    | zero => intro x h; exact absurd h (Nat.not_lt_zero _)
    | succ n ih => intro x hx hi; exact step x hi (fun y hy hiy => ih y (by omega) hiy)
  refine W.widen hc hs ?_
  exact key (μ x0 + 1) x0 (Nat.lt_succ_self _) h0 H locs ls hP hD hS hl
variable {nL index na : Nat} {own C : String} {Ts wy : List Cond} {y : MethodName} {bytes : ByteArray} {maxL : Nat} {ret : Option FieldType} {rm : Room} {b : Nat} {As : List Value} {cx : va_W} {sa : Nat → Nat}
abbrev pCut (X cx wr : va_W) (isC isR : List Nat) : Prop := isC.map (fun i => X[i]?) = cx.map some ∧ isR.map (fun i => X[i]?) = wr.map some ∧ va_nd isC = true ∧ va_nd isR = true ∧ ∀ i ∈ isR, i ∉ isC
theorem p_vi {S : Type} {post : Int32 → S → Prop} {wo : S → va_W} (Sf : CallFix p m c cc nL s args Ts own) (hK : va_K G.1 vwCl (cTy G) s) (hQ : pQ G gr s) (hP : va_P G.1 vwCl (X ++ va_pl P f) H) (hD : va_D A (X ++ va_pl P f)) (hS : va_S A s.heap H locs) (hA : ∀ q, s.heap.size ≤ q → A q) (hZ : cEx sa A s) (hN : va_Nc eIO eIS s)
    (hM : pMI l G gr sa y wy rm (.ref b :: As) (cx ++ va_pl P f) post wo) (cw : CallW R s args own C index y bytes maxL ret wy rm rm.cells rm.slots na) (isC isR : List Nat) (hcut : pCut X cx wr isC isR)
    (q0 ci : Nat) {fs : List Value} {T : u_T} {N : Nat} (he : (X ++ va_pl P f)[q0]? = some (b, .inr (ci, fs))) (hc : vwCl[ci]? = some (C, T, N)) (hn : As.length = na) (hsize : ls.size = nL) (hst : st0 = As.reverse ++ .ref b :: rest) (hW : (rest.map fun v => v.category).sum ≤ 8)
    (hf : cells + rm.cells ≤ R.cells ∧ slots + rm.slots ≤ R.slots) (hdg : decode cc pc = .ok (.invokevirtual index, 3))
    (kk : ∀ (r : Int32) (u : S) (H1 : Heap) (locs1 : List Loc), post r u → va_P G.1 vwCl (wr ++ wo u) H1 → va_D A (wr ++ wo u) → va_S A s.heap H1 locs1 → W p l e R s m args below meth c H1 locs1 (cells + rm.cells) (slots + rm.slots) Q (F0 m (pc + 3) ls (.int r :: rest))) :
    W p l e R s m args below meth c H locs cells slots Q (F0 m pc ls st0) := by
  obtain ⟨hC, hR, hn1, hn2, hdis⟩ := hcut
  have hPc := hP.part isC hC
  have hDc := hD.part isC hn1 hC
  have hFc := va_freeP hD hS hA isC hC
  refine va_calli (va_runV (As := As) (rest := rest) Sf (hM H.size) cw ⟨pPre_blind _ _ _ _ _ _, va_recv hK hP hc he, fun U hU hW => ⟨rfl, ⟨⟨⟨by rw [hU], by rw [hU]; exact hPc, va_K.moved hW.alike hK, hDc.weaken (fun _ _ _ _ => trivial)⟩, hZ.at hW hS hU hFc⟩, va_Nc.moved hW.alike hN⟩, pQ.moved hW.alike hQ⟩⟩ rfl hn hsize hst (lv_room hW) hdg hf) hS (fun q _ h => hFc q h) hFc (fun r u t H1 locs1 ht hvm hw hB hz1 hk1 hS => ?_)
  obtain ⟨hP1, hK1, hD1⟩ := hB
  rw [ht] at hP1
  obtain ⟨hP2, hD2⟩ := va_joinP (rx := []) hP hD isC isR hC hR hn2 hdis hk1 hFc hP1 hD1
  rw [List.append_nil] at hP2 hD2
  exact kk r u H1 locs1 hw hP2 hD2 hS
theorem p_vv {S : Type} {post : S → Prop} {wo : S → va_W} (Sf : CallFix p m c cc nL s args Ts own) (hK : va_K G.1 vwCl (cTy G) s) (hQ : pQ G gr s) (hP : va_P G.1 vwCl (X ++ va_pl P f) H) (hD : va_D A (X ++ va_pl P f)) (hS : va_S A s.heap H locs) (hA : ∀ q, s.heap.size ≤ q → A q) (hZ : cEx sa A s) (hN : va_Nc eIO eIS s)
    (hM : pMV l G gr sa y wy rm (.ref b :: As) (cx ++ va_pl P f) post wo) (cw : CallW R s args own C index y bytes maxL ret wy rm rm.cells rm.slots na) (isC isR : List Nat) (hcut : pCut X cx wr isC isR)
    (q0 ci : Nat) {fs : List Value} {T : u_T} {N : Nat} (he : (X ++ va_pl P f)[q0]? = some (b, .inr (ci, fs))) (hc : vwCl[ci]? = some (C, T, N)) (hn : As.length = na) (hsize : ls.size = nL) (hst : st0 = As.reverse ++ .ref b :: rest) (hW : (rest.map fun v => v.category).sum ≤ 8)
    (hf : cells + rm.cells ≤ R.cells ∧ slots + rm.slots ≤ R.slots) (hdg : decode cc pc = .ok (.invokevirtual index, 3))
    (kk : ∀ (u : S) (H1 : Heap) (locs1 : List Loc), post u → va_P G.1 vwCl (wr ++ wo u) H1 → va_D A (wr ++ wo u) → va_S A s.heap H1 locs1 → W p l e R s m args below meth c H1 locs1 (cells + rm.cells) (slots + rm.slots) Q (F0 m (pc + 3) ls rest)) :
    W p l e R s m args below meth c H locs cells slots Q (F0 m pc ls st0) := by
  obtain ⟨hC, hR, hn1, hn2, hdis⟩ := hcut
  have hPc := hP.part isC hC
  have hDc := hD.part isC hn1 hC
  have hFc := va_freeP hD hS hA isC hC
  refine va_callv (va_runV (As := As) (rest := rest) Sf (hM H.size) cw ⟨pPre_blind _ _ _ _ _ _, va_recv hK hP hc he, fun U hU hW => ⟨rfl, ⟨⟨⟨by rw [hU], by rw [hU]; exact hPc, va_K.moved hW.alike hK, hDc.weaken (fun _ _ _ _ => trivial)⟩, hZ.at hW hS hU hFc⟩, va_Nc.moved hW.alike hN⟩, pQ.moved hW.alike hQ⟩⟩ rfl hn hsize hst (lv_room hW) hdg hf) hS (fun q _ h => hFc q h) hFc (fun u t H1 locs1 ht hvm hw hB hz1 hk1 hS => ?_)
  obtain ⟨hP1, hK1, hD1⟩ := hB
  rw [ht] at hP1
  obtain ⟨hP2, hD2⟩ := va_joinP (rx := []) hP hD isC isR hC hR hn2 hdis hk1 hFc hP1 hD1
  rw [List.append_nil] at hP2 hD2
  exact kk u H1 locs1 hw hP2 hD2 hS
theorem p_vr {S : Type} {post : Nat → S → Prop} {wo : S → va_W} (Sf : CallFix p m c cc nL s args Ts own) (hK : va_K G.1 vwCl (cTy G) s) (hQ : pQ G gr s) (hP : va_P G.1 vwCl (X ++ va_pl P f) H) (hD : va_D A (X ++ va_pl P f)) (hS : va_S A s.heap H locs) (hA : ∀ q, s.heap.size ≤ q → A q) (hZ : cEx sa A s) (hN : va_Nc eIO eIS s)
    (hM : pMR l G gr sa y wy rm (.ref b :: As) (cx ++ va_pl P f) post wo) (cw : CallW R s args own C index y bytes maxL ret wy rm rm.cells rm.slots na) (isC isR : List Nat) (hcut : pCut X cx wr isC isR)
    (q0 ci : Nat) {fs : List Value} {T : u_T} {N : Nat} (he : (X ++ va_pl P f)[q0]? = some (b, .inr (ci, fs))) (hc : vwCl[ci]? = some (C, T, N)) (hn : As.length = na) (hsize : ls.size = nL) (hst : st0 = As.reverse ++ .ref b :: rest) (hW : (rest.map fun v => v.category).sum ≤ 8)
    (hf : cells + rm.cells ≤ R.cells ∧ slots + rm.slots ≤ R.slots) (hdg : decode cc pc = .ok (.invokevirtual index, 3))
    (kk : ∀ (r : Nat) (u : S) (H1 : Heap) (locs1 : List Loc), post r u → va_P G.1 vwCl (wr ++ wo u) H1 → va_D A (wr ++ wo u) → va_S A s.heap H1 locs1 → W p l e R s m args below meth c H1 locs1 (cells + rm.cells) (slots + rm.slots) Q (F0 m (pc + 3) ls (.ref r :: rest))) :
    W p l e R s m args below meth c H locs cells slots Q (F0 m pc ls st0) := by
  obtain ⟨hC, hR, hn1, hn2, hdis⟩ := hcut
  have hPc := hP.part isC hC
  have hDc := hD.part isC hn1 hC
  have hFc := va_freeP hD hS hA isC hC
  refine va_callr (va_runV (As := As) (rest := rest) Sf (hM H.size) cw ⟨pPre_blind _ _ _ _ _ _, va_recv hK hP hc he, fun U hU hW => ⟨rfl, ⟨⟨⟨by rw [hU], by rw [hU]; exact hPc, va_K.moved hW.alike hK, hDc.weaken (fun _ _ _ _ => trivial)⟩, hZ.at hW hS hU hFc⟩, va_Nc.moved hW.alike hN⟩, pQ.moved hW.alike hQ⟩⟩ rfl hn hsize hst (lv_room hW) hdg hf) hS (fun q _ h => hFc q h) hFc (fun u9 ra t H1 locs1 ht hvm hw hB hz1 hk1 hS => ?_)
  obtain ⟨r, u⟩ := u9
  obtain ⟨e9, hP1, hK1, hD1⟩ := hB
  simp only at e9 hw
  subst e9
  rw [ht] at hP1
  obtain ⟨hP2, hD2⟩ := va_joinP (rx := []) hP hD isC isR hC hR hn2 hdis hk1 hFc hP1 hD1
  rw [List.append_nil] at hP2 hD2
  exact kk _ u H1 locs1 hw hP2 hD2 hS
theorem p_si {S : Type} {post : Int32 → S → Prop} {wo : S → va_W} (Sf : CallFix p m c cc nL s args Ts own) (hK : va_K G.1 vwCl (cTy G) s) (hQ : pQ G gr s) (hP : va_P G.1 vwCl (X ++ va_pl P f) H) (hD : va_D A (X ++ va_pl P f)) (hS : va_S A s.heap H locs) (hA : ∀ q, s.heap.size ≤ q → A q) (hZ : cEx sa A s) (hN : va_Nc eIO eIS s)
    (hM : pMI l G gr sa y wy rm As (cx ++ va_pl P f) post wo) (cw : CallB R s args own index y bytes maxL ret wy rm rm.cells rm.slots na ∧ (Cond.static y).before args s = true) (isC isR : List Nat) (hcut : pCut X cx wr isC isR)
    (hn : As.length = na) (hsize : ls.size = nL) (hst : st0 = As.reverse ++ rest) (hW : (rest.map fun v => v.category).sum ≤ 8)
    (hf : cells + rm.cells ≤ R.cells ∧ slots + rm.slots ≤ R.slots) (hdg : decode cc pc = .ok (.invokestatic index, 3))
    (kk : ∀ (r : Int32) (u : S) (H1 : Heap) (locs1 : List Loc), post r u → va_P G.1 vwCl (wr ++ wo u) H1 → va_D A (wr ++ wo u) → va_S A s.heap H1 locs1 → W p l e R s m args below meth c H1 locs1 (cells + rm.cells) (slots + rm.slots) Q (F0 m (pc + 3) ls (.int r :: rest))) :
    W p l e R s m args below meth c H locs cells slots Q (F0 m pc ls st0) := by
  obtain ⟨hC, hR, hn1, hn2, hdis⟩ := hcut
  have hPc := hP.part isC hC
  have hDc := hD.part isC hn1 hC
  have hFc := va_freeP hD hS hA isC hC
  refine va_calli (va_runS (As := As) (rest := rest) Sf (hM H.size) cw ⟨pPre_blind _ _ _ _ _ _, fun U hU hW => ⟨rfl, ⟨⟨⟨by rw [hU], by rw [hU]; exact hPc, va_K.moved hW.alike hK, hDc.weaken (fun _ _ _ _ => trivial)⟩, hZ.at hW hS hU hFc⟩, va_Nc.moved hW.alike hN⟩, pQ.moved hW.alike hQ⟩⟩ rfl hn hsize hst (lv_room hW) hdg hf) hS (fun q _ h => hFc q h) hFc (fun r u t H1 locs1 ht hvm hw hB hz1 hk1 hS => ?_)
  obtain ⟨hP1, hK1, hD1⟩ := hB
  rw [ht] at hP1
  obtain ⟨hP2, hD2⟩ := va_joinP (rx := []) hP hD isC isR hC hR hn2 hdis hk1 hFc hP1 hD1
  rw [List.append_nil] at hP2 hD2
  exact kk r u H1 locs1 hw hP2 hD2 hS
theorem p_sv {S : Type} {post : S → Prop} {wo : S → va_W} (Sf : CallFix p m c cc nL s args Ts own) (hK : va_K G.1 vwCl (cTy G) s) (hQ : pQ G gr s) (hP : va_P G.1 vwCl (X ++ va_pl P f) H) (hD : va_D A (X ++ va_pl P f)) (hS : va_S A s.heap H locs) (hA : ∀ q, s.heap.size ≤ q → A q) (hZ : cEx sa A s) (hN : va_Nc eIO eIS s)
    (hM : pMV l G gr sa y wy rm As (cx ++ va_pl P f) post wo) (cw : CallB R s args own index y bytes maxL ret wy rm rm.cells rm.slots na ∧ (Cond.static y).before args s = true) (isC isR : List Nat) (hcut : pCut X cx wr isC isR)
    (hn : As.length = na) (hsize : ls.size = nL) (hst : st0 = As.reverse ++ rest) (hW : (rest.map fun v => v.category).sum ≤ 8)
    (hf : cells + rm.cells ≤ R.cells ∧ slots + rm.slots ≤ R.slots) (hdg : decode cc pc = .ok (.invokestatic index, 3))
    (kk : ∀ (u : S) (H1 : Heap) (locs1 : List Loc), post u → va_P G.1 vwCl (wr ++ wo u) H1 → va_D A (wr ++ wo u) → va_S A s.heap H1 locs1 → W p l e R s m args below meth c H1 locs1 (cells + rm.cells) (slots + rm.slots) Q (F0 m (pc + 3) ls rest)) :
    W p l e R s m args below meth c H locs cells slots Q (F0 m pc ls st0) := by
  obtain ⟨hC, hR, hn1, hn2, hdis⟩ := hcut
  have hPc := hP.part isC hC
  have hDc := hD.part isC hn1 hC
  have hFc := va_freeP hD hS hA isC hC
  refine va_callv (va_runS (As := As) (rest := rest) Sf (hM H.size) cw ⟨pPre_blind _ _ _ _ _ _, fun U hU hW => ⟨rfl, ⟨⟨⟨by rw [hU], by rw [hU]; exact hPc, va_K.moved hW.alike hK, hDc.weaken (fun _ _ _ _ => trivial)⟩, hZ.at hW hS hU hFc⟩, va_Nc.moved hW.alike hN⟩, pQ.moved hW.alike hQ⟩⟩ rfl hn hsize hst (lv_room hW) hdg hf) hS (fun q _ h => hFc q h) hFc (fun u t H1 locs1 ht hvm hw hB hz1 hk1 hS => ?_)
  obtain ⟨hP1, hK1, hD1⟩ := hB
  rw [ht] at hP1
  obtain ⟨hP2, hD2⟩ := va_joinP (rx := []) hP hD isC isR hC hR hn2 hdis hk1 hFc hP1 hD1
  rw [List.append_nil] at hP2 hD2
  exact kk u H1 locs1 hw hP2 hD2 hS
theorem p_sr {S : Type} {post : Nat → S → Prop} {wo : S → va_W} (Sf : CallFix p m c cc nL s args Ts own) (hK : va_K G.1 vwCl (cTy G) s) (hQ : pQ G gr s) (hP : va_P G.1 vwCl (X ++ va_pl P f) H) (hD : va_D A (X ++ va_pl P f)) (hS : va_S A s.heap H locs) (hA : ∀ q, s.heap.size ≤ q → A q) (hZ : cEx sa A s) (hN : va_Nc eIO eIS s)
    (hM : pMR l G gr sa y wy rm As (cx ++ va_pl P f) post wo) (cw : CallB R s args own index y bytes maxL ret wy rm rm.cells rm.slots na ∧ (Cond.static y).before args s = true) (isC isR : List Nat) (hcut : pCut X cx wr isC isR)
    (hn : As.length = na) (hsize : ls.size = nL) (hst : st0 = As.reverse ++ rest) (hW : (rest.map fun v => v.category).sum ≤ 8)
    (hf : cells + rm.cells ≤ R.cells ∧ slots + rm.slots ≤ R.slots) (hdg : decode cc pc = .ok (.invokestatic index, 3))
    (kk : ∀ (r : Nat) (u : S) (H1 : Heap) (locs1 : List Loc), post r u → va_P G.1 vwCl (wr ++ wo u) H1 → va_D A (wr ++ wo u) → va_S A s.heap H1 locs1 → W p l e R s m args below meth c H1 locs1 (cells + rm.cells) (slots + rm.slots) Q (F0 m (pc + 3) ls (.ref r :: rest))) :
    W p l e R s m args below meth c H locs cells slots Q (F0 m pc ls st0) := by
  obtain ⟨hC, hR, hn1, hn2, hdis⟩ := hcut
  have hPc := hP.part isC hC
  have hDc := hD.part isC hn1 hC
  have hFc := va_freeP hD hS hA isC hC
  refine va_callr (va_runS (As := As) (rest := rest) Sf (hM H.size) cw ⟨pPre_blind _ _ _ _ _ _, fun U hU hW => ⟨rfl, ⟨⟨⟨by rw [hU], by rw [hU]; exact hPc, va_K.moved hW.alike hK, hDc.weaken (fun _ _ _ _ => trivial)⟩, hZ.at hW hS hU hFc⟩, va_Nc.moved hW.alike hN⟩, pQ.moved hW.alike hQ⟩⟩ rfl hn hsize hst (lv_room hW) hdg hf) hS (fun q _ h => hFc q h) hFc (fun u9 ra t H1 locs1 ht hvm hw hB hz1 hk1 hS => ?_)
  obtain ⟨r, u⟩ := u9
  obtain ⟨e9, hP1, hK1, hD1⟩ := hB
  simp only at e9 hw
  subst e9
  rw [ht] at hP1
  obtain ⟨hP2, hD2⟩ := va_joinP (rx := []) hP hD isC isR hC hR hn2 hdis hk1 hFc hP1 hD1
  rw [List.append_nil] at hP2 hD2
  exact kk _ u H1 locs1 hw hP2 hD2 hS
theorem p_cutP (hP : va_P G.1 vwCl (X ++ va_pl P f) H) (isC : List Nat) (hC : isC.map (fun i => X[i]?) = cx.map some) : va_P G.1 vwCl cx H := by
  have h := hP.part isC hC
  exact h.by id (fun k q hk => by show (cx ++ va_pl P f)[k]? = some q; rw [List.getElem?_append_left (List.getElem?_eq_some_iff.mp hk).1]; exact hk)
theorem p_cutD (hD : va_D A (X ++ va_pl P f)) (isC : List Nat) (hn : va_nd isC = true) (hC : isC.map (fun i => X[i]?) = cx.map some) : va_D A cx := by
  have h := hD.part isC hn hC
  exact h.by id (fun k q hk => by show (cx ++ va_pl P f)[k]? = some q; rw [List.getElem?_append_left (List.getElem?_eq_some_iff.mp hk).1]; exact hk) (fun i j _ _ e => e)
theorem p_cutF (hD : va_D A (X ++ va_pl P f)) (hS : va_S A H0 H locs) (hA : ∀ q, H0.size ≤ q → A q) (isC : List Nat) (hC : isC.map (fun i => X[i]?) = cx.map some) : ∀ q, va_A cx H.size q → A q := by
  intro q h
  refine va_freeP hD hS hA isC hC q ?_
  rcases h with ⟨k, e, h⟩ | h
  · exact Or.inl ⟨k, e, by rw [List.getElem?_append_left (List.getElem?_eq_some_iff.mp h).1]; exact h⟩
  · exact Or.inr h
theorem q_vi {S : Type} {post : Int32 → S → Prop} {wo : S → va_W} (Sf : CallFix p m c cc nL s args Ts own) (hK : va_K G.1 vwCl (cTy G) s) (hP : va_P G.1 vwCl (X ++ va_pl P f) H) (hD : va_D A (X ++ va_pl P f)) (hS : va_S A s.heap H locs) (hA : ∀ q, s.heap.size ≤ q → A q)
    (hM : cMI l G y wy rm (.ref b :: As) cx post wo) (cw : CallW R s args own C index y bytes maxL ret wy rm rm.cells rm.slots na) (isC isR : List Nat) (hcut : pCut X cx wr isC isR)
    (q0 ci : Nat) {fs : List Value} {T : u_T} {N : Nat} (he : (X ++ va_pl P f)[q0]? = some (b, .inr (ci, fs))) (hc : vwCl[ci]? = some (C, T, N)) (hn : As.length = na) (hsize : ls.size = nL) (hst : st0 = As.reverse ++ .ref b :: rest) (hW : (rest.map fun v => v.category).sum ≤ 8)
    (hf : cells + rm.cells ≤ R.cells ∧ slots + rm.slots ≤ R.slots) (hdg : decode cc pc = .ok (.invokevirtual index, 3))
    (kk : ∀ (r : Int32) (u : S) (H1 : Heap) (locs1 : List Loc), post r u → va_P G.1 vwCl ((wr ++ wo u) ++ va_pl P f) H1 → va_D A ((wr ++ wo u) ++ va_pl P f) → va_S A s.heap H1 locs1 → W p l e R s m args below meth c H1 locs1 (cells + rm.cells) (slots + rm.slots) Q (F0 m (pc + 3) ls (.int r :: rest))) :
    W p l e R s m args below meth c H locs cells slots Q (F0 m pc ls st0) := by
  obtain ⟨hC, hR, hn1, hn2, hdis⟩ := hcut
  have hPc := p_cutP hP isC hC
  have hDc := p_cutD hD isC hn1 hC
  have hFc := p_cutF hD hS hA isC hC
  refine va_calli (va_runV (As := As) (rest := rest) Sf (hM H.size) cw ⟨cPre_blind _ _ _ _, va_recv hK hP hc he, fun U hU hW => ⟨rfl, by rw [hU], by rw [hU]; exact hPc, va_K.moved hW.alike hK, hDc.weaken (fun _ _ _ _ => trivial)⟩⟩ rfl hn hsize hst (lv_room hW) hdg hf) hS (fun q _ h => hFc q h) hFc (fun r u t H1 locs1 ht hvm hw hB hz1 hk1 hS => ?_)
  obtain ⟨hP1, hK1, hD1⟩ := hB
  rw [ht] at hP1
  obtain ⟨hP2, hD2⟩ := va_joinQ hP hD isC isR hC hR hn2 hdis hk1 hFc hP1 hD1
  exact kk r u H1 locs1 hw hP2 hD2 hS
theorem q_vl {S : Type} {post : Int64 → S → Prop} {wo : S → va_W} (Sf : CallFix p m c cc nL s args Ts own) (hK : va_K G.1 vwCl (cTy G) s) (hP : va_P G.1 vwCl (X ++ va_pl P f) H) (hD : va_D A (X ++ va_pl P f)) (hS : va_S A s.heap H locs) (hA : ∀ q, s.heap.size ≤ q → A q)
    (hM : cML l G y wy rm (.ref b :: As) cx post wo) (cw : CallW R s args own C index y bytes maxL ret wy rm rm.cells rm.slots na) (isC isR : List Nat) (hcut : pCut X cx wr isC isR)
    (q0 ci : Nat) {fs : List Value} {T : u_T} {N : Nat} (he : (X ++ va_pl P f)[q0]? = some (b, .inr (ci, fs))) (hc : vwCl[ci]? = some (C, T, N)) (hn : As.length = na) (hsize : ls.size = nL) (hst : st0 = As.reverse ++ .ref b :: rest) (hW : (rest.map fun v => v.category).sum ≤ 8)
    (hf : cells + rm.cells ≤ R.cells ∧ slots + rm.slots ≤ R.slots) (hdg : decode cc pc = .ok (.invokevirtual index, 3))
    (kk : ∀ (r : Int64) (u : S) (H1 : Heap) (locs1 : List Loc), post r u → va_P G.1 vwCl ((wr ++ wo u) ++ va_pl P f) H1 → va_D A ((wr ++ wo u) ++ va_pl P f) → va_S A s.heap H1 locs1 → W p l e R s m args below meth c H1 locs1 (cells + rm.cells) (slots + rm.slots) Q (F0 m (pc + 3) ls (.long r :: rest))) :
    W p l e R s m args below meth c H locs cells slots Q (F0 m pc ls st0) := by
  obtain ⟨hC, hR, hn1, hn2, hdis⟩ := hcut
  have hPc := p_cutP hP isC hC
  have hDc := p_cutD hD isC hn1 hC
  have hFc := p_cutF hD hS hA isC hC
  refine va_calll (va_runV (As := As) (rest := rest) Sf (hM H.size) cw ⟨cPre_blind _ _ _ _, va_recv hK hP hc he, fun U hU hW => ⟨rfl, by rw [hU], by rw [hU]; exact hPc, va_K.moved hW.alike hK, hDc.weaken (fun _ _ _ _ => trivial)⟩⟩ rfl hn hsize hst (lv_room hW) hdg hf) hS (fun q _ h => hFc q h) hFc (fun r u t H1 locs1 ht hvm hw hB hz1 hk1 hS => ?_)
  obtain ⟨hP1, hK1, hD1⟩ := hB
  rw [ht] at hP1
  obtain ⟨hP2, hD2⟩ := va_joinQ hP hD isC isR hC hR hn2 hdis hk1 hFc hP1 hD1
  exact kk r u H1 locs1 hw hP2 hD2 hS
theorem q_vd {S : Type} {post : UInt64 → S → Prop} {wo : S → va_W} (Sf : CallFix p m c cc nL s args Ts own) (hK : va_K G.1 vwCl (cTy G) s) (hP : va_P G.1 vwCl (X ++ va_pl P f) H) (hD : va_D A (X ++ va_pl P f)) (hS : va_S A s.heap H locs) (hA : ∀ q, s.heap.size ≤ q → A q)
    (hM : cMD l G y wy rm (.ref b :: As) cx post wo) (cw : CallW R s args own C index y bytes maxL ret wy rm rm.cells rm.slots na) (isC isR : List Nat) (hcut : pCut X cx wr isC isR)
    (q0 ci : Nat) {fs : List Value} {T : u_T} {N : Nat} (he : (X ++ va_pl P f)[q0]? = some (b, .inr (ci, fs))) (hc : vwCl[ci]? = some (C, T, N)) (hn : As.length = na) (hsize : ls.size = nL) (hst : st0 = As.reverse ++ .ref b :: rest) (hW : (rest.map fun v => v.category).sum ≤ 8)
    (hf : cells + rm.cells ≤ R.cells ∧ slots + rm.slots ≤ R.slots) (hdg : decode cc pc = .ok (.invokevirtual index, 3))
    (kk : ∀ (r : UInt64) (u : S) (H1 : Heap) (locs1 : List Loc), post r u → va_P G.1 vwCl ((wr ++ wo u) ++ va_pl P f) H1 → va_D A ((wr ++ wo u) ++ va_pl P f) → va_S A s.heap H1 locs1 → W p l e R s m args below meth c H1 locs1 (cells + rm.cells) (slots + rm.slots) Q (F0 m (pc + 3) ls (.double r :: rest))) :
    W p l e R s m args below meth c H locs cells slots Q (F0 m pc ls st0) := by
  obtain ⟨hC, hR, hn1, hn2, hdis⟩ := hcut
  have hPc := p_cutP hP isC hC
  have hDc := p_cutD hD isC hn1 hC
  have hFc := p_cutF hD hS hA isC hC
  refine va_calld (va_runV (As := As) (rest := rest) Sf (hM H.size) cw ⟨cPre_blind _ _ _ _, va_recv hK hP hc he, fun U hU hW => ⟨rfl, by rw [hU], by rw [hU]; exact hPc, va_K.moved hW.alike hK, hDc.weaken (fun _ _ _ _ => trivial)⟩⟩ rfl hn hsize hst (lv_room hW) hdg hf) hS (fun q _ h => hFc q h) hFc (fun r u t H1 locs1 ht hvm hw hB hz1 hk1 hS => ?_)
  obtain ⟨hP1, hK1, hD1⟩ := hB
  rw [ht] at hP1
  obtain ⟨hP2, hD2⟩ := va_joinQ hP hD isC isR hC hR hn2 hdis hk1 hFc hP1 hD1
  exact kk r u H1 locs1 hw hP2 hD2 hS
theorem q_vv {S : Type} {post : S → Prop} {wo : S → va_W} (Sf : CallFix p m c cc nL s args Ts own) (hK : va_K G.1 vwCl (cTy G) s) (hP : va_P G.1 vwCl (X ++ va_pl P f) H) (hD : va_D A (X ++ va_pl P f)) (hS : va_S A s.heap H locs) (hA : ∀ q, s.heap.size ≤ q → A q)
    (hM : cMV l G y wy rm (.ref b :: As) cx post wo) (cw : CallW R s args own C index y bytes maxL ret wy rm rm.cells rm.slots na) (isC isR : List Nat) (hcut : pCut X cx wr isC isR)
    (q0 ci : Nat) {fs : List Value} {T : u_T} {N : Nat} (he : (X ++ va_pl P f)[q0]? = some (b, .inr (ci, fs))) (hc : vwCl[ci]? = some (C, T, N)) (hn : As.length = na) (hsize : ls.size = nL) (hst : st0 = As.reverse ++ .ref b :: rest) (hW : (rest.map fun v => v.category).sum ≤ 8)
    (hf : cells + rm.cells ≤ R.cells ∧ slots + rm.slots ≤ R.slots) (hdg : decode cc pc = .ok (.invokevirtual index, 3))
    (kk : ∀ (u : S) (H1 : Heap) (locs1 : List Loc), post u → va_P G.1 vwCl ((wr ++ wo u) ++ va_pl P f) H1 → va_D A ((wr ++ wo u) ++ va_pl P f) → va_S A s.heap H1 locs1 → W p l e R s m args below meth c H1 locs1 (cells + rm.cells) (slots + rm.slots) Q (F0 m (pc + 3) ls rest)) :
    W p l e R s m args below meth c H locs cells slots Q (F0 m pc ls st0) := by
  obtain ⟨hC, hR, hn1, hn2, hdis⟩ := hcut
  have hPc := p_cutP hP isC hC
  have hDc := p_cutD hD isC hn1 hC
  have hFc := p_cutF hD hS hA isC hC
  refine va_callv (va_runV (As := As) (rest := rest) Sf (hM H.size) cw ⟨cPre_blind _ _ _ _, va_recv hK hP hc he, fun U hU hW => ⟨rfl, by rw [hU], by rw [hU]; exact hPc, va_K.moved hW.alike hK, hDc.weaken (fun _ _ _ _ => trivial)⟩⟩ rfl hn hsize hst (lv_room hW) hdg hf) hS (fun q _ h => hFc q h) hFc (fun u t H1 locs1 ht hvm hw hB hz1 hk1 hS => ?_)
  obtain ⟨hP1, hK1, hD1⟩ := hB
  rw [ht] at hP1
  obtain ⟨hP2, hD2⟩ := va_joinQ hP hD isC isR hC hR hn2 hdis hk1 hFc hP1 hD1
  exact kk u H1 locs1 hw hP2 hD2 hS
theorem q_xi {px : String → Prop} {S : Type} {post : Int32 → S → Prop} {wo : S → va_W} (Sf : CallFix p m c cc nL s args Ts own) (hK : va_K G.1 vwCl (cTy G) s) (hP : va_P G.1 vwCl (X ++ va_pl P f) H) (hD : va_D A (X ++ va_pl P f)) (hS : va_S A s.heap H locs) (hA : ∀ q, s.heap.size ≤ q → A q) (hZ : cEx sa A s)
    (hM : cXI l G sa y wy rm (.ref b :: As) cx px post wo) (cw : CallW R s args own C index y bytes maxL ret wy rm rm.cells rm.slots na) (isC isR : List Nat) (hcut : pCut X cx wr isC isR)
    (q0 ci : Nat) {fs : List Value} {T : u_T} {N : Nat} (he : (X ++ va_pl P f)[q0]? = some (b, .inr (ci, fs))) (hc : vwCl[ci]? = some (C, T, N)) (hn : As.length = na) (hsize : ls.size = nL) (hst : st0 = As.reverse ++ .ref b :: rest) (hW : (rest.map fun v => v.category).sum ≤ 8)
    (hf : cells + rm.cells ≤ R.cells ∧ slots + rm.slots ≤ R.slots) (hdg : decode cc pc = .ok (.invokevirtual index, 3))
    (kx : ∀ (E : String) (ce : Cell) (q9 : Addr) (H1 : Heap) (locs1 : List Loc), px E → va_P G.1 vwCl ((wr ++ cx) ++ va_pl P f) H1 → va_D A ((wr ++ cx) ++ va_pl P f) → va_S A s.heap H1 locs1 → H1[q9]? = some ce → ce.vm = .none → s.vm.findClass E = some ce.cls → vx_W p l e R s m args below meth c H1 locs1 (cells + rm.cells) (slots + rm.slots) Q (F0 m pc ls rest) q9)
    (kk : ∀ (r : Int32) (u : S) (H1 : Heap) (locs1 : List Loc), post r u → va_P G.1 vwCl ((wr ++ wo u) ++ va_pl P f) H1 → va_D A ((wr ++ wo u) ++ va_pl P f) → va_S A s.heap H1 locs1 → W p l e R s m args below meth c H1 locs1 (cells + rm.cells) (slots + rm.slots) Q (F0 m (pc + 3) ls (.int r :: rest))) :
    W p l e R s m args below meth c H locs cells slots Q (F0 m pc ls st0) := by
  obtain ⟨hC, hR, hn1, hn2, hdis⟩ := hcut
  have hPc := p_cutP hP isC hC
  have hDc := p_cutD hD isC hn1 hC
  have hFc := p_cutF hD hS hA isC hC
  refine vx_calli (vx_runV (As := As) (rest := rest) Sf (hM H.size) cw ⟨cPreX_blind _ _ _ _ _, va_recv hK hP hc he, fun U hU hW => ⟨rfl, ⟨by rw [hU], by rw [hU]; exact hPc, va_K.moved hW.alike hK, hDc.weaken (fun _ _ _ _ => trivial)⟩, hZ.at hW hS hU hFc⟩⟩ rfl hn hsize hst (lv_room hW) hdg hf) hS (fun q _ h => hFc q h) hFc (fun q _ h => hFc q h) (fun E ce q9 u t H1 locs1 ht hvm hpx hB hz1 hk1 hS hce hcv hcl => ?_) (fun r u t H1 locs1 ht hvm hw hB hz1 hk1 hS => ?_)
  · obtain ⟨hp, hP1, hK1, hD1⟩ := hB
    rw [ht] at hP1
    obtain ⟨hP2, hD2⟩ := va_joinQ hP hD isC isR hC hR hn2 hdis hk1 hFc hP1 hD1
    exact kx E ce q9 H1 locs1 hp hP2 hD2 hS hce hcv hcl
  · obtain ⟨hP1, hK1, hD1⟩ := hB
    rw [ht] at hP1
    obtain ⟨hP2, hD2⟩ := va_joinQ hP hD isC isR hC hR hn2 hdis hk1 hFc hP1 hD1
    exact kk r u H1 locs1 hw hP2 hD2 hS
end PR
