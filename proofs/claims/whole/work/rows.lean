section
-- ===== PART A: goes FIRST, ahead of the names: the tables' words, and 'selects' of the private methods out of them =====
/-- a private method of a class that the tables say can be made, by its rows of tables_1 -/
def lw_okq (q : MethodName × Nat) : Prop := (q.1.cls ≠ "java/lang/invoke/MethodHandle" ∧ q.1.cls ≠ "java/lang/invoke/VarHandle") ∧ Cond.instantiable q.1.cls q.2 ∈ tables_1 ∧ Cond.privateMethod q.1 ∈ tables_1 ∧ Cond.instanceMethod q.1 ∈ tables_1
theorem lw_p0 : lw_okq (⟨"FaultShrinker$Search", "begin", "(LFaultShrinker$Taster;I)Z"⟩, 6) := ⟨⟨by decide +kernel, by decide +kernel⟩, List.mem_of_getElem? (i := 78) (by decide +kernel), List.mem_of_getElem? (i := 137) (by decide +kernel), List.mem_of_getElem? (i := 138) (by decide +kernel)⟩
theorem lw_p1 : lw_okq (⟨"FaultShrinker$Taster", "learn", "(I)Z"⟩, 5) := ⟨⟨by decide +kernel, by decide +kernel⟩, List.mem_of_getElem? (i := 55) (by decide +kernel), List.mem_of_getElem? (i := 149) (by decide +kernel), List.mem_of_getElem? (i := 150) (by decide +kernel)⟩
theorem lw_p2 : lw_okq (⟨"FaultShrinker$Search", "makeStep", "(LFaultShrinker$Taster;)Z"⟩, 6) := ⟨⟨by decide +kernel, by decide +kernel⟩, List.mem_of_getElem? (i := 78) (by decide +kernel), List.mem_of_getElem? (i := 166) (by decide +kernel), List.mem_of_getElem? (i := 167) (by decide +kernel)⟩
theorem lw_p3 : lw_okq (⟨"FaultShrinker$Search", "countPlaces", "()V"⟩, 6) := ⟨⟨by decide +kernel, by decide +kernel⟩, List.mem_of_getElem? (i := 78) (by decide +kernel), List.mem_of_getElem? (i := 176) (by decide +kernel), List.mem_of_getElem? (i := 177) (by decide +kernel)⟩
theorem lw_p4 : lw_okq (⟨"FaultShrinker$Search", "firstSpoiledPart", "(LFaultShrinker$Taster;I)I"⟩, 6) := ⟨⟨by decide +kernel, by decide +kernel⟩, List.mem_of_getElem? (i := 78) (by decide +kernel), List.mem_of_getElem? (i := 180) (by decide +kernel), List.mem_of_getElem? (i := 181) (by decide +kernel)⟩
theorem lw_p5 : lw_okq (⟨"FaultShrinker$Search", "partAt", "(II)I"⟩, 6) := ⟨⟨by decide +kernel, by decide +kernel⟩, List.mem_of_getElem? (i := 78) (by decide +kernel), List.mem_of_getElem? (i := 184) (by decide +kernel), List.mem_of_getElem? (i := 185) (by decide +kernel)⟩
theorem lw_p6 : lw_okq (⟨"FaultShrinker$Search", "note", "(IIII)V"⟩, 6) := ⟨⟨by decide +kernel, by decide +kernel⟩, List.mem_of_getElem? (i := 78) (by decide +kernel), List.mem_of_getElem? (i := 188) (by decide +kernel), List.mem_of_getElem? (i := 189) (by decide +kernel)⟩
theorem lw_p7 : lw_okq (⟨"FaultShrinker$Search", "firstSparedPart", "(LFaultShrinker$Taster;I)I"⟩, 6) := ⟨⟨by decide +kernel, by decide +kernel⟩, List.mem_of_getElem? (i := 78) (by decide +kernel), List.mem_of_getElem? (i := 192) (by decide +kernel), List.mem_of_getElem? (i := 193) (by decide +kernel)⟩
theorem lw_p8 : lw_okq (⟨"FaultShrinker", "digestState", "(J)J"⟩, 7) := ⟨⟨by decide +kernel, by decide +kernel⟩, List.mem_of_getElem? (i := 17) (by decide +kernel), List.mem_of_getElem? (i := 257) (by decide +kernel), List.mem_of_getElem? (i := 258) (by decide +kernel)⟩
theorem lw_p9 : lw_okq (⟨"FaultShrinker", "countFact", "(I)I"⟩, 7) := ⟨⟨by decide +kernel, by decide +kernel⟩, List.mem_of_getElem? (i := 17) (by decide +kernel), List.mem_of_getElem? (i := 261) (by decide +kernel), List.mem_of_getElem? (i := 262) (by decide +kernel)⟩
theorem lw_p10 : lw_okq (⟨"FaultShrinker", "ruleFact", "(II)I"⟩, 7) := ⟨⟨by decide +kernel, by decide +kernel⟩, List.mem_of_getElem? (i := 17) (by decide +kernel), List.mem_of_getElem? (i := 286) (by decide +kernel), List.mem_of_getElem? (i := 287) (by decide +kernel)⟩
theorem lw_p11 : lw_okq (⟨"FaultShrinker", "digestKept", "(J)J"⟩, 7) := ⟨⟨by decide +kernel, by decide +kernel⟩, List.mem_of_getElem? (i := 17) (by decide +kernel), List.mem_of_getElem? (i := 295) (by decide +kernel), List.mem_of_getElem? (i := 296) (by decide +kernel)⟩
theorem lw_p12 : lw_okq (⟨"java/lang/Throwable", "fillInStackTrace", "(I)Ljava/lang/Throwable;"⟩, 6) := ⟨⟨by decide +kernel, by decide +kernel⟩, List.mem_of_getElem? (i := 361) (by decide +kernel), List.mem_of_getElem? (i := 359) (by decide +kernel), List.mem_of_getElem? (i := 360) (by decide +kernel)⟩
theorem lw_p13 : lw_okq (⟨"FaultShrinker", "isSpoiled", "(I)Z"⟩, 7) := ⟨⟨by decide +kernel, by decide +kernel⟩, List.mem_of_getElem? (i := 17) (by decide +kernel), List.mem_of_getElem? (i := 518) (by decide +kernel), List.mem_of_getElem? (i := 519) (by decide +kernel)⟩
theorem lw_p14 : lw_okq (⟨"FaultShrinkerModel", "no", "(I)I"⟩, 17) := ⟨⟨by decide +kernel, by decide +kernel⟩, List.mem_of_getElem? (i := 561) (by decide +kernel), List.mem_of_getElem? (i := 630) (by decide +kernel), List.mem_of_getElem? (i := 631) (by decide +kernel)⟩
theorem lw_p15 : lw_okq (⟨"FaultShrinkerModel", "isPlace", "(I)Z"⟩, 17) := ⟨⟨by decide +kernel, by decide +kernel⟩, List.mem_of_getElem? (i := 561) (by decide +kernel), List.mem_of_getElem? (i := 638) (by decide +kernel), List.mem_of_getElem? (i := 639) (by decide +kernel)⟩
def lw_privs_1 : List (MethodName × Nat) := [(⟨"FaultShrinker$Search", "begin", "(LFaultShrinker$Taster;I)Z"⟩, 6), (⟨"FaultShrinker$Taster", "learn", "(I)Z"⟩, 5), (⟨"FaultShrinker$Search", "makeStep", "(LFaultShrinker$Taster;)Z"⟩, 6), (⟨"FaultShrinker$Search", "countPlaces", "()V"⟩, 6), (⟨"FaultShrinker$Search", "firstSpoiledPart", "(LFaultShrinker$Taster;I)I"⟩, 6), (⟨"FaultShrinker$Search", "partAt", "(II)I"⟩, 6), (⟨"FaultShrinker$Search", "note", "(IIII)V"⟩, 6), (⟨"FaultShrinker$Search", "firstSparedPart", "(LFaultShrinker$Taster;I)I"⟩, 6), (⟨"FaultShrinker", "digestState", "(J)J"⟩, 7), (⟨"FaultShrinker", "countFact", "(I)I"⟩, 7), (⟨"FaultShrinker", "ruleFact", "(II)I"⟩, 7), (⟨"FaultShrinker", "digestKept", "(J)J"⟩, 7), (⟨"java/lang/Throwable", "fillInStackTrace", "(I)Ljava/lang/Throwable;"⟩, 6), (⟨"FaultShrinker", "isSpoiled", "(I)Z"⟩, 7), (⟨"FaultShrinkerModel", "no", "(I)I"⟩, 17), (⟨"FaultShrinkerModel", "isPlace", "(I)Z"⟩, 17)]
theorem lw_r1 : ∀ q ∈ lw_privs_1, lw_okq q := List.forall_mem_cons.mpr ⟨lw_p0, List.forall_mem_cons.mpr ⟨lw_p1, List.forall_mem_cons.mpr ⟨lw_p2, List.forall_mem_cons.mpr ⟨lw_p3, List.forall_mem_cons.mpr ⟨lw_p4, List.forall_mem_cons.mpr ⟨lw_p5, List.forall_mem_cons.mpr ⟨lw_p6, List.forall_mem_cons.mpr ⟨lw_p7, List.forall_mem_cons.mpr ⟨lw_p8, List.forall_mem_cons.mpr ⟨lw_p9, List.forall_mem_cons.mpr ⟨lw_p10, List.forall_mem_cons.mpr ⟨lw_p11, List.forall_mem_cons.mpr ⟨lw_p12, List.forall_mem_cons.mpr ⟨lw_p13, List.forall_mem_cons.mpr ⟨lw_p14, List.forall_mem_cons.mpr ⟨lw_p15, fun _ h => absurd h List.not_mem_nil⟩⟩⟩⟩⟩⟩⟩⟩⟩⟩⟩⟩⟩⟩⟩⟩
theorem lw_p16 : lw_okq (⟨"FaultShrinkerModel", "takeOut", "(I)I"⟩, 17) := ⟨⟨by decide +kernel, by decide +kernel⟩, List.mem_of_getElem? (i := 561) (by decide +kernel), List.mem_of_getElem? (i := 642) (by decide +kernel), List.mem_of_getElem? (i := 643) (by decide +kernel)⟩
theorem lw_p17 : lw_okq (⟨"FaultShrinkerModel", "set", "([I[IIIZ)Z"⟩, 17) := ⟨⟨by decide +kernel, by decide +kernel⟩, List.mem_of_getElem? (i := 561) (by decide +kernel), List.mem_of_getElem? (i := 658) (by decide +kernel), List.mem_of_getElem? (i := 659) (by decide +kernel)⟩
theorem lw_p18 : lw_okq (⟨"FaultShrinkerModel", "isRule", "(I)Z"⟩, 17) := ⟨⟨by decide +kernel, by decide +kernel⟩, List.mem_of_getElem? (i := 561) (by decide +kernel), List.mem_of_getElem? (i := 662) (by decide +kernel), List.mem_of_getElem? (i := 663) (by decide +kernel)⟩
theorem lw_p19 : lw_okq (⟨"FaultShrinkerModel", "ruleTold", "(II)I"⟩, 17) := ⟨⟨by decide +kernel, by decide +kernel⟩, List.mem_of_getElem? (i := 561) (by decide +kernel), List.mem_of_getElem? (i := 674) (by decide +kernel), List.mem_of_getElem? (i := 675) (by decide +kernel)⟩
theorem lw_p20 : lw_okq (⟨"FaultShrinkerModel", "whole", "()I"⟩, 17) := ⟨⟨by decide +kernel, by decide +kernel⟩, List.mem_of_getElem? (i := 561) (by decide +kernel), List.mem_of_getElem? (i := 679) (by decide +kernel), List.mem_of_getElem? (i := 680) (by decide +kernel)⟩
theorem lw_p21 : lw_okq (⟨"FaultShrinkerModel", "kindsOf", "(I)I"⟩, 17) := ⟨⟨by decide +kernel, by decide +kernel⟩, List.mem_of_getElem? (i := 561) (by decide +kernel), List.mem_of_getElem? (i := 683) (by decide +kernel), List.mem_of_getElem? (i := 684) (by decide +kernel)⟩
theorem lw_p22 : lw_okq (⟨"FaultShrinkerModel", "holds", "(II)Z"⟩, 17) := ⟨⟨by decide +kernel, by decide +kernel⟩, List.mem_of_getElem? (i := 561) (by decide +kernel), List.mem_of_getElem? (i := 687) (by decide +kernel), List.mem_of_getElem? (i := 688) (by decide +kernel)⟩
theorem lw_p23 : lw_okq (⟨"FaultShrinkerModel", "isSpoilt", "(I)Z"⟩, 17) := ⟨⟨by decide +kernel, by decide +kernel⟩, List.mem_of_getElem? (i := 561) (by decide +kernel), List.mem_of_getElem? (i := 695) (by decide +kernel), List.mem_of_getElem? (i := 696) (by decide +kernel)⟩
theorem lw_p24 : lw_okq (⟨"FaultShrinkerModel", "halve", "()I"⟩, 17) := ⟨⟨by decide +kernel, by decide +kernel⟩, List.mem_of_getElem? (i := 561) (by decide +kernel), List.mem_of_getElem? (i := 703) (by decide +kernel), List.mem_of_getElem? (i := 704) (by decide +kernel)⟩
theorem lw_p25 : lw_okq (⟨"FaultShrinkerModel", "taste", "(I)Z"⟩, 17) := ⟨⟨by decide +kernel, by decide +kernel⟩, List.mem_of_getElem? (i := 561) (by decide +kernel), List.mem_of_getElem? (i := 707) (by decide +kernel), List.mem_of_getElem? (i := 708) (by decide +kernel)⟩
theorem lw_p26 : lw_okq (⟨"FaultShrinkerModel", "first", "(IIZ)I"⟩, 17) := ⟨⟨by decide +kernel, by decide +kernel⟩, List.mem_of_getElem? (i := 561) (by decide +kernel), List.mem_of_getElem? (i := 711) (by decide +kernel), List.mem_of_getElem? (i := 712) (by decide +kernel)⟩
theorem lw_p27 : lw_okq (⟨"FaultShrinkerModel", "note", "(IIIII)V"⟩, 17) := ⟨⟨by decide +kernel, by decide +kernel⟩, List.mem_of_getElem? (i := 561) (by decide +kernel), List.mem_of_getElem? (i := 721) (by decide +kernel), List.mem_of_getElem? (i := 722) (by decide +kernel)⟩
theorem lw_p28 : lw_okq (⟨"FaultShrinkerModel", "keptSize", "()I"⟩, 17) := ⟨⟨by decide +kernel, by decide +kernel⟩, List.mem_of_getElem? (i := 561) (by decide +kernel), List.mem_of_getElem? (i := 733) (by decide +kernel), List.mem_of_getElem? (i := 734) (by decide +kernel)⟩
theorem lw_p29 : lw_okq (⟨"FaultShrinkerModel", "keptPlace", "(I)I"⟩, 17) := ⟨⟨by decide +kernel, by decide +kernel⟩, List.mem_of_getElem? (i := 561) (by decide +kernel), List.mem_of_getElem? (i := 737) (by decide +kernel), List.mem_of_getElem? (i := 738) (by decide +kernel)⟩
theorem lw_p30 : lw_okq (⟨"FaultShrinkerModel", "counted", "(I)I"⟩, 17) := ⟨⟨by decide +kernel, by decide +kernel⟩, List.mem_of_getElem? (i := 561) (by decide +kernel), List.mem_of_getElem? (i := 753) (by decide +kernel), List.mem_of_getElem? (i := 754) (by decide +kernel)⟩
theorem lw_p31 : lw_okq (⟨"FaultShrinkerModel", "hold", "()I"⟩, 17) := ⟨⟨by decide +kernel, by decide +kernel⟩, List.mem_of_getElem? (i := 561) (by decide +kernel), List.mem_of_getElem? (i := 757) (by decide +kernel), List.mem_of_getElem? (i := 758) (by decide +kernel)⟩
def lw_privs_2 : List (MethodName × Nat) := [(⟨"FaultShrinkerModel", "takeOut", "(I)I"⟩, 17), (⟨"FaultShrinkerModel", "set", "([I[IIIZ)Z"⟩, 17), (⟨"FaultShrinkerModel", "isRule", "(I)Z"⟩, 17), (⟨"FaultShrinkerModel", "ruleTold", "(II)I"⟩, 17), (⟨"FaultShrinkerModel", "whole", "()I"⟩, 17), (⟨"FaultShrinkerModel", "kindsOf", "(I)I"⟩, 17), (⟨"FaultShrinkerModel", "holds", "(II)Z"⟩, 17), (⟨"FaultShrinkerModel", "isSpoilt", "(I)Z"⟩, 17), (⟨"FaultShrinkerModel", "halve", "()I"⟩, 17), (⟨"FaultShrinkerModel", "taste", "(I)Z"⟩, 17), (⟨"FaultShrinkerModel", "first", "(IIZ)I"⟩, 17), (⟨"FaultShrinkerModel", "note", "(IIIII)V"⟩, 17), (⟨"FaultShrinkerModel", "keptSize", "()I"⟩, 17), (⟨"FaultShrinkerModel", "keptPlace", "(I)I"⟩, 17), (⟨"FaultShrinkerModel", "counted", "(I)I"⟩, 17), (⟨"FaultShrinkerModel", "hold", "()I"⟩, 17)]
theorem lw_r2 : ∀ q ∈ lw_privs_2, lw_okq q := List.forall_mem_cons.mpr ⟨lw_p16, List.forall_mem_cons.mpr ⟨lw_p17, List.forall_mem_cons.mpr ⟨lw_p18, List.forall_mem_cons.mpr ⟨lw_p19, List.forall_mem_cons.mpr ⟨lw_p20, List.forall_mem_cons.mpr ⟨lw_p21, List.forall_mem_cons.mpr ⟨lw_p22, List.forall_mem_cons.mpr ⟨lw_p23, List.forall_mem_cons.mpr ⟨lw_p24, List.forall_mem_cons.mpr ⟨lw_p25, List.forall_mem_cons.mpr ⟨lw_p26, List.forall_mem_cons.mpr ⟨lw_p27, List.forall_mem_cons.mpr ⟨lw_p28, List.forall_mem_cons.mpr ⟨lw_p29, List.forall_mem_cons.mpr ⟨lw_p30, List.forall_mem_cons.mpr ⟨lw_p31, fun _ h => absurd h List.not_mem_nil⟩⟩⟩⟩⟩⟩⟩⟩⟩⟩⟩⟩⟩⟩⟩⟩
theorem lw_p32 : lw_okq (⟨"FaultShrinkerModel", "wouldBe", "(I)I"⟩, 17) := ⟨⟨by decide +kernel, by decide +kernel⟩, List.mem_of_getElem? (i := 561) (by decide +kernel), List.mem_of_getElem? (i := 765) (by decide +kernel), List.mem_of_getElem? (i := 766) (by decide +kernel)⟩
theorem lw_p33 : lw_okq (⟨"FaultShrinkerModel", "spareEach", "()I"⟩, 17) := ⟨⟨by decide +kernel, by decide +kernel⟩, List.mem_of_getElem? (i := 561) (by decide +kernel), List.mem_of_getElem? (i := 769) (by decide +kernel), List.mem_of_getElem? (i := 770) (by decide +kernel)⟩
theorem lw_p34 : lw_okq (⟨"FaultShrinkerModel", "leastDish", "()I"⟩, 17) := ⟨⟨by decide +kernel, by decide +kernel⟩, List.mem_of_getElem? (i := 561) (by decide +kernel), List.mem_of_getElem? (i := 777) (by decide +kernel), List.mem_of_getElem? (i := 778) (by decide +kernel)⟩
theorem lw_p35 : lw_okq (⟨"FaultShrinkerModel", "isTightDish", "(I)Z"⟩, 17) := ⟨⟨by decide +kernel, by decide +kernel⟩, List.mem_of_getElem? (i := 561) (by decide +kernel), List.mem_of_getElem? (i := 785) (by decide +kernel), List.mem_of_getElem? (i := 786) (by decide +kernel)⟩
theorem lw_p36 : lw_okq (⟨"FaultShrinkerModel", "without", "(I)I"⟩, 17) := ⟨⟨by decide +kernel, by decide +kernel⟩, List.mem_of_getElem? (i := 561) (by decide +kernel), List.mem_of_getElem? (i := 793) (by decide +kernel), List.mem_of_getElem? (i := 794) (by decide +kernel)⟩
def lw_privs_3 : List (MethodName × Nat) := [(⟨"FaultShrinkerModel", "wouldBe", "(I)I"⟩, 17), (⟨"FaultShrinkerModel", "spareEach", "()I"⟩, 17), (⟨"FaultShrinkerModel", "leastDish", "()I"⟩, 17), (⟨"FaultShrinkerModel", "isTightDish", "(I)Z"⟩, 17), (⟨"FaultShrinkerModel", "without", "(I)I"⟩, 17)]
theorem lw_r3 : ∀ q ∈ lw_privs_3, lw_okq q := List.forall_mem_cons.mpr ⟨lw_p32, List.forall_mem_cons.mpr ⟨lw_p33, List.forall_mem_cons.mpr ⟨lw_p34, List.forall_mem_cons.mpr ⟨lw_p35, List.forall_mem_cons.mpr ⟨lw_p36, fun _ h => absurd h List.not_mem_nil⟩⟩⟩⟩⟩
def lw_privs : List (MethodName × Nat) := lw_privs_1 ++ (lw_privs_2 ++ (lw_privs_3))
def lw_tbl : List Cond := k2_sels lw_privs ++ tables_1
theorem lw_privs_ok : ∀ q ∈ lw_privs, lw_okq q := by
  show ∀ q ∈ lw_privs_1 ++ (lw_privs_2 ++ (lw_privs_3)), lw_okq q
  exact List.forall_mem_append.mpr ⟨lw_r1, List.forall_mem_append.mpr ⟨lw_r2, lw_r3⟩⟩
/-- the streams that the claim lets the run draw from -/
abbrev lw_cs : List Choice := [Jvm.Choice.named "NaN.bits"]
theorem lw_bits : nanBits ∈ lw_cs := by first | decide | exact List.mem_cons_self | simp [lw_cs, nanBits]
/-! ===== BEGIN words of one list among another's, by their places ===== -/
theorem goodIn_r {big : List Cond} (ws : List Cond) (ps : List Nat) (hp : ws = ps.filterMap (fun i => big[i]?)) (h : ws.all goodWord = true) : GoodIn big ws := by
  intro w hw
  have h1 := List.all_eq_true.mp h w hw
  rw [hp] at hw
  obtain ⟨i, -, hi⟩ := List.mem_filterMap.mp hw
  have hm : w ∈ big := by first | exact List.mem_of_getElem? hi | exact List.getElem?_mem hi
  exact ⟨hm, good_of_word h1⟩
theorem goodIn_app {big a b : List Cond} (ha : GoodIn big a) (hb : GoodIn big b) : GoodIn big (a ++ b) := fun w h => (List.mem_append.mp h).elim (ha w) (hb w)
theorem goodIn_ca {big a b : List Cond} {c : Cond} (ha : GoodIn big (c :: a)) (hb : GoodIn big b) : GoodIn big (c :: (a ++ b)) := fun w h => (List.mem_cons.mp h).elim (fun e => ha w (List.mem_cons.mpr (Or.inl e))) (fun h => (List.mem_append.mp h).elim (fun h => ha w (List.mem_cons.mpr (Or.inr h))) (hb w))
theorem goodIn_sub {big ws : List Cond} (hm : ∀ w ∈ ws, w ∈ big) (h : ws.all goodWord = true) : GoodIn big ws := fun w hw => ⟨hm w hw, good_of_word (List.all_eq_true.mp h w hw)⟩
/-! ===== END ===== -/

/-! ===== BEGIN exceptions that leave a method, and their catching by the caller (launches without stack traces) ===== -/
section VXA
/-! The laws vx_back, vx_callV, vx_callS, vx_callSW, vx_throw0, vx_throwS follow proofs of the library, with one case more: JvmDerived/Free/Laws.lean (Back.of_free), Shelf42/LK1.lean (callV, callS), Shelf/KitTraced.lean (throwNew0V, throwNewS). -/
/-- where a method has thrown q: the class by its name, the cell, what was written, the world -/
def vx_T (XC : String → State → State → Prop) (st : State) (q : Addr) (t : State) (mc ms : Nat) (free : Addr → Prop) : Prop :=
  ∃ (E : String) (ce : Cell) (L : List Loc), XC E st t ∧ t.heap[q]? = some ce ∧ ce.vm = .none ∧ st.vm.findClass E = some ce.cls ∧ st.WarmedH t.vm ∧ st.sameButNew ({ t with vm := st.vm } : State) L mc ms ∧ ∀ z ∈ L, free z.base
def vx_Q (Qc : Array Value → State → Outcome → State → Prop) (XC : String → State → State → Prop) (mc ms : Nat) (free : Addr → Prop) : Array Value → State → Outcome → State → Prop := fun a st o t =>
  (Qc a st o t ∧ ∃ L, FrameEnd st o t L mc ms ∧ ∀ q ∈ L, free q.base) ∨ ∃ q, o = .threw q ∧ vx_T XC st q t mc ms free
/-- a callee that returns or throws -/
def vx_Met (l : Launch) (y : MethodName) (ws : List Cond) (rm : Room) (Pc : Array Value → State → Prop) (Qc : Array Value → State → Outcome → State → Prop) (XC : String → State → State → Prop) (mc ms : Nat) (free : Addr → Prop) : Prop :=
  MetFree l y (headSpec ws rm) Pc (fun _ _ _ _ _ => True) (vx_Q Qc XC mc ms free)
def vx_Post (XC : String → State → State → Prop) (mc ms : Nat) (free : Addr → Prop) : Pt → Array Value → Addr → Pt → Prop := fun A a q B =>
  ∃ (g : JFrame) (mk : MethodId) (t : State) (L : List Loc) (E : String) (ce : Cell), B.U.heap = t.heap ∧ B.U.vm = t.vm ∧ XC E (A.U.calling g mk a) t ∧ t.heap[q]? = some ce ∧ ce.vm = .none ∧ A.U.vm.findClass E = some ce.cls ∧ B.locs = A.locs ++ L ∧ (∀ z ∈ L, free z.base) ∧ B.cells = A.cells + mc ∧ B.slots = A.slots + ms
def vx_Back (l : Launch) (R : Room) (p : Program) (e : Env) (below : List Frame) (s : State) (sargs : Array Value) (y : MethodName) (len W9 : Nat)
    (Pre : Pt → Array Value → Prop) (Post : Pt → Array Value → Option Value → Pt → Prop) (PostX : Pt → Array Value → Addr → Pt → Prop) : Prop :=
  ∀ (m : MethodId) (meth : Method) (c : Code) (A : Pt) (g : JFrame) (ig : Instr) (mk : MethodId) (a : Array Value),
    Stand p l e R s m sargs below meth c A.U A.locs A.cells A.slots → g.method = m → g.locals.size = c.maxLocals → decode c.code g.pc = .ok (ig, len) →
    2 * g.monitorRoom + (g.stack.map fun v => v.category).sum ≤ W9 → A.U.methodNamed? y = some mk → Pre A a →
    (∃ (v : Option Value) (B : Pt), Stand p l e R s m sargs below meth c B.U B.locs B.cells B.slots ∧ Post A a v B ∧
      Steps p.tables e below (doInvoke e (A.U.setTop g) [] mk a).1 (B.U.setTop { g with pc := g.pc + len, stack := v.toList ++ g.stack })) ∨
    (∃ (q : Addr) (B : Pt), Stand p l e R s m sargs below meth c B.U B.locs B.cells B.slots ∧ PostX A a q B ∧
      Steps p.tables e below (doInvoke e (A.U.setTop g) [] mk a).1 ((B.U.setTop g).pushFrame (.throwing q)))
section Payer
variable {l : Launch} {R : Room} {p : Program} {e : Env} {below : List Frame} {s : State} {sargs : Array Value} {y : MethodName} {len W9 : Nat}
theorem vx_back {ws : List Cond} {rm : Room} {Pc : Array Value → State → Prop} {Qc : Array Value → State → Outcome → State → Prop} {XC : String → State → State → Prop} {mc ms : Nat} {free : Addr → Prop} {bytes : ByteArray} {maxL : Nat} {ret : Option FieldType}
    (hM : vx_Met l y ws rm Pc Qc XC mc ms free) (hblind : FrameBlind Pc) (hrc : rm.cells = mc) (hrs : rm.slots = ms)
    (hframes : rm.frames + 1 ≤ R.frames) (hlocals : W9 + (maxL + 11) + rm.locals ≤ R.locals)
    (hws : ∀ w ∈ ws, ∀ a' U, s.WarmedH U.vm → w.before a' U = true) (hcode : Cond.code y bytes maxL ret ∈ ws) (hinit : ∀ a' U, s.WarmedH U.vm → (Cond.initialized y.cls).before a' U = true) :
    vx_Back l R p e below s sargs y len W9 (PreOf R mc ms Pc) (PostOf Qc mc ms free) (vx_Post XC mc ms free) := by
  intro m meth c A g ig mk a X hg hsize hdg hW hn hp
  have h1 : (headSpec ws rm).pre.before a A.U = true := atoms_intro fun w hw => hws w hw _ _ X.warmed
  have h2 : (Cond.code y bytes maxL ret).before a A.U = true := hws _ hcode _ _ X.warmed
  have h3 : (Cond.initialized y.cls).before a A.U = true := hinit _ _ X.warmed
  have h4 : A.cells + (headSpec ws rm).room.cells ≤ R.cells := by rw [show (headSpec ws rm).room.cells = mc from hrc]; exact hp.1
  have h5 : A.slots + (headSpec ws rm).room.slots ≤ R.slots := by rw [show (headSpec ws rm).room.slots = ms from hrs]; exact hp.2.1
  have hPc : Pc a (A.U.calling g mk a) := hblind _ _ _ _ hp.2.2
  obtain ⟨U, Ls, c0, s0⟩ := A
  dsimp only [Pt.U, Pt.locs, Pt.cells, Pt.slots] at h1 h2 h3 h4 h5 X hn hPc ⊢
  obtain ⟨methY, cY, hmY, hcY, -, hlY, -, -, -, -⟩ := Cond.code_spec hn h2
  obtain ⟨kY, hkY, -⟩ := className_of_methodNamed hn
  have hinitY : kY.init = .initialized := Cond.initialized_spec (findClass_of_methodNamed hn) hkY h3
  have h : At U g.method c below := by rw [hg]; exact X.here
  have hlocals9 : W9 + (maxL + 11) + (headSpec ws rm).room.locals ≤ R.locals := hlocals
  have happ : (headSpec ws rm).appliesLoose y e.platform (U.calling g mk a) = true :=
    Spec.appliesLoose_calling (g := g) h hdg hn hkY hinitY
      (X.room_calling (g := g) (R' := (headSpec ws rm).room) hsize hmY hcY hframes (by rw [hlY]; omega) h4 h5) h1
  obtain ⟨mid, hmid⟩ := h.above
  have hfr : (U.setTop g).frames = (.java g :: mid) ++ below := by rw [State.frames_setTop' g h.top, hmid]; rfl
  obtain ⟨o, s₂, hsteps, -, hend, hq⟩ := Steps.callFree hM p X.admits X.cas X.clock (acts := []) hfr happ hPc trivial
  have hq' : vx_Q Qc XC mc ms free a (U.calling g mk a) o s₂ := hq
  rw [State.frames_setTop' g h.top] at hend
  obtain ⟨g₀, hg0⟩ := Option.isSome_iff_exists.mp h.top
  obtain ⟨r, hr⟩ := State.topJava?_eq_some.mp hg0
  have hr' : (({ U with heap := s₂.heap, slotsUsed := s₂.slotsUsed } : State).setVm s₂.vm).frames = .java g₀ :: r := hr
  rcases hq' with ⟨hqc, L, hfe, hL⟩ | ⟨q, rfl, E, ce, L, hx, hce, hcv, hcl, hW₂, hsm, hL⟩
  · obtain ⟨⟨v, rfl⟩, hW₂, e2, q2, q3, q4, q5, q6⟩ := id hfe
    have e3 : s₂ = ({ (U.calling g mk a).setFrames s₂.frames with heap := s₂.heap, slotsUsed := s₂.slotsUsed } : State).setVm s₂.vm := by
      have : s₂ = ({ s₂ with vm := (U.calling g mk a).vm } : State).setVm s₂.vm := rfl
      rw [e2] at this
      exact this
    obtain ⟨c₂, i₂, len₂, hc₂, hd₂, hf₂⟩ := hend
    have hW' : U.WarmedH s₂.vm := hW₂
    have hcc : c₂ = c := by
      have h1 : s₂.code? g.method = U.code? g.method := by
        rw [State.code?_eq, State.code?_eq, hW'.alike.method?]
      exact Option.some.inj (hc₂.symm.trans (h1.trans h.code))
    subst hcc
    have hlen : len₂ = len := by rw [hdg] at hd₂; cases hd₂; rfl
    subst hlen
    have hs₂ : s₂ = (({ U with heap := s₂.heap, slotsUsed := s₂.slotsUsed } : State).setVm s₂.vm).setTop { g with pc := g.pc + len₂, stack := v.toList ++ g.stack } := by
      refine e3.trans ?_
      rw [hf₂, State.calling_eq h.top, State.setFrames_setFrames, State.setTop_of_frames _ hr', hr]
      rfl
    have hsame : U.sameButNew ({ U with heap := s₂.heap, slotsUsed := s₂.slotsUsed } : State) L mc ms := by
      refine ⟨?_, q2, q3, q4, q5, q6⟩
      obtain ⟨t, ht, -⟩ := State.frames_cons hr
      show ({ U with heap := s₂.heap, slotsUsed := s₂.slotsUsed } : State) = { U.setFrames U.frames with heap := s₂.heap, slotsUsed := s₂.slotsUsed }
      rw [State.setFrames_self ht]
    subst hg
    refine Or.inl ⟨v, ⟨(({ U with heap := s₂.heap, slotsUsed := s₂.slotsUsed } : State).setVm s₂.vm), Ls ++ L, c0 + mc, s0 + ms⟩,
      ⟨X.admits, X.cas, X.clock, X.frames, X.room, X.hears, X.method, X.code, (X.here.setHeapUsed s₂.heap s₂.slotsUsed).setVm hW'.alike, X.tail, State.WarmedH.trans X.warmed hW', X.limits, X.bytes, X.same.trans (hsame.setVm s.vm)⟩,
      ⟨g, mk, s₂, L, rfl, rfl, hqc, rfl, hL, rfl, rfl⟩, ?_⟩
    show Steps p.tables e below _ ((({ U with heap := s₂.heap, slotsUsed := s₂.slotsUsed } : State).setVm s₂.vm).setTop { g with pc := g.pc + len₂, stack := v.toList ++ g.stack })
    rw [← hs₂]
    exact hsteps
  · obtain ⟨e2, q2, q3, q4, q5, q6⟩ := id hsm
    have e3 : s₂ = ({ (U.calling g mk a).setFrames s₂.frames with heap := s₂.heap, slotsUsed := s₂.slotsUsed } : State).setVm s₂.vm := by
      have : s₂ = ({ s₂ with vm := (U.calling g mk a).vm } : State).setVm s₂.vm := rfl
      rw [e2] at this
      exact this
    have hf₂ : s₂.frames = .throwing q :: .java g :: U.frames.tail := hend
    have hW' : U.WarmedH s₂.vm := hW₂
    have hs₂ : s₂ = ((({ U with heap := s₂.heap, slotsUsed := s₂.slotsUsed } : State).setVm s₂.vm).setTop g).pushFrame (.throwing q) := by
      refine e3.trans ?_
      rw [hf₂, State.calling_eq h.top, State.setFrames_setFrames, State.pushFrame, State.frames_setTop _ hr', State.setTop_of_frames _ hr', State.setFrames_setFrames, hr]
      rfl
    have hsame : U.sameButNew ({ U with heap := s₂.heap, slotsUsed := s₂.slotsUsed } : State) L mc ms := by
      refine ⟨?_, q2, q3, q4, q5, q6⟩
      obtain ⟨t, ht, -⟩ := State.frames_cons hr
      show ({ U with heap := s₂.heap, slotsUsed := s₂.slotsUsed } : State) = { U.setFrames U.frames with heap := s₂.heap, slotsUsed := s₂.slotsUsed }
      rw [State.setFrames_self ht]
    subst hg
    refine Or.inr ⟨q, ⟨(({ U with heap := s₂.heap, slotsUsed := s₂.slotsUsed } : State).setVm s₂.vm), Ls ++ L, c0 + mc, s0 + ms⟩,
      ⟨X.admits, X.cas, X.clock, X.frames, X.room, X.hears, X.method, X.code, (X.here.setHeapUsed s₂.heap s₂.slotsUsed).setVm hW'.alike, X.tail, State.WarmedH.trans X.warmed hW', X.limits, X.bytes, X.same.trans (hsame.setVm s.vm)⟩,
      ⟨g, mk, s₂, L, E, ce, rfl, rfl, hx, hce, hcv, hcl, rfl, hL, rfl, rfl⟩, ?_⟩
    show Steps p.tables e below _ (((({ U with heap := s₂.heap, slotsUsed := s₂.slotsUsed } : State).setVm s₂.vm).setTop g).pushFrame (.throwing q))
    rw [← hs₂]
    exact hsteps
end Payer
section Calls
variable {p : Program} {l : Launch} {e : Env} {R : Room} {s : State} {m : MethodId} {args : Array Value} {below : List Frame} {meth : Method} {c : Code} {T : State} {locs : List Loc} {cells slots : Nat}
theorem vx_callV (X : Stand p l e R s m args below meth c T locs cells slots) (hexec : p.tables.exec = Jvm.exec) {own C : String} {index : Nat} {y : MethodName} {bytes : ByteArray} {maxL : Nat} {ret : Option FieldType}
    (hown : s.vm.findClass own = some m.cls) (hlink : (Cond.methodLink own index y).before args s = true) (hinst : (Cond.instanceMethod y).before args s = true) (hsel : (Cond.selects C y y).before args s = true)
    (hcode : (Cond.code y bytes maxL ret).before args s = true) (hy : y.cls ≠ "java/lang/invoke/MethodHandle" ∧ y.cls ≠ "java/lang/invoke/VarHandle")
    {W9 : Nat} {Pre : Pt → Array Value → Prop} {Post : Pt → Array Value → Option Value → Pt → Prop} {PostX : Pt → Array Value → Addr → Pt → Prop} (hK : vx_Back l R p e below s args y 3 W9 Pre Post PostX)
    {b : Addr} {cellB : Cell} (hcell : T.heap[b]? = some cellB) (hobj : cellB.vm.isStatics = false) (hcls : s.vm.findClass C = some cellB.cls)
    {g : JFrame} (hg : g.method = m) (hsize : g.locals.size = c.maxLocals) {argsL rest : List Value} (hlen : ∀ sig, parseMethodDescriptor y.desc = some sig → argsL.length = sig.parameters.length)
    (hstack : g.stack = argsL.reverse ++ .ref b :: rest) (hW : 2 * g.monitorRoom + (rest.map fun v => v.category).sum ≤ W9) (hdg : decode c.code g.pc = .ok (.invokevirtual index, 3))
    (hpre : ∀ vm₁, s.WarmedH vm₁ → Pre ⟨T.setVm vm₁, locs, cells, slots⟩ (Value.ref b :: argsL).toArray) :
    (∃ (v : Option Value) (vm₁ : Vm) (B : Pt), s.WarmedH vm₁ ∧ Stand p l e R s m args below meth c B.U B.locs B.cells B.slots ∧ Post ⟨T.setVm vm₁, locs, cells, slots⟩ (Value.ref b :: argsL).toArray v B ∧
      ∀ target, Steps p.tables e below (B.U.setTop { g with pc := g.pc + 3, stack := v.toList ++ rest }) target → Steps p.tables e below (T.setTop g) target) ∨
    (∃ (q : Addr) (vm₁ : Vm) (B : Pt), s.WarmedH vm₁ ∧ Stand p l e R s m args below meth c B.U B.locs B.cells B.slots ∧ PostX ⟨T.setVm vm₁, locs, cells, slots⟩ (Value.ref b :: argsL).toArray q B ∧
      Steps p.tables e below (T.setTop g) ((B.U.setTop { g with stack := rest }).pushFrame (.throwing q))) := by
  obtain ⟨mk, methM, hnamed, hmethM, hstM, habM⟩ := Cond.instanceMethod_spec hinst
  obtain ⟨methM', cM, hmethM', -, -, -, -, -, -, hsigM⟩ := Cond.code_spec hnamed hcode
  cases hmethM.symm.trans hmethM'
  obtain ⟨c2, r2, m2, q1, q2, q3, q4, kP, hkP, hkPi⟩ := Cond.selects_spec hsel
  cases hcls.symm.trans q1
  cases (State.methodFound?_of_named hnamed hy).symm.trans q2
  cases hnamed.symm.trans q3
  have hselP : selectMethod e.platform s.vm cellB.cls mk = .method mk := by rw [Launch.admits_selectMethod X.admits]; exact q4
  obtain ⟨vm₁, X₁, hstep₁⟩ := X.invokevirtual hexec hown hlink hnamed hmethM hstM hkP hkPi hy (a := b) (cell := cellB) hcell
    (fun z h => by rw [h] at hobj; cases hobj) hselP hmethM habM hkP hkPi (g := g) hg (argsL := argsL) (rest := rest) (hlen _ hsigM) hstack hdg
  rcases hK m meth c ⟨T.setVm vm₁, locs, cells, slots⟩ { g with stack := rest } (.invokevirtual index) mk (Value.ref b :: argsL).toArray X₁ hg hsize hdg hW (X₁.named hnamed) (hpre vm₁ X₁.warmed) with ⟨v, B, X', hpost, hsteps⟩ | ⟨q, B, X', hpost, hsteps⟩
  · exact Or.inl ⟨v, vm₁, B, X₁.warmed, X', hpost, fun target h => hstep₁ _ fun acts => by rw [doInvoke_state]; exact hsteps.trans h⟩
  · exact Or.inr ⟨q, vm₁, B, X₁.warmed, X', hpost, hstep₁ _ fun acts => by rw [doInvoke_state]; exact hsteps⟩
theorem vx_callS (X : Stand p l e R s m args below meth c T locs cells slots) (hexec : p.tables.exec = Jvm.exec) {own : String} {index : Nat} {y : MethodName} {bytes : ByteArray} {maxL : Nat} {ret : Option FieldType}
    (hown : s.vm.findClass own = some m.cls) (hlink : (Cond.methodLink own index y).before args s = true) (hstat : (Cond.static y).before args s = true) (hinit : (Cond.initialized y.cls).before args s = true)
    (hcode : (Cond.code y bytes maxL ret).before args s = true) (hy : y.cls ≠ "java/lang/invoke/MethodHandle" ∧ y.cls ≠ "java/lang/invoke/VarHandle")
    {W9 : Nat} {Pre : Pt → Array Value → Prop} {Post : Pt → Array Value → Option Value → Pt → Prop} {PostX : Pt → Array Value → Addr → Pt → Prop} (hK : vx_Back l R p e below s args y 3 W9 Pre Post PostX)
    {g : JFrame} (hg : g.method = m) (hsize : g.locals.size = c.maxLocals) {argsL rest : List Value} (hlen : ∀ sig, parseMethodDescriptor y.desc = some sig → argsL.length = sig.parameters.length)
    (hstack : g.stack = argsL.reverse ++ rest) (hW : 2 * g.monitorRoom + (rest.map fun v => v.category).sum ≤ W9) (hdg : decode c.code g.pc = .ok (.invokestatic index, 3))
    (hpre : ∀ vm₁, s.WarmedH vm₁ → Pre ⟨T.setVm vm₁, locs, cells, slots⟩ argsL.toArray) :
    (∃ (v : Option Value) (vm₁ : Vm) (B : Pt), s.WarmedH vm₁ ∧ Stand p l e R s m args below meth c B.U B.locs B.cells B.slots ∧ Post ⟨T.setVm vm₁, locs, cells, slots⟩ argsL.toArray v B ∧
      ∀ target, Steps p.tables e below (B.U.setTop { g with pc := g.pc + 3, stack := v.toList ++ rest }) target → Steps p.tables e below (T.setTop g) target) ∨
    (∃ (q : Addr) (vm₁ : Vm) (B : Pt), s.WarmedH vm₁ ∧ Stand p l e R s m args below meth c B.U B.locs B.cells B.slots ∧ PostX ⟨T.setVm vm₁, locs, cells, slots⟩ argsL.toArray q B ∧
      Steps p.tables e below (T.setTop g) ((B.U.setTop { g with stack := rest }).pushFrame (.throwing q))) := by
  obtain ⟨mk, hnamed⟩ := Cond.code_named hcode
  obtain ⟨methM, cM, hmethM, -, -, -, -, -, -, hsigM⟩ := Cond.code_spec hnamed hcode
  have hstatic : methM.isStatic = true := Cond.static_spec hnamed hmethM hstat
  obtain ⟨kP, hkP, -⟩ := className_of_methodNamed hnamed
  have hinitP : kP.init = .initialized := Cond.initialized_spec (findClass_of_methodNamed hnamed) hkP hinit
  obtain ⟨vm₁, X₁, hstep₁⟩ := X.invokestatic hexec hown hlink hnamed hmethM hstatic hkP hinitP hy (g := g) hg (argsL := argsL) (rest := rest) (hlen _ hsigM) hstack hdg
  rcases hK m meth c ⟨T.setVm vm₁, locs, cells, slots⟩ { g with stack := rest } (.invokestatic index) mk argsL.toArray X₁ hg hsize hdg hW (X₁.named hnamed) (hpre vm₁ X₁.warmed) with ⟨v, B, X', hpost, hsteps⟩ | ⟨q, B, X', hpost, hsteps⟩
  · exact Or.inl ⟨v, vm₁, B, X₁.warmed, X', hpost, fun target h => hstep₁ _ fun acts => by rw [doInvoke_state]; exact hsteps.trans h⟩
  · exact Or.inr ⟨q, vm₁, B, X₁.warmed, X', hpost, hstep₁ _ fun acts => by rw [doInvoke_state]; exact hsteps⟩
end Calls
theorem vx_cls {s : State} {T : State} {vm₁ : Vm} {E : String} {k : ClassId} (hW : s.WarmedH vm₁) (h : (T.setVm vm₁).vm.findClass E = some k) : s.vm.findClass E = some k := by
  have h1 : vm₁.findClass E = some k := h
  rw [hW.alike.findClass] at h1
  exact h1
/-- the method's frame g, with q thrown over it -/
def vx_W (p : Program) (l : Launch) (e : Env) (R : Room) (s : State) (m : MethodId) (args : Array Value) (below : List Frame) (meth : Method) (c : Code) (H : Heap) (locs : List Loc) (cells slots : Nat) (Q : State → Prop) (g : JFrame) (q : Addr) : Prop :=
  ∀ T : State, T.heap = H → Stand p l e R s m args below meth c T locs cells slots → ∃ t, Steps p.tables e below ((T.setTop g).pushFrame (.throwing q)) t ∧ Q t
def vx_Run (p : Program) (l : Launch) (e : Env) (R : Room) (s : State) (m : MethodId) (args : Array Value) (below : List Frame) (meth : Method) (c : Code) (H : Heap) (locs : List Loc) (cells slots mc ms : Nat) (g : JFrame) (rest : List Value) (Qa : State → Outcome → State → Prop) (XC : String → State → State → Prop) (free : Addr → Prop) : Prop :=
  ∀ T : State, T.heap = H → Stand p l e R s m args below meth c T locs cells slots →
    (∃ (v : Option Value) (st₀ t T' : State) (L : List Loc), st₀.heap = H ∧ Stand p l e R s m args below meth c T' (locs ++ L) (cells + mc) (slots + ms) ∧ (∀ q ∈ L, free q.base) ∧ T'.heap = t.heap ∧ T'.vm = t.vm ∧ Qa st₀ (.returned v) t ∧
      Goes p e below T g T' { g with pc := g.pc + 3, stack := v.toList ++ rest }) ∨
    (∃ (q : Addr) (st₀ t T' : State) (L : List Loc) (E : String) (ce : Cell), st₀.heap = H ∧ Stand p l e R s m args below meth c T' (locs ++ L) (cells + mc) (slots + ms) ∧ (∀ z ∈ L, free z.base) ∧ T'.heap = t.heap ∧ T'.vm = t.vm ∧ XC E st₀ t ∧ t.heap[q]? = some ce ∧ ce.vm = .none ∧ s.vm.findClass E = some ce.cls ∧
      Steps p.tables e below (T.setTop g) ((T'.setTop { g with stack := rest }).pushFrame (.throwing q)))
def vx_X {S : Type} (px : S → Prop) (B : String → S → State → Prop) (A : Nat → Prop) : String → State → State → Prop := fun E st t => ∃ u : S, px u ∧ B E u t ∧ va_F A st t
section Runs
variable {p : Program} {l : Launch} {e : Env} {R : Room} {s : State} {m : MethodId} {args : Array Value} {below : List Frame} {meth : Method} {c : Code} {H : Heap} {locs : List Loc} {cells slots : Nat}
variable {y : MethodName} {bytes cc : ByteArray} {maxL nL mc ms n index : Nat} {ret : Option FieldType} {ws : List Cond} {rm : Room} {Pc : Array Value → State → Prop} {Qc : Array Value → State → Outcome → State → Prop} {XC : String → State → State → Prop} {free : Addr → Prop} {Ts : List Cond} {own C : String} {b : Addr} {As rest : List Value} {g : JFrame}
theorem vx_callBack (cb : CallB R s args own index y bytes maxL ret ws rm mc ms n) (hM : vx_Met l y ws rm Pc Qc XC mc ms free) (hbl : FrameBlind Pc) : vx_Back l R p e below s args y 3 8 (PreOf R mc ms Pc) (PostOf Qc mc ms free) (vx_Post XC mc ms free) := by
  obtain ⟨hrc, hrs, hfr, hlo, hws, hcw, -, hini, -⟩ := cb
  exact vx_back (bytes := bytes) (maxL := maxL) (ret := ret) hM hbl hrc hrs hfr hlo hws hcw (fun a' U hW => word_at hW (Or.inl (by first | rfl | simp [Cond.onTables, Cond.keeps, Cond.steady])) hini)
theorem vx_runV (S : CallFix p m c cc nL s args Ts own) (hM : vx_Met l y ws rm Pc Qc XC mc ms free) (cw : CallW R s args own C index y bytes maxL ret ws rm mc ms n) (hp : PreV s H C b Pc As)
    (hg : g.method = m) (hn : As.length = n) (hsize : g.locals.size = nL) (hstack : g.stack = As.reverse ++ .ref b :: rest) (hW : 2 * g.monitorRoom + (rest.map fun v => v.category).sum ≤ 8) (hdg : decode cc g.pc = .ok (.invokevirtual index, 3)) (hf : cells + mc ≤ R.cells ∧ slots + ms ≤ R.slots) :
    vx_Run p l e R s m args below meth c H locs cells slots mc ms g rest (Qc (Value.ref b :: As).toArray) XC free := by
  have hK : vx_Back l R p e below s args y 3 8 (PreOf R mc ms Pc) (PostOf Qc mc ms free) (vx_Post XC mc ms free) := vx_callBack cw.1 hM hp.1
  obtain ⟨⟨-, -, -, -, -, -, hcode, -, hy, hlen, hl⟩, hin, hse⟩ := cw
  obtain ⟨hx, hb, hml, ho, -⟩ := S
  obtain ⟨-, ⟨cellB, hcB, hoB, hclB⟩, hPc⟩ := hp
  intro T hT X
  rcases vx_callV X hx (C := C) (bytes := bytes) (maxL := maxL) (ret := ret) ho hl hin hse hcode hy hK (by rw [hT]; exact hcB) hoB hclB hg (hsize.trans hml.symm) (argsL := As) (rest := rest) (fun sig h => hn.trans (hlen sig h)) hstack hW (by rw [hb]; exact hdg)
    (fun vm₁ hW₁ => ⟨hf.1, hf.2, hPc (T.setVm vm₁) hT hW₁⟩) with ⟨v, vm₁, ⟨U', l2, c2, s2⟩, hW₁, X', ⟨g', mk, t, L, e1, e2, hq, h1, hL, h2, h3⟩, st⟩ | ⟨q, vm₁, ⟨U', l2, c2, s2⟩, hW₁, X', ⟨g', mk, t, L, E, ce, e1, e2, hq, hce, hcv, hcl, h1, hL, h2, h3⟩, st⟩
  · dsimp only [Pt.U, Pt.locs, Pt.cells, Pt.slots] at X' e1 e2 h1 h2 h3 st
    subst h1; subst h2; subst h3
    exact Or.inl ⟨v, (T.setVm vm₁).calling g' mk (Value.ref b :: As).toArray, t, U', L, hT, X', hL, e1, e2, hq, st⟩
  · dsimp only [Pt.U, Pt.locs, Pt.cells, Pt.slots] at X' e1 e2 h1 h2 h3 st hcl
    subst h1; subst h2; subst h3
    exact Or.inr ⟨q, (T.setVm vm₁).calling g' mk (Value.ref b :: As).toArray, t, U', L, E, ce, hT, X', hL, e1, e2, hq, hce, hcv, vx_cls hW₁ hcl, st⟩
theorem vx_runS (S : CallFix p m c cc nL s args Ts own) (hM : vx_Met l y ws rm Pc Qc XC mc ms free) (cw : CallB R s args own index y bytes maxL ret ws rm mc ms n ∧ (Cond.static y).before args s = true) (hp : PreS s H Pc As)
    (hg : g.method = m) (hn : As.length = n) (hsize : g.locals.size = nL) (hstack : g.stack = As.reverse ++ rest) (hW : 2 * g.monitorRoom + (rest.map fun v => v.category).sum ≤ 8) (hdg : decode cc g.pc = .ok (.invokestatic index, 3)) (hf : cells + mc ≤ R.cells ∧ slots + ms ≤ R.slots) :
    vx_Run p l e R s m args below meth c H locs cells slots mc ms g rest (Qc As.toArray) XC free := by
  have hK : vx_Back l R p e below s args y 3 8 (PreOf R mc ms Pc) (PostOf Qc mc ms free) (vx_Post XC mc ms free) := vx_callBack cw.1 hM hp.1
  obtain ⟨⟨-, -, -, -, -, -, hcode, hini, hy, hlen, hl⟩, hstt⟩ := cw
  obtain ⟨hx, hb, hml, ho, -⟩ := S
  intro T hT X
  rcases vx_callS X hx (bytes := bytes) (maxL := maxL) (ret := ret) ho hl hstt hini hcode hy hK hg (hsize.trans hml.symm) (argsL := As) (rest := rest) (fun sig h => hn.trans (hlen sig h)) hstack hW (by rw [hb]; exact hdg)
    (fun vm₁ hW₁ => ⟨hf.1, hf.2, hp.2 (T.setVm vm₁) hT hW₁⟩) with ⟨v, vm₁, ⟨U', l2, c2, s2⟩, hW₁, X', ⟨g', mk, t, L, e1, e2, hq, h1, hL, h2, h3⟩, st⟩ | ⟨q, vm₁, ⟨U', l2, c2, s2⟩, hW₁, X', ⟨g', mk, t, L, E, ce, e1, e2, hq, hce, hcv, hcl, h1, hL, h2, h3⟩, st⟩
  · dsimp only [Pt.U, Pt.locs, Pt.cells, Pt.slots] at X' e1 e2 h1 h2 h3 st
    subst h1; subst h2; subst h3
    exact Or.inl ⟨v, (T.setVm vm₁).calling g' mk As.toArray, t, U', L, hT, X', hL, e1, e2, hq, st⟩
  · dsimp only [Pt.U, Pt.locs, Pt.cells, Pt.slots] at X' e1 e2 h1 h2 h3 st hcl
    subst h1; subst h2; subst h3
    exact Or.inr ⟨q, (T.setVm vm₁).calling g' mk As.toArray, t, U', L, E, ce, hT, X', hL, e1, e2, hq, hce, hcv, vx_cls hW₁ hcl, st⟩
end Runs
section Rows
variable {p : Program} {l : Launch} {e : Env} {R : Room} {s : State} {m : MethodId} {args : Array Value} {below : List Frame} {meth : Method} {c : Code} {H : Heap} {locs : List Loc} {cells slots : Nat} {Q : State → Prop}
variable {mc ms : Nat} {free : Addr → Prop} {A0 A1 : Nat → Prop} {H0 : Heap} {a : Array Value} {pc : Nat} {ls : Array Slot} {st0 rest : List Value}
theorem vx_keep {st₀ t T' : State} {L : List Loc} (h0 : st₀.heap = H) (e1 : T'.heap = t.heap) (hS : va_S A0 H0 H locs) (hA : ∀ q, q < H.size → A1 q → A0 q) (hf : ∀ q, free q → A0 q) (hL : ∀ q ∈ L, free q.base) (hF : va_F A1 st₀ t) :
    H.size ≤ T'.heap.size ∧ (∀ q : Nat, q < H.size → ¬ A1 q → T'.heap[q]? = H[q]?) ∧ va_S A0 H0 T'.heap (locs ++ L) := by
  obtain ⟨hz, hk⟩ := hF
  rw [h0] at hz hk
  exact ⟨by rw [e1]; exact hz, fun q h1 h2 => by rw [e1]; exact hk q h1 h2,
    ⟨Nat.le_trans hS.1 (by rw [e1]; exact hz), fun q h1 h2 => by rw [e1, hk q (Nat.lt_of_lt_of_le h1 hS.1) (fun z => h2 (hA q (Nat.lt_of_lt_of_le h1 hS.1) z))]; exact hS.2.1 q h1 h2, fun q hq => by
      rcases List.mem_append.mp hq with h | h
      · exact hS.2.2 q h
      · exact hf _ (hL q h)⟩⟩
theorem vx_calli {S SX : Type} {post : Int32 → S → Prop} {px : SX → Prop} {B : S → State → Prop} {BX : String → SX → State → Prop} {AX : Nat → Prop} (hr : vx_Run p l e R s m args below meth c H locs cells slots mc ms (F0 m pc ls st0) rest (va_Qi post B A1 a) (vx_X px BX AX) free) (hS : va_S A0 H0 H locs) (hA : ∀ q, q < H.size → A1 q → A0 q) (hf : ∀ q, free q → A0 q) (hAX : ∀ q, q < H.size → AX q → A0 q)
    (kx : ∀ (E : String) (ce : Cell) (q9 : Addr) (u : SX) (t : State) (H1 : Heap) (locs1 : List Loc), t.heap = H1 → s.vm.Alike t.vm → px u → BX E u t → H.size ≤ H1.size → (∀ q : Nat, q < H.size → ¬ AX q → H1[q]? = H[q]?) → va_S A0 H0 H1 locs1 → H1[q9]? = some ce → ce.vm = .none → s.vm.findClass E = some ce.cls → vx_W p l e R s m args below meth c H1 locs1 (cells + mc) (slots + ms) Q (F0 m pc ls rest) q9)
    (kk : ∀ (r : Int32) (u : S) (t : State) (H1 : Heap) (locs1 : List Loc), t.heap = H1 → s.vm.Alike t.vm → post r u → B u t → H.size ≤ H1.size → (∀ q : Nat, q < H.size → ¬ A1 q → H1[q]? = H[q]?) → va_S A0 H0 H1 locs1 → W p l e R s m args below meth c H1 locs1 (cells + mc) (slots + ms) Q (F0 m (pc + 3) ls (.int r :: rest))) : W p l e R s m args below meth c H locs cells slots Q (F0 m pc ls st0) := by
  intro T hT X
  rcases hr T hT X with ⟨v, st₀, t, T', L, h0, X', hL, e1, e2, ⟨⟨r, u, hv, hp, hb⟩, hF⟩, st⟩ | ⟨q, st₀, t, T', L, E, ce, h0, X', hL, e1, e2, ⟨u, hp, hb, hF⟩, hce, hcv, hcl, st⟩
  · cases hv
    obtain ⟨k1, k2, k3⟩ := vx_keep h0 e1 hS hA hf hL hF
    obtain ⟨t2, a1, b1⟩ := kk r u t T'.heap (locs ++ L) e1.symm (by rw [← e2]; exact X'.warmed.alike) hp hb k1 k2 k3 T' rfl X'
    exact ⟨t2, st t2 a1, b1⟩
  · obtain ⟨k1, k2, k3⟩ := vx_keep h0 e1 hS hAX hf hL hF
    obtain ⟨t2, a1, b1⟩ := kx E ce q u t T'.heap (locs ++ L) e1.symm (by rw [← e2]; exact X'.warmed.alike) hp hb k1 k2 k3 (by rw [e1]; exact hce) hcv hcl T' rfl X'
    exact ⟨t2, st.trans a1, b1⟩
theorem vx_calll {S SX : Type} {post : Int64 → S → Prop} {px : SX → Prop} {B : S → State → Prop} {BX : String → SX → State → Prop} {AX : Nat → Prop} (hr : vx_Run p l e R s m args below meth c H locs cells slots mc ms (F0 m pc ls st0) rest (va_Ql post B A1 a) (vx_X px BX AX) free) (hS : va_S A0 H0 H locs) (hA : ∀ q, q < H.size → A1 q → A0 q) (hf : ∀ q, free q → A0 q) (hAX : ∀ q, q < H.size → AX q → A0 q)
    (kx : ∀ (E : String) (ce : Cell) (q9 : Addr) (u : SX) (t : State) (H1 : Heap) (locs1 : List Loc), t.heap = H1 → s.vm.Alike t.vm → px u → BX E u t → H.size ≤ H1.size → (∀ q : Nat, q < H.size → ¬ AX q → H1[q]? = H[q]?) → va_S A0 H0 H1 locs1 → H1[q9]? = some ce → ce.vm = .none → s.vm.findClass E = some ce.cls → vx_W p l e R s m args below meth c H1 locs1 (cells + mc) (slots + ms) Q (F0 m pc ls rest) q9)
    (kk : ∀ (r : Int64) (u : S) (t : State) (H1 : Heap) (locs1 : List Loc), t.heap = H1 → s.vm.Alike t.vm → post r u → B u t → H.size ≤ H1.size → (∀ q : Nat, q < H.size → ¬ A1 q → H1[q]? = H[q]?) → va_S A0 H0 H1 locs1 → W p l e R s m args below meth c H1 locs1 (cells + mc) (slots + ms) Q (F0 m (pc + 3) ls (.long r :: rest))) : W p l e R s m args below meth c H locs cells slots Q (F0 m pc ls st0) := by
  intro T hT X
  rcases hr T hT X with ⟨v, st₀, t, T', L, h0, X', hL, e1, e2, ⟨⟨r, u, hv, hp, hb⟩, hF⟩, st⟩ | ⟨q, st₀, t, T', L, E, ce, h0, X', hL, e1, e2, ⟨u, hp, hb, hF⟩, hce, hcv, hcl, st⟩
  · cases hv
    obtain ⟨k1, k2, k3⟩ := vx_keep h0 e1 hS hA hf hL hF
    obtain ⟨t2, a1, b1⟩ := kk r u t T'.heap (locs ++ L) e1.symm (by rw [← e2]; exact X'.warmed.alike) hp hb k1 k2 k3 T' rfl X'
    exact ⟨t2, st t2 a1, b1⟩
  · obtain ⟨k1, k2, k3⟩ := vx_keep h0 e1 hS hAX hf hL hF
    obtain ⟨t2, a1, b1⟩ := kx E ce q u t T'.heap (locs ++ L) e1.symm (by rw [← e2]; exact X'.warmed.alike) hp hb k1 k2 k3 (by rw [e1]; exact hce) hcv hcl T' rfl X'
    exact ⟨t2, st.trans a1, b1⟩
theorem vx_callf {S SX : Type} {post : UInt32 → S → Prop} {px : SX → Prop} {B : S → State → Prop} {BX : String → SX → State → Prop} {AX : Nat → Prop} (hr : vx_Run p l e R s m args below meth c H locs cells slots mc ms (F0 m pc ls st0) rest (va_Qf post B A1 a) (vx_X px BX AX) free) (hS : va_S A0 H0 H locs) (hA : ∀ q, q < H.size → A1 q → A0 q) (hf : ∀ q, free q → A0 q) (hAX : ∀ q, q < H.size → AX q → A0 q)
    (kx : ∀ (E : String) (ce : Cell) (q9 : Addr) (u : SX) (t : State) (H1 : Heap) (locs1 : List Loc), t.heap = H1 → s.vm.Alike t.vm → px u → BX E u t → H.size ≤ H1.size → (∀ q : Nat, q < H.size → ¬ AX q → H1[q]? = H[q]?) → va_S A0 H0 H1 locs1 → H1[q9]? = some ce → ce.vm = .none → s.vm.findClass E = some ce.cls → vx_W p l e R s m args below meth c H1 locs1 (cells + mc) (slots + ms) Q (F0 m pc ls rest) q9)
    (kk : ∀ (r : UInt32) (u : S) (t : State) (H1 : Heap) (locs1 : List Loc), t.heap = H1 → s.vm.Alike t.vm → post r u → B u t → H.size ≤ H1.size → (∀ q : Nat, q < H.size → ¬ A1 q → H1[q]? = H[q]?) → va_S A0 H0 H1 locs1 → W p l e R s m args below meth c H1 locs1 (cells + mc) (slots + ms) Q (F0 m (pc + 3) ls (.float r :: rest))) : W p l e R s m args below meth c H locs cells slots Q (F0 m pc ls st0) := by
  intro T hT X
  rcases hr T hT X with ⟨v, st₀, t, T', L, h0, X', hL, e1, e2, ⟨⟨r, u, hv, hp, hb⟩, hF⟩, st⟩ | ⟨q, st₀, t, T', L, E, ce, h0, X', hL, e1, e2, ⟨u, hp, hb, hF⟩, hce, hcv, hcl, st⟩
  · cases hv
    obtain ⟨k1, k2, k3⟩ := vx_keep h0 e1 hS hA hf hL hF
    obtain ⟨t2, a1, b1⟩ := kk r u t T'.heap (locs ++ L) e1.symm (by rw [← e2]; exact X'.warmed.alike) hp hb k1 k2 k3 T' rfl X'
    exact ⟨t2, st t2 a1, b1⟩
  · obtain ⟨k1, k2, k3⟩ := vx_keep h0 e1 hS hAX hf hL hF
    obtain ⟨t2, a1, b1⟩ := kx E ce q u t T'.heap (locs ++ L) e1.symm (by rw [← e2]; exact X'.warmed.alike) hp hb k1 k2 k3 (by rw [e1]; exact hce) hcv hcl T' rfl X'
    exact ⟨t2, st.trans a1, b1⟩
theorem vx_calld {S SX : Type} {post : UInt64 → S → Prop} {px : SX → Prop} {B : S → State → Prop} {BX : String → SX → State → Prop} {AX : Nat → Prop} (hr : vx_Run p l e R s m args below meth c H locs cells slots mc ms (F0 m pc ls st0) rest (va_Qd post B A1 a) (vx_X px BX AX) free) (hS : va_S A0 H0 H locs) (hA : ∀ q, q < H.size → A1 q → A0 q) (hf : ∀ q, free q → A0 q) (hAX : ∀ q, q < H.size → AX q → A0 q)
    (kx : ∀ (E : String) (ce : Cell) (q9 : Addr) (u : SX) (t : State) (H1 : Heap) (locs1 : List Loc), t.heap = H1 → s.vm.Alike t.vm → px u → BX E u t → H.size ≤ H1.size → (∀ q : Nat, q < H.size → ¬ AX q → H1[q]? = H[q]?) → va_S A0 H0 H1 locs1 → H1[q9]? = some ce → ce.vm = .none → s.vm.findClass E = some ce.cls → vx_W p l e R s m args below meth c H1 locs1 (cells + mc) (slots + ms) Q (F0 m pc ls rest) q9)
    (kk : ∀ (r : UInt64) (u : S) (t : State) (H1 : Heap) (locs1 : List Loc), t.heap = H1 → s.vm.Alike t.vm → post r u → B u t → H.size ≤ H1.size → (∀ q : Nat, q < H.size → ¬ A1 q → H1[q]? = H[q]?) → va_S A0 H0 H1 locs1 → W p l e R s m args below meth c H1 locs1 (cells + mc) (slots + ms) Q (F0 m (pc + 3) ls (.double r :: rest))) : W p l e R s m args below meth c H locs cells slots Q (F0 m pc ls st0) := by
  intro T hT X
  rcases hr T hT X with ⟨v, st₀, t, T', L, h0, X', hL, e1, e2, ⟨⟨r, u, hv, hp, hb⟩, hF⟩, st⟩ | ⟨q, st₀, t, T', L, E, ce, h0, X', hL, e1, e2, ⟨u, hp, hb, hF⟩, hce, hcv, hcl, st⟩
  · cases hv
    obtain ⟨k1, k2, k3⟩ := vx_keep h0 e1 hS hA hf hL hF
    obtain ⟨t2, a1, b1⟩ := kk r u t T'.heap (locs ++ L) e1.symm (by rw [← e2]; exact X'.warmed.alike) hp hb k1 k2 k3 T' rfl X'
    exact ⟨t2, st t2 a1, b1⟩
  · obtain ⟨k1, k2, k3⟩ := vx_keep h0 e1 hS hAX hf hL hF
    obtain ⟨t2, a1, b1⟩ := kx E ce q u t T'.heap (locs ++ L) e1.symm (by rw [← e2]; exact X'.warmed.alike) hp hb k1 k2 k3 (by rw [e1]; exact hce) hcv hcl T' rfl X'
    exact ⟨t2, st.trans a1, b1⟩
theorem vx_callv {S SX : Type} {post : S → Prop} {px : SX → Prop} {B : S → State → Prop} {BX : String → SX → State → Prop} {AX : Nat → Prop} (hr : vx_Run p l e R s m args below meth c H locs cells slots mc ms (F0 m pc ls st0) rest (va_Qv post B A1 a) (vx_X px BX AX) free) (hS : va_S A0 H0 H locs) (hA : ∀ q, q < H.size → A1 q → A0 q) (hf : ∀ q, free q → A0 q) (hAX : ∀ q, q < H.size → AX q → A0 q)
    (kx : ∀ (E : String) (ce : Cell) (q9 : Addr) (u : SX) (t : State) (H1 : Heap) (locs1 : List Loc), t.heap = H1 → s.vm.Alike t.vm → px u → BX E u t → H.size ≤ H1.size → (∀ q : Nat, q < H.size → ¬ AX q → H1[q]? = H[q]?) → va_S A0 H0 H1 locs1 → H1[q9]? = some ce → ce.vm = .none → s.vm.findClass E = some ce.cls → vx_W p l e R s m args below meth c H1 locs1 (cells + mc) (slots + ms) Q (F0 m pc ls rest) q9)
    (kk : ∀ (u : S) (t : State) (H1 : Heap) (locs1 : List Loc), t.heap = H1 → s.vm.Alike t.vm → post u → B u t → H.size ≤ H1.size → (∀ q : Nat, q < H.size → ¬ A1 q → H1[q]? = H[q]?) → va_S A0 H0 H1 locs1 → W p l e R s m args below meth c H1 locs1 (cells + mc) (slots + ms) Q (F0 m (pc + 3) ls (rest))) : W p l e R s m args below meth c H locs cells slots Q (F0 m pc ls st0) := by
  intro T hT X
  rcases hr T hT X with ⟨v, st₀, t, T', L, h0, X', hL, e1, e2, ⟨⟨u, hv, hp, hb⟩, hF⟩, st⟩ | ⟨q, st₀, t, T', L, E, ce, h0, X', hL, e1, e2, ⟨u, hp, hb, hF⟩, hce, hcv, hcl, st⟩
  · cases hv
    obtain ⟨k1, k2, k3⟩ := vx_keep h0 e1 hS hA hf hL hF
    obtain ⟨t2, a1, b1⟩ := kk u t T'.heap (locs ++ L) e1.symm (by rw [← e2]; exact X'.warmed.alike) hp hb k1 k2 k3 T' rfl X'
    exact ⟨t2, st t2 a1, b1⟩
  · obtain ⟨k1, k2, k3⟩ := vx_keep h0 e1 hS hAX hf hL hF
    obtain ⟨t2, a1, b1⟩ := kx E ce q u t T'.heap (locs ++ L) e1.symm (by rw [← e2]; exact X'.warmed.alike) hp hb k1 k2 k3 (by rw [e1]; exact hce) hcv hcl T' rfl X'
    exact ⟨t2, st.trans a1, b1⟩
/-- caught by the row x of this method's table; the rows ahead don't take it -/
theorem vx_catch {own name : String} {E : String} {ce : Cell} {q : Addr} (hown : s.vm.findClass own = some m.cls) (pre : List ExceptionTableEntry) (x : ExceptionTableEntry) (suf : List ExceptionTableEntry) (hsplit : c.exceptionTable.toList = pre ++ x :: suf)
    (hpass : ∀ z ∈ pre, covers z pc = false ∨ (z.catchType ≠ 0 ∧ ∃ nm : String, (Cond.classLink own z.catchType nm).before args s = true ∧ va_Nc E nm s)) (hx : covers x pc = true) (h0 : x.catchType ≠ 0)
    (hlink : (Cond.classLink own x.catchType name).before args s = true) (hcast : (Cond.castable E name).before args s = true) (hcell : H[q]? = some ce) (hv : ce.vm = .none) (hcl : s.vm.findClass E = some ce.cls)
    (kk : W p l e R s m args below meth c H locs cells slots Q (F0 m x.handlerPc ls [.ref q])) : vx_W p l e R s m args below meth c H locs cells slots Q (F0 m pc ls rest) q := by
  intro T hT X
  have hpl : e.platform.magicAccessors = ({} : Platform).magicAccessors := by rw [X.admits.platform]
  obtain ⟨c3, c4, hc3, hc4, hasg⟩ := Cond.castable_spec hcast
  cases Option.some.inj (hc3.symm.trans hcl)
  obtain ⟨c5, hc5, hcl5⟩ := Cond.classLink_spec hown hlink e.platform hpl
  cases Option.some.inj (hc4.symm.trans hc5)
  obtain ⟨vm', X', st⟩ := X.thenCaughtThrough q (g := F0 m pc ls rest) rfl (Steps.refl _) (by rw [hT]; exact hcell) (by rw [hv]; rfl) (by obtain ⟨k9, h9, -⟩ := Vm.findClass_spec hcl; exact ⟨k9, h9⟩) pre x suf hsplit
    (fun z hz => by
      rcases hpass z hz with h | ⟨hz0, nm, hl1, hn1⟩
      · exact Or.inl h
      · obtain ⟨c6, hc6, hcl6⟩ := Cond.classLink_spec hown hl1 e.platform hpl
        obtain ⟨a8, b8, h1, h2, h3⟩ := hn1
        cases Option.some.inj (h1.symm.trans hcl)
        cases Option.some.inj (h2.symm.trans hc6)
        exact Or.inr ⟨hz0, _, hcl6, h3⟩) hx (Or.inr ⟨h0, c4, hcl5, hasg⟩)
  obtain ⟨t, a1, b1⟩ := kk (T.setVm vm') hT X'
  exact ⟨t, st.trans a1, b1⟩
end Rows
section Ends
variable {p : Program} {l : Launch} {e : Env} {R : Room} {s : State} {m : MethodId} {args : Array Value} {below : List Frame} {meth : Method} {c : Code} {H : Heap} {locs : List Loc} {cells slots : Nat} {Q : State → Prop}
variable {mc ms : Nat} {free : Addr → Prop} {A0 A1 : Nat → Prop} {H0 : Heap} {a : Array Value} {ls : Array Slot} {st0 rest : List Value}
variable {Qc : Array Value → State → Outcome → State → Prop} {XC : String → State → State → Prop}
/-- what a body that may throw owes at its end -/
def vx_MQ (below : List Frame) (Qc : Array Value → State → Outcome → State → Prop) (XC : String → State → State → Prop) (a : Array Value) (s : State) (mc ms : Nat) (free : Addr → Prop) : State → Prop := fun t =>
  ∃ o, t.status = .running ∧ Ended t below o ∧ vx_Q Qc XC mc ms free a s o t
theorem vx_ret {g : JFrame} {mc ms : Nat} (k : W p l e R s m args below meth c H locs cells slots (MQ below Qc args s mc ms free) g) : W p l e R s m args below meth c H locs cells slots (vx_MQ below Qc XC args s mc ms free) g := by
  intro T hT X
  obtain ⟨t, a1, o, b1, b2, b3, b4⟩ := k T hT X
  exact ⟨t, a1, o, b1, b2, Or.inl ⟨b3, b4⟩⟩
/-- not caught here: it goes on to the caller -/
theorem vx_widen {g : JFrame} {q : Addr} {k n : Nat} (h1 : cells ≤ k) (h2 : slots ≤ n) (kk : vx_W p l e R s m args below meth c H locs k n Q g q) : vx_W p l e R s m args below meth c H locs cells slots Q g q := fun T hT X => kk T hT (stand_widen X h1 h2)
theorem vx_out {pc : Nat} {E : String} {ce : Cell} {q : Addr} {mc ms : Nat} (hout : ∀ x ∈ c.exceptionTable.toList, covers x pc = false) (hlocks : meth.locks = false) (hcell : H[q]? = some ce) (hv : ce.vm = .none) (hcl : s.vm.findClass E = some ce.cls)
    (hx : ∀ t : State, t.heap = H → s.vm.Alike t.vm → XC E s t) (hf : ∀ z ∈ locs, free z.base) (hc : cells ≤ mc) (hs : slots ≤ ms) :
    vx_W p l e R s m args below meth c H locs cells slots (vx_MQ below Qc XC args s mc ms free) (F0 m pc ls rest) q := by
  intro T hT X
  obtain ⟨st1, hrun, hend, hW, hsm⟩ := X.leaveThrown q (g := F0 m pc ls rest) rfl rfl rfl hout hlocks
  have hcell9 : (T.setFrames (.throwing q :: below)).heap[q]? = some ce := by
    show T.heap[q]? = some ce
    rw [hT]; exact hcell
  exact ⟨_, st1, .threw q, hrun, hend, Or.inr ⟨q, rfl, E, ce, locs, hx _ hT hW.alike, hcell9, hv, hcl, hW, hsm.mono hc hs, hf⟩⟩
theorem vx_frame {U : State} {k n : Nat} (h : s.sameButNew ({ U with vm := s.vm } : State) locs k n) : s.heap.size ≤ U.heap.size ∧ ∀ q : Nat, q < s.heap.size → (∀ z ∈ locs, z.base ≠ q) → U.heap[q]? = s.heap[q]? := by
  obtain ⟨-, h2, -, -, -, h6⟩ := h
  refine ⟨h2, fun q hq hz => ?_⟩
  obtain ⟨c9, e1, e2, e3, e4⟩ := h6 q _ (Array.getElem?_eq_getElem hq)
  have hs : c9.slots = (s.heap[q]).slots := Array.ext_getElem? fun i => e4 i fun hm => hz _ hm rfl
  have h9 : c9 = s.heap[q] := by
    rw [hs] at e2
    exact e2
  have e5 : U.heap[q]? = some c9 := e1
  rw [e5, h9, Array.getElem?_eq_getElem hq]
/-- the words of a throw but the four that speak of the heap -/
def vx_no (w : Cond) : Bool := decide (w ≠ .isRef (.static Bundle.tN "UNASSIGNED_STACK" Bundle.steD)) && decide (w ≠ .isRef (.static Bundle.tN "SUPPRESSED_SENTINEL" Bundle.listD)) && decide (w ≠ .laysStatic Bundle.tN "UNASSIGNED_STACK" Bundle.steD) && decide (w ≠ .laysStatic Bundle.tN "SUPPRESSED_SENTINEL" Bundle.listD)
def vx_at0 (own : String) (ic : Nat) (X : String) (names : List String) : List Cond := (Bundle.ownAtoms0 own ic X names).filter vx_no
def vx_atS (own : String) (ic : Nat) (X : String) (names : List String) : List Cond := (Bundle.ownAtoms own ic X names).filter vx_no
/-- a word that the tables alone decide, or a good one -/
def vx_ot (w : Cond) : Bool := w.onTables || goodWord w
theorem vx_ot_at {args a' : Array Value} {s U : State} {w : Cond} (hW : s.WarmedH U.vm) (hvm : s.vm = U.vm) (hg : vx_ot w = true) (h : w.before args s = true) : w.before a' U = true := by
  simp only [vx_ot, Bool.or_eq_true] at hg
  rcases hg with hg | hg
  · exact va_tabs hg hvm h
  · exact word_at hW (good_of_word hg) h
/-- a list's words: the good ones out of the method's own list, the others by premises of their own -/
theorem vx_hat {args : Array Value} {s : State} {L B : List Cond} (h1 : ∀ w ∈ L.filter goodWord, w.before args s = true) (h2 : ∀ w ∈ L.filter (fun w => !goodWord w), w ∈ B) (h3 : ∀ w ∈ B, w.before args s = true) : ∀ w ∈ L, w.before args s = true := by
  intro w hw
  by_cases g : goodWord w = true
  · exact h1 w (List.mem_filter.mpr ⟨hw, g⟩)
  · refine h3 w (h2 w (List.mem_filter.mpr ⟨hw, ?_⟩))
    show (!goodWord w) = true
    cases hgw : goodWord w
    · rfl
    · exact absurd hgw g
theorem vx_c {args : Array Value} {s : State} {w : Cond} {B : List Cond} (h : w.before args s = true) (t : ∀ w ∈ B, w.before args s = true) : ∀ w' ∈ w :: B, w'.before args s = true := fun w' h' => (List.mem_cons.mp h').elim (fun e => by rw [e]; exact h) (t w')
theorem vx_n {args : Array Value} {s : State} : ∀ w ∈ ([] : List Cond), w.before args s = true := fun _ h => nomatch h
theorem vx_own {args : Array Value} {s : State} {L : List Cond} (h1 : ∀ w ∈ L.filter vx_no, w.before args s = true)
    (hU : (Cond.isRef (.static Bundle.tN "UNASSIGNED_STACK" Bundle.steD)).before args s = true) (hN : (Cond.isRef (.static Bundle.tN "SUPPRESSED_SENTINEL" Bundle.listD)).before args s = true)
    (lU : (Cond.laysStatic Bundle.tN "UNASSIGNED_STACK" Bundle.steD).before args s = true) (lN : (Cond.laysStatic Bundle.tN "SUPPRESSED_SENTINEL" Bundle.listD).before args s = true) : ∀ w ∈ L, w.before args s = true := by
  intro w hw
  by_cases e1 : w = .isRef (.static Bundle.tN "UNASSIGNED_STACK" Bundle.steD)
  · rw [e1]; exact hU
  · by_cases e2 : w = .isRef (.static Bundle.tN "SUPPRESSED_SENTINEL" Bundle.listD)
    · rw [e2]; exact hN
    · by_cases e3 : w = .laysStatic Bundle.tN "UNASSIGNED_STACK" Bundle.steD
      · rw [e3]; exact lU
      · by_cases e4 : w = .laysStatic Bundle.tN "SUPPRESSED_SENTINEL" Bundle.listD
        · rw [e4]; exact lN
        · exact h1 w (List.mem_filter.mpr ⟨hw, by unfold vx_no; rw [decide_eq_true e1, decide_eq_true e2, decide_eq_true e3, decide_eq_true e4]; rfl⟩)
/-- where a static field lies, its class's statics cell in H -/
def vx_L (C n d : String) (A : Nat → Prop) (U : State) (H : Heap) : Prop := ∃ (c : ClassId) (k : Class) (i : Nat) (f : Field) (a : Nat) (cell : Cell), U.vm.findClass C = some c ∧ U.fieldFound? C n d = some (c, k, i, f) ∧ f.isStatic = true ∧ k.statics = some a ∧ H[a]? = some cell ∧ cell.vm.isStatics = true ∧ cell.cls = c ∧ f.slot < cell.slots.size ∧ k.staticTypes[f.slot]? = some f.type ∧ ¬ A a
theorem vx_L.moved {C n d : String} {A : Nat → Prop} {u U : State} {H : Heap} (hvm : u.vm.Alike U.vm) (h : vx_L C n d A u H) : vx_L C n d A U H := by
  obtain ⟨c, k, i, f, a, cell, h1, h2, h3, h4, h5, h6, h7, h8, h9, h10⟩ := h
  obtain ⟨k', hi', he⟩ := State.fieldFound?_setVm hvm h2
  exact ⟨c, k', i, f, a, cell, by rw [hvm.findClass]; exact h1, hi', h3, by rw [he]; exact h4, h5, h6, h7, h8, by rw [he]; exact h9, h10⟩
theorem vx_L.kept {C n d : String} {A : Nat → Prop} {U : State} {H H1 : Heap} (h : vx_L C n d A U H) (hq : ∀ a : Nat, a < H.size → ¬ A a → H1[a]? = H[a]?) : vx_L C n d A U H1 := by
  obtain ⟨c, k, i, f, a, cell, h1, h2, h3, h4, h5, h6, h7, h8, h9, h10⟩ := h
  exact ⟨c, k, i, f, a, cell, h1, h2, h3, h4, by rw [hq a (Array.getElem?_eq_some_iff.mp h5).1 h10]; exact h5, h6, h7, h8, h9, h10⟩
theorem vx_L.narrow {C n d : String} {A B : Nat → Prop} {U : State} {H : Heap} (h : vx_L C n d A U H) (hAB : ∀ q, B q → A q) : vx_L C n d B U H := by
  obtain ⟨c, k, i, f, a, cell, h1, h2, h3, h4, h5, h6, h7, h8, h9, h10⟩ := h
  exact ⟨c, k, i, f, a, cell, h1, h2, h3, h4, h5, h6, h7, h8, h9, fun z => h10 (hAB _ z)⟩
theorem vx_L.word {C n d : String} {A : Nat → Prop} {s : State} {args : Array Value} (h : vx_L C n d A s s.heap) : (Cond.laysStatic C n d).before args s = true := by
  obtain ⟨c, k, i, f, a, cell, h1, h2, h3, h4, h5, h6, h7, h8, h9, -⟩ := h
  show (Cond.laysStatic C n d).holds args s none s [] = true
  exact Cond.laysStatic_of h1 h2 h3 h4 h5 h6 h7 h8 h9
/-- .. and what it holds: null or some reference -/
def vx_Zq (C n d : String) (A : Nat → Prop) (U : State) (H : Heap) : Prop := va_Zq C n d A U H ∧ vx_L C n d A U H
theorem vx_Zq.moved {C n d : String} {A : Nat → Prop} {u U : State} {H : Heap} (hvm : u.vm.Alike U.vm) (h : vx_Zq C n d A u H) : vx_Zq C n d A U H := ⟨va_Zq.moved hvm h.1, vx_L.moved hvm h.2⟩
theorem vx_Zq.kept {C n d : String} {A : Nat → Prop} {U : State} {H H1 : Heap} (h : vx_Zq C n d A U H) (hq : ∀ a : Nat, a < H.size → ¬ A a → H1[a]? = H[a]?) : vx_Zq C n d A U H1 := ⟨va_Zq.kept h.1 hq, vx_L.kept h.2 hq⟩
theorem vx_Zq.narrow {C n d : String} {A B : Nat → Prop} {U : State} {H : Heap} (h : vx_Zq C n d A U H) (hAB : ∀ q, B q → A q) : vx_Zq C n d B U H := ⟨va_Zq.narrow h.1 hAB, vx_L.narrow h.2 hAB⟩
theorem vx_Zqof {args : Array Value} {s : State} {C n d : String} {A : Nat → Prop} (hl : (Cond.laysStatic C n d).before args s = true) (hini : (Cond.initialized C).before args s = true) (h : (Cond.isRef (.static C n d)).before args s = true) (hA : ∀ a : Nat, a < s.heap.size → ¬ A a) : vx_Zq C n d A s s.heap := by
  refine ⟨va_Zqof hl hini h hA, ?_⟩
  obtain ⟨c, k, i, f, a, cell, h1, h2, h3, h4, h5, h6, h7, h8, h9⟩ := Cond.laysStatic_spec hl
  exact ⟨c, k, i, f, a, cell, h1, h2, h3, h4, h5, h6, h7, h8, h9, hA a (Array.getElem?_eq_some_iff.mp h5).1⟩
theorem vx_isRef {C n d : String} {v : Value} {A : Nat → Prop} {s : State} {args : Array Value} (h : va_Z C n d v A s s.heap) (hv : v.isRef = true) : (Cond.isRef (.static C n d)).before args s = true := by
  obtain ⟨cf, kf, fi, f, a, cell, h1, h2, h3, h4, h5, h6, h7, -⟩ := h
  have he : (Term.static C n d).eval args s none [] s = some v := by
    simp [Term.eval, State.fieldNamed?, h1, h2, h4, h5, h6, h7]
  simp only [Cond.before, Cond.holds, Cond.value, he]
  cases v <;> simp_all [Value.isRef]
theorem vx_isRefq {C n d : String} {A : Nat → Prop} {s : State} {args : Array Value} (h : va_Zq C n d A s s.heap) : (Cond.isRef (.static C n d)).before args s = true := by
  rcases h with h | ⟨t, h⟩
  · exact vx_isRef h rfl
  · exact vx_isRef h rfl
/-- the same frame, seen from here: as if the method were called anew in this heap -/
theorem vx_rebase {T : State} (X : Stand p l e R s m args below meth c T locs cells slots) {R' : Room} (hf : R'.frames ≤ R.frames) (hl : R'.locals ≤ R.locals) (hc : cells + R'.cells ≤ R.cells) (hs : slots + R'.slots ≤ R.slots) :
    Stand p l e R' ((T.setVm s.vm).setFrames (.invoking m args :: below)) m args below meth c T [] 0 0 := by
  have htop : (T.setVm s.vm).topJava?.isSome := X.here.top
  have hF : ((T.setVm s.vm).setFrames (.invoking m args :: below)).frames = .invoking m args :: below := State.frames_setFrames _ (State.cur_lt_of_top htop)
  obtain ⟨g₀, hg0⟩ := Option.isSome_iff_exists.mp htop
  obtain ⟨r, hr⟩ := State.topJava?_eq_some.mp hg0
  have hl9 : e.platform.stackLimits (T.setVm s.vm).me = e.platform.stackLimits s.me := X.limits
  have hb9 : (T.setVm s.vm).me.stackBytes = s.me.stackBytes := X.bytes
  refine ⟨X.admits, X.cas, X.clock, hF, ?_, X.hears, X.method, X.code, X.here, X.tail, X.warmed, ?_, ?_, ?_⟩
  · have h := X.room
    have hU : ((T.setVm s.vm).setFrames (.invoking m args :: below)).localsInUse = s.localsInUse := by
      rw [State.localsInUse_invoking hF (meth := meth) (c := c) X.method X.code, State.localsInUse_invoking X.frames X.method X.code]
    simp only [State.hasRoom, Bool.and_eq_true, decide_eq_true_eq] at h ⊢
    obtain ⟨⟨⟨⟨h1, h2, h3, h4, h5, h6⟩, h7⟩, h8⟩, h9⟩ := h
    rw [X.frames, List.length_cons] at h2 h3
    have q1 := X.heapSize
    have q2 := X.used
    simp only [hF, hU, List.length_cons, State.stackLimits_setFrames, State.stackBytes_setFrames, hl9, hb9]
    refine ⟨⟨⟨⟨by omega, by omega, by omega, by omega, by omega, h6⟩, ?_⟩, ?_⟩, X.book⟩
    · show T.heap.size + R'.cells ≤ e.platform.maxCells
      omega
    · show T.slotsUsed + R'.slots ≤ e.platform.maxSlots
      omega
  · rw [State.stackLimits_setFrames]; rfl
  · rw [State.stackBytes_setFrames]; rfl
  · refine ⟨?_, Nat.le_refl _, Nat.le_refl _, ?_, ?_, fun a c9 h9 => ⟨c9, h9, rfl, rfl, fun _ _ => rfl⟩⟩
    · obtain ⟨t, ht, -⟩ := State.frames_cons hr
      show T.setVm s.vm = { ((T.setVm s.vm).setFrames (.invoking m args :: below)).setFrames (T.setVm s.vm).frames with heap := T.heap, slotsUsed := T.slotsUsed }
      rw [State.setFrames_setFrames, State.setFrames_self ht]
      rfl
    · show T.slotsUsed = T.slotsUsed + ((T.heap.toList.drop T.heap.size).map (·.slots.size)).sum
      rw [List.drop_eq_nil_of_le (Nat.le_of_eq Array.length_toList)]
      rfl
    · show ((T.heap.toList.drop T.heap.size).map (·.slots.size)).sum ≤ 0
      rw [List.drop_eq_nil_of_le (Nat.le_of_eq Array.length_toList)]
      exact Nat.le_refl _
/-- 'throw new E()': new; dup; invokespecial; athrow -/
theorem vx_throw0 {cc : ByteArray} {pc : Nat} (hexec : p.tables.exec = Jvm.exec) (hb : c.code = cc) (hl : l.stackTraces = false) {own cls : String} {names : List String} {ik ic mc ms : Nat} {A : Nat → Prop}
    (hown : s.vm.findClass own = some m.cls) (hcls : Bundle.fit cls = true) (hnames : ∀ n ∈ names, Bundle.fit n = true)
    (hk : (Cond.classLink own ik cls).before args s = true) (hini : (Cond.initialized cls).before args s = true) (hat : ∀ w ∈ vx_at0 own ic cls names, w.before args s = true)
    (hgood : ∀ w ∈ Cond.classLink own ik cls :: Cond.initialized cls :: vx_at0 own ic cls names, vx_ot w = true)
    (hU : vx_Zq Bundle.tN "UNASSIGNED_STACK" Bundle.steD A s s.heap) (hN : vx_Zq Bundle.tN "SUPPRESSED_SENTINEL" Bundle.listD A s s.heap) (hS : va_S A s.heap H locs) (hsize : ls.size = c.maxLocals)
    (d0 : decode cc pc = .ok (.new ik, 3)) (d3 : decode cc (pc + 3) = .ok (.dup, 1)) (d4 : decode cc (pc + 4) = .ok (.invokespecial ic, 3)) (d7 : decode cc (pc + 7) = .ok (.athrow, 1))
    (hout : ∀ x ∈ c.exceptionTable.toList, covers x (pc + 7) = false)
    (hRframes : names.length + 3 < R.frames) (hRlocals : (rest.map fun v => v.category).sum + (13 * (names.length + 1) + 42) ≤ R.locals) (hRcells : cells + 1 ≤ R.cells) (hRslots : slots + 6 ≤ R.slots) (hlocks : meth.locks = false)
    (hx : ∀ t : State, s.vm.Alike t.vm → H.size ≤ t.heap.size → (∀ q : Nat, q < H.size → t.heap[q]? = H[q]?) → XC cls s t)
    (hf : ∀ z ∈ locs, free z.base) (hc : cells + 1 ≤ mc) (hs : slots + 6 ≤ ms) :
    W p l e R s m args below meth c H locs cells slots (vx_MQ below Qc XC args s mc ms free) (F0 m pc ls rest) := by
  intro T hT X
  have htr : e.platform.stackTraces = false := (show e.platform.stackTraces = l.stackTraces by rw [X.admits.platform]).trans hl
  have Y := vx_rebase X (R' := { frames := R.frames, locals := R.locals, cells := 1, slots := 6 }) (Nat.le_refl _) (Nat.le_refl _) hRcells hRslots
  obtain ⟨s', hA⟩ : ∃ z, z = (T.setVm s.vm).setFrames (.invoking m args :: below) := ⟨_, rfl⟩
  rw [← hA] at Y
  have hvm : s'.vm = s.vm := by rw [hA]; rfl
  have hhp : s'.heap = H := by rw [hA]; exact hT
  have hW0 : s.WarmedH s'.vm := by rw [hvm]; exact State.WarmedH.refl s
  have hat' : ∀ w ∈ vx_at0 own ic cls names, w.before args s' = true := fun w hw => vx_ot_at hW0 hvm.symm (hgood w (List.mem_cons_of_mem _ (List.mem_cons_of_mem _ hw))) (hat w hw)
  have hk' : (Cond.classLink own ik cls).before args s' = true := vx_ot_at hW0 hvm.symm (hgood _ List.mem_cons_self) hk
  have hini' : (Cond.initialized cls).before args s' = true := vx_ot_at hW0 hvm.symm (hgood _ (List.mem_cons_of_mem _ List.mem_cons_self)) hini
  have hU' : vx_Zq Bundle.tN "UNASSIGNED_STACK" Bundle.steD A s' s'.heap := by rw [hhp]; exact vx_Zq.moved hW0.alike (hU.kept hS.2.1)
  have hN' : vx_Zq Bundle.tN "SUPPRESSED_SENTINEL" Bundle.listD A s' s'.heap := by rw [hhp]; exact vx_Zq.moved hW0.alike (hN.kept hS.2.1)
  have h : ∀ w ∈ Bundle.ownAtoms0 own ic cls names, w.before args s' = true := vx_own hat' (vx_isRefq hU'.1) (vx_isRefq hN'.1) hU'.2.word hN'.2.word
  have hown' : s'.vm.findClass own = some m.cls := by rw [hvm]; exact hown
  have hins : (Cond.instantiable cls 6).before args s' = true := h _ (by simp [Bundle.ownAtoms0])
  obtain ⟨vm₁, cX, kX, hfX, hkX, -, -, X₁, st1⟩ := Y.newCold hexec (own := own) (C := cls) (index := ik) (n := 6) hown' hk' hins hini'
    (g := F0 m pc ls rest) rfl (by rw [hb]; exact d0) (Nat.le_refl _) (Nat.le_refl _)
  generalize hT1 : (T.setVm vm₁).pushCell { cls := cX, slots := kX.instanceTypes.map defaultValue, vm := .none } = T1 at X₁ st1
  have hcat : (Value.ref T.heap.size).category = 1 := rfl
  have hcellA : T1.heap[T.heap.size]? = some (freshCell cX kX) := by rw [← hT1]; exact State.heap_pushCell_size _ _
  have d3' : decode c.code (pc + 3) = .ok (.dup, 1) := by rw [hb]; exact d3
  obtain ⟨U, hsteps, hrun, hend, hW, hsame, ce, hce, hO⟩ := X₁.ctorThrow0 hexec htr (own := own) (cls := cls) (names := names) (ic := ic) hown' hcls hnames h (fun x hx => nomatch hx) hfX hkX hcellA (by rw [hhp, hT]; exact Nat.le_refl _)
    (g := { method := m, pc := pc + 4, locals := ls, stack := .ref T.heap.size :: .ref T.heap.size :: rest, locked := none }) rfl hsize rfl rfl (rest := rest) rfl
    (by rw [hb]; exact d4) (by rw [hb]; exact d7) hout hRframes (by simp only [List.map_cons, List.sum_cons, hcat]; omega) hlocks
  obtain ⟨f1, f2⟩ := vx_frame hsame
  rw [hhp] at f1 f2
  have hWs : s.WarmedH U.vm := State.WarmedH.trans hW0 hW
  have hcl : s.vm.findClass cls = some ce.cls := by
    have h9 := hO.cls
    rw [hvm] at h9
    exact h9
  have hall : s.sameButNew ({ U with vm := s.vm } : State) locs mc ms := by
    subst hA
    obtain ⟨e1, e2⟩ := hsame
    rw [State.setFrames_setFrames] at e1
    have h2 : (T.setVm s.vm).sameButNew ({ U with vm := s.vm } : State) [] (0 + 1) (0 + 6) := ⟨e1, e2⟩
    have h3 := X.same.trans h2
    rw [List.append_nil] at h3
    exact h3.mono hc hs
  refine ⟨U, ?_, .threw T.heap.size, hrun, hend, Or.inr ⟨T.heap.size, rfl, cls, ce, locs, hx U hWs.alike f1 (fun q hq => f2 q hq (fun z hz => nomatch hz)), hce, hO.vm, hcl, hWs, hall, hf⟩⟩
  refine st1 _ ?_
  show Steps p.tables e below (T1.setTop { method := m, pc := pc + 3, locals := ls, stack := .ref T.heap.size :: rest, locked := none }) _
  jvm_step X₁.here [X₁.here.top, hexec, d3', Value.category]
  exact hsteps
/-- 'throw new E("text")': new; dup; ldc; invokespecial; athrow -/
theorem vx_throwS {cc : ByteArray} {pc : Nat} (hexec : p.tables.exec = Jvm.exec) (hb : c.code = cc) (hl : l.stackTraces = false) {own cls text : String} {names : List String} {ik is ic mc ms sa : Nat} {A : Nat → Prop}
    (hown : s.vm.findClass own = some m.cls) (hcls : Bundle.fit cls = true) (hnames : ∀ n ∈ names, Bundle.fit n = true)
    (hk : (Cond.classLink own ik cls).before args s = true) (hini : (Cond.initialized cls).before args s = true) (hstr : vk_R own is text sa s) (hat : ∀ w ∈ vx_atS own ic cls names, w.before args s = true)
    (hgood : ∀ w ∈ Cond.classLink own ik cls :: Cond.initialized cls :: vx_atS own ic cls names, vx_ot w = true)
    (hU : vx_Zq Bundle.tN "UNASSIGNED_STACK" Bundle.steD A s s.heap) (hN : vx_Zq Bundle.tN "SUPPRESSED_SENTINEL" Bundle.listD A s s.heap) (hS : va_S A s.heap H locs) (hsize : ls.size = c.maxLocals)
    (d0 : decode cc pc = .ok (.new ik, 3)) (d3 : decode cc (pc + 3) = .ok (.dup, 1)) (d4 : decode cc (pc + 4) = .ok (.ldc is, 2)) (d6 : decode cc (pc + 6) = .ok (.invokespecial ic, 3)) (d9 : decode cc (pc + 9) = .ok (.athrow, 1))
    (hout : ∀ x ∈ c.exceptionTable.toList, covers x (pc + 9) = false)
    (hRframes : names.length + 3 < R.frames) (hRlocals : (rest.map fun v => v.category).sum + (13 * (names.length + 1) + 43) ≤ R.locals) (hRcells : cells + 1 ≤ R.cells) (hRslots : slots + 6 ≤ R.slots) (hlocks : meth.locks = false)
    (hx : ∀ t : State, s.vm.Alike t.vm → H.size ≤ t.heap.size → (∀ q : Nat, q < H.size → t.heap[q]? = H[q]?) → XC cls s t)
    (hf : ∀ z ∈ locs, free z.base) (hc : cells + 1 ≤ mc) (hs : slots + 6 ≤ ms) :
    W p l e R s m args below meth c H locs cells slots (vx_MQ below Qc XC args s mc ms free) (F0 m pc ls rest) := by
  intro T hT X
  have htr : e.platform.stackTraces = false := (show e.platform.stackTraces = l.stackTraces by rw [X.admits.platform]).trans hl
  have Y := vx_rebase X (R' := { frames := R.frames, locals := R.locals, cells := 1, slots := 6 }) (Nat.le_refl _) (Nat.le_refl _) hRcells hRslots
  obtain ⟨s', hA⟩ : ∃ z, z = (T.setVm s.vm).setFrames (.invoking m args :: below) := ⟨_, rfl⟩
  rw [← hA] at Y
  have hvm : s'.vm = s.vm := by rw [hA]; rfl
  have hhp : s'.heap = H := by rw [hA]; exact hT
  have hW0 : s.WarmedH s'.vm := by rw [hvm]; exact State.WarmedH.refl s
  have hat' : ∀ w ∈ vx_atS own ic cls names, w.before args s' = true := fun w hw => vx_ot_at hW0 hvm.symm (hgood w (List.mem_cons_of_mem _ (List.mem_cons_of_mem _ hw))) (hat w hw)
  have hk' : (Cond.classLink own ik cls).before args s' = true := vx_ot_at hW0 hvm.symm (hgood _ List.mem_cons_self) hk
  have hini' : (Cond.initialized cls).before args s' = true := vx_ot_at hW0 hvm.symm (hgood _ (List.mem_cons_of_mem _ List.mem_cons_self)) hini
  have hU' : vx_Zq Bundle.tN "UNASSIGNED_STACK" Bundle.steD A s' s'.heap := by rw [hhp]; exact vx_Zq.moved hW0.alike (hU.kept hS.2.1)
  have hN' : vx_Zq Bundle.tN "SUPPRESSED_SENTINEL" Bundle.listD A s' s'.heap := by rw [hhp]; exact vx_Zq.moved hW0.alike (hN.kept hS.2.1)
  have h : ∀ w ∈ Bundle.ownAtoms own ic cls names, w.before args s' = true := vx_own hat' (vx_isRefq hU'.1) (vx_isRefq hN'.1) hU'.2.word hN'.2.word
  have hown' : s'.vm.findClass own = some m.cls := by rw [hvm]; exact hown
  have hins : (Cond.instantiable cls 6).before args s' = true := h _ (by simp [Bundle.ownAtoms])
  obtain ⟨vm₁, cX, kX, hfX, hkX, -, -, X₁, st1⟩ := Y.newCold hexec (own := own) (C := cls) (index := ik) (n := 6) hown' hk' hins hini'
    (g := F0 m pc ls rest) rfl (by rw [hb]; exact d0) (Nat.le_refl _) (Nat.le_refl _)
  generalize hT1 : (T.setVm vm₁).pushCell { cls := cX, slots := kX.instanceTypes.map defaultValue, vm := .none } = T1 at X₁ st1
  have hcat : (Value.ref T.heap.size).category = 1 := rfl
  have hcellA : T1.heap[T.heap.size]? = some (freshCell cX kX) := by rw [← hT1]; exact State.heap_pushCell_size _ _
  have d3' : decode c.code (pc + 3) = .ok (.dup, 1) := by rw [hb]; exact d3
  have d4' : decode c.code (pc + 4) = .ok (.ldc is, 2) := by rw [hb]; exact d4
  have hstr' : vk_R own is text sa s' := vk_R.warm hW0 hstr
  obtain ⟨U, hsteps, hrun, hend, hW, hsame, ce, hce, hO⟩ := X₁.ctorThrowS hexec htr (own := own) (cls := cls) (names := names) (ic := ic) hown' hcls hnames h (fun x hx => nomatch hx) hfX hkX hcellA (by rw [hhp, hT]; exact Nat.le_refl _) (msg := .ref sa) rfl
    (g := { method := m, pc := pc + 6, locals := ls, stack := .ref sa :: .ref T.heap.size :: .ref T.heap.size :: rest, locked := none }) rfl hsize rfl rfl (rest := rest) rfl
    (by rw [hb]; exact d6) (by rw [hb]; exact d9) hout hRframes (by simp only [List.map_cons, List.sum_cons, hcat]; omega) hlocks
  obtain ⟨f1, f2⟩ := vx_frame hsame
  rw [hhp] at f1 f2
  have hWs : s.WarmedH U.vm := State.WarmedH.trans hW0 hW
  have hcl : s.vm.findClass cls = some ce.cls := by
    have h9 := hO.cls
    rw [hvm] at h9
    exact h9
  have hall : s.sameButNew ({ U with vm := s.vm } : State) locs mc ms := by
    subst hA
    obtain ⟨e1, e2⟩ := hsame
    rw [State.setFrames_setFrames] at e1
    have h2 : (T.setVm s.vm).sameButNew ({ U with vm := s.vm } : State) [] (0 + 1) (0 + 6) := ⟨e1, e2⟩
    have h3 := X.same.trans h2
    rw [List.append_nil] at h3
    exact h3.mono hc hs
  refine ⟨U, ?_, .threw T.heap.size, hrun, hend, Or.inr ⟨T.heap.size, rfl, cls, ce, locs, hx U hWs.alike f1 (fun q hq => f2 q hq (fun z hz => nomatch hz)), hce, hO.vm, hcl, hWs, hall, hf⟩⟩
  refine st1 _ ?_
  show Steps p.tables e below (T1.setTop { method := m, pc := pc + 3, locals := ls, stack := .ref T.heap.size :: rest, locked := none }) _
  jvm_step X₁.here [X₁.here.top, hexec, d3', Value.category]
  exact X₁.ldcString hexec (own := own) (text := text) (index := is) (a := sa) hown' hstr'.1 hstr'.2
    (g := { method := m, pc := pc + 4, locals := ls, stack := .ref T.heap.size :: .ref T.heap.size :: rest, locked := none }) rfl d4' _ hsteps
/-- 'throw new E("text")', the text by a wide index -/
theorem vx_throwSW {cc : ByteArray} {pc : Nat} (hexec : p.tables.exec = Jvm.exec) (hb : c.code = cc) (hl : l.stackTraces = false) {own cls text : String} {names : List String} {ik is ic mc ms sa : Nat} {A : Nat → Prop}
    (hown : s.vm.findClass own = some m.cls) (hcls : Bundle.fit cls = true) (hnames : ∀ n ∈ names, Bundle.fit n = true)
    (hk : (Cond.classLink own ik cls).before args s = true) (hini : (Cond.initialized cls).before args s = true) (hstr : vk_R own is text sa s) (hat : ∀ w ∈ vx_atS own ic cls names, w.before args s = true)
    (hgood : ∀ w ∈ Cond.classLink own ik cls :: Cond.initialized cls :: vx_atS own ic cls names, vx_ot w = true)
    (hU : vx_Zq Bundle.tN "UNASSIGNED_STACK" Bundle.steD A s s.heap) (hN : vx_Zq Bundle.tN "SUPPRESSED_SENTINEL" Bundle.listD A s s.heap) (hS : va_S A s.heap H locs) (hsize : ls.size = c.maxLocals)
    (d0 : decode cc pc = .ok (.new ik, 3)) (d3 : decode cc (pc + 3) = .ok (.dup, 1)) (d4 : decode cc (pc + 4) = .ok (.ldc_w is, 3)) (d7 : decode cc (pc + 7) = .ok (.invokespecial ic, 3)) (d10 : decode cc (pc + 10) = .ok (.athrow, 1))
    (hout : ∀ x ∈ c.exceptionTable.toList, covers x (pc + 10) = false)
    (hRframes : names.length + 3 < R.frames) (hRlocals : (rest.map fun v => v.category).sum + (13 * (names.length + 1) + 43) ≤ R.locals) (hRcells : cells + 1 ≤ R.cells) (hRslots : slots + 6 ≤ R.slots) (hlocks : meth.locks = false)
    (hx : ∀ t : State, s.vm.Alike t.vm → H.size ≤ t.heap.size → (∀ q : Nat, q < H.size → t.heap[q]? = H[q]?) → XC cls s t)
    (hf : ∀ z ∈ locs, free z.base) (hc : cells + 1 ≤ mc) (hs : slots + 6 ≤ ms) :
    W p l e R s m args below meth c H locs cells slots (vx_MQ below Qc XC args s mc ms free) (F0 m pc ls rest) := by
  intro T hT X
  have htr : e.platform.stackTraces = false := (show e.platform.stackTraces = l.stackTraces by rw [X.admits.platform]).trans hl
  have Y := vx_rebase X (R' := { frames := R.frames, locals := R.locals, cells := 1, slots := 6 }) (Nat.le_refl _) (Nat.le_refl _) hRcells hRslots
  obtain ⟨s', hA⟩ : ∃ z, z = (T.setVm s.vm).setFrames (.invoking m args :: below) := ⟨_, rfl⟩
  rw [← hA] at Y
  have hvm : s'.vm = s.vm := by rw [hA]; rfl
  have hhp : s'.heap = H := by rw [hA]; exact hT
  have hW0 : s.WarmedH s'.vm := by rw [hvm]; exact State.WarmedH.refl s
  have hat' : ∀ w ∈ vx_atS own ic cls names, w.before args s' = true := fun w hw => vx_ot_at hW0 hvm.symm (hgood w (List.mem_cons_of_mem _ (List.mem_cons_of_mem _ hw))) (hat w hw)
  have hk' : (Cond.classLink own ik cls).before args s' = true := vx_ot_at hW0 hvm.symm (hgood _ List.mem_cons_self) hk
  have hini' : (Cond.initialized cls).before args s' = true := vx_ot_at hW0 hvm.symm (hgood _ (List.mem_cons_of_mem _ List.mem_cons_self)) hini
  have hU' : vx_Zq Bundle.tN "UNASSIGNED_STACK" Bundle.steD A s' s'.heap := by rw [hhp]; exact vx_Zq.moved hW0.alike (hU.kept hS.2.1)
  have hN' : vx_Zq Bundle.tN "SUPPRESSED_SENTINEL" Bundle.listD A s' s'.heap := by rw [hhp]; exact vx_Zq.moved hW0.alike (hN.kept hS.2.1)
  have h : ∀ w ∈ Bundle.ownAtoms own ic cls names, w.before args s' = true := vx_own hat' (vx_isRefq hU'.1) (vx_isRefq hN'.1) hU'.2.word hN'.2.word
  have hown' : s'.vm.findClass own = some m.cls := by rw [hvm]; exact hown
  have hins : (Cond.instantiable cls 6).before args s' = true := h _ (by simp [Bundle.ownAtoms])
  obtain ⟨vm₁, cX, kX, hfX, hkX, -, -, X₁, st1⟩ := Y.newCold hexec (own := own) (C := cls) (index := ik) (n := 6) hown' hk' hins hini'
    (g := F0 m pc ls rest) rfl (by rw [hb]; exact d0) (Nat.le_refl _) (Nat.le_refl _)
  generalize hT1 : (T.setVm vm₁).pushCell { cls := cX, slots := kX.instanceTypes.map defaultValue, vm := .none } = T1 at X₁ st1
  have hcat : (Value.ref T.heap.size).category = 1 := rfl
  have hcellA : T1.heap[T.heap.size]? = some (freshCell cX kX) := by rw [← hT1]; exact State.heap_pushCell_size _ _
  have d3' : decode c.code (pc + 3) = .ok (.dup, 1) := by rw [hb]; exact d3
  have d4' : decode c.code (pc + 4) = .ok (.ldc_w is, 3) := by rw [hb]; exact d4
  have hstr' : vk_R own is text sa s' := vk_R.warm hW0 hstr
  obtain ⟨U, hsteps, hrun, hend, hW, hsame, ce, hce, hO⟩ := X₁.ctorThrowS hexec htr (own := own) (cls := cls) (names := names) (ic := ic) hown' hcls hnames h (fun x hx => nomatch hx) hfX hkX hcellA (by rw [hhp, hT]; exact Nat.le_refl _) (msg := .ref sa) rfl
    (g := { method := m, pc := pc + 7, locals := ls, stack := .ref sa :: .ref T.heap.size :: .ref T.heap.size :: rest, locked := none }) rfl hsize rfl rfl (rest := rest) rfl
    (by rw [hb]; exact d7) (by rw [hb]; exact d10) hout hRframes (by simp only [List.map_cons, List.sum_cons, hcat]; omega) hlocks
  obtain ⟨f1, f2⟩ := vx_frame hsame
  rw [hhp] at f1 f2
  have hWs : s.WarmedH U.vm := State.WarmedH.trans hW0 hW
  have hcl : s.vm.findClass cls = some ce.cls := by
    have h9 := hO.cls
    rw [hvm] at h9
    exact h9
  have hall : s.sameButNew ({ U with vm := s.vm } : State) locs mc ms := by
    subst hA
    obtain ⟨e1, e2⟩ := hsame
    rw [State.setFrames_setFrames] at e1
    have h2 : (T.setVm s.vm).sameButNew ({ U with vm := s.vm } : State) [] (0 + 1) (0 + 6) := ⟨e1, e2⟩
    have h3 := X.same.trans h2
    rw [List.append_nil] at h3
    exact h3.mono hc hs
  refine ⟨U, ?_, .threw T.heap.size, hrun, hend, Or.inr ⟨T.heap.size, rfl, cls, ce, locs, hx U hWs.alike f1 (fun q hq => f2 q hq (fun z hz => nomatch hz)), hce, hO.vm, hcl, hWs, hall, hf⟩⟩
  refine st1 _ ?_
  show Steps p.tables e below (T1.setTop { method := m, pc := pc + 3, locals := ls, stack := .ref T.heap.size :: rest, locked := none }) _
  jvm_step X₁.here [X₁.here.top, hexec, d3', Value.category]
  exact X₁.ldcStringW hexec (own := own) (text := text) (index := is) (a := sa) hown' hstr'.1 hstr'.2
    (g := { method := m, pc := pc + 4, locals := ls, stack := .ref T.heap.size :: .ref T.heap.size :: rest, locked := none }) rfl d4' _ hsteps
end Ends
section Bodies
variable {l : Launch}
theorem vx_ofW {y : MethodName} {ws ws' : List Cond} {rm : Room} {Pc : Array Value → State → Prop} {Qc : Array Value → State → Outcome → State → Prop} {XC : String → State → State → Prop} {mc ms : Nat} {free : Addr → Prop} {cc : ByteArray} {maxL : Nat} {ret : Option FieldType}
    (hy : plainName y.cls = true) (hw : ws = Cond.code y cc maxL ret :: ws')
    (body : ∀ p e s m args below meth c s₁, BodyLoose p l y (headSpec ws rm) cc maxL ret e s m args below meth c s₁ → c.maxLocals = maxL → (∀ x ∈ c.exceptionTable.toList, False) → Pc args s →
      W p l e (headSpec ws rm).room s m args below meth c s.heap [] 0 0 (vx_MQ below Qc XC args s mc ms free) (entryFrame m args maxL)) : vx_Met l y ws rm Pc Qc XC mc ms free := by
  refine MetFree.of_bodyS (code := cc) (maxLocals := maxL) (ret := ret) hy ?_ ?_
  · intro args s m h hn
    obtain ⟨meth, c, h1, h2, h3, h4, h5, h6, -, -⟩ := Cond.code_spec hn (atoms_spec (ws := ws) h _ (by rw [hw]; exact List.mem_cons_self))
    exact ⟨meth, c, h1, h2, h3, h4, h5, h6⟩
  · intro p e s m args below meth c s₁ B hml hP _
    have hh0 : s₁.heap = s.heap := by rw [B.state]; rfl
    have ht : ∀ x ∈ c.exceptionTable.toList, False := by
      obtain ⟨meth9, c9, h1, h2, -, -, -, -, h7, -⟩ := Cond.code_spec B.named (atoms_spec (ws := ws) B.pre _ (by rw [hw]; exact List.mem_cons_self))
      cases Option.some.inj (h1.symm.trans B.method)
      cases Option.some.inj (h2.symm.trans (Stand.of_body B).code)
      intro x hx
      rw [Array.isEmpty_iff.mp h7] at hx
      cases hx
    obtain ⟨t, a1, o, b1, b2, b3⟩ := body p e s m args below meth c s₁ B hml ht hP s₁ hh0 (Stand.of_body B)
    exact ⟨t, o, a1, b1, b2, b3⟩
/-- the table of a body with handlers -/
theorem vx_table {p : Program} {x y : MethodName} {S : Spec} {cc bytes : ByteArray} {maxL maxL' : Nat} {ret ret' : Option FieldType} {e : Env} {s s₁ : State} {m : MethodId} {args : Array Value} {below : List Frame} {meth : Method} {c : Code} {hh : List (Nat × Nat × Nat × Nat)}
    (B : BodyLoose p l y S cc maxL ret e s m args below meth c s₁) (h : (Cond.codeWith y bytes maxL' ret' hh).before args s = true) : c.exceptionTable.toList = tableOf hh := by
  obtain ⟨m9, meth9, c9, hn9, h1, h2, -, -, h6, -⟩ := Cond.codeWith_spec h
  cases Option.some.inj (hn9.symm.trans B.named)
  cases Option.some.inj (h1.symm.trans B.method)
  cases Option.some.inj (h2.symm.trans (Stand.of_body B).code)
  rw [← h6, table_eq]
end Bodies
end VXA
/-! ===== END ===== -/
/-! ===== BEGIN a static call of a method with an exception table ===== -/
section VXS
variable {p : Program} {l : Launch} {e : Env} {R : Room} {s : State} {m : MethodId} {args : Array Value} {below : List Frame} {meth : Method} {c : Code} {T : State} {H : Heap} {locs : List Loc} {cells slots : Nat}
abbrev vx_CSW (R : Room) (s : State) (args : Array Value) (own : String) (index : Nat) (y : MethodName) (bytes : ByteArray) (maxL : Nat) (ret : Option FieldType) (hh : List (Nat × Nat × Nat × Nat)) (ws : List Cond) (rm : Room) (mc ms n : Nat) : Prop :=
  (rm.cells = mc ∧ rm.slots = ms ∧ rm.frames + 1 ≤ R.frames ∧ 8 + (maxL + 11) + rm.locals ≤ R.locals ∧ (∀ w ∈ ws, ∀ (a' : Array Value) (U : State), s.WarmedH U.vm → w.before a' U = true) ∧ Cond.codeWith y bytes maxL ret hh ∈ ws) ∧
  (Cond.codeWith y bytes maxL ret hh).before args s = true ∧ (Cond.initialized y.cls).before args s = true ∧ (y.cls ≠ "java/lang/invoke/MethodHandle" ∧ y.cls ≠ "java/lang/invoke/VarHandle") ∧
  (∀ sig, parseMethodDescriptor y.desc = some sig → n = sig.parameters.length) ∧ (Cond.methodLink own index y).before args s = true ∧ (Cond.static y).before args s = true
theorem vx_cwSW {own : String} {index maxL mc ms : Nat} {y : MethodName} {bytes : ByteArray} {ret : Option FieldType} {hh : List (Nat × Nat × Nat × Nat)} {Ts ws ws' : List Cond} {rm : Room} (n : Nat) (ht : ∀ w ∈ Ts, w.before args s = true) (hT : GoodIn Ts (va_wsS own index y ws)) (hw : ws = Cond.codeWith y bytes maxL ret hh :: ws') (hrc : rm.cells = mc) (hrs : rm.slots = ms)
    (hd : y.cls ≠ "java/lang/invoke/MethodHandle" ∧ y.cls ≠ "java/lang/invoke/VarHandle" ∧ (parseMethodDescriptor y.desc).map (fun d => d.parameters.length) = some n) (hR : rm.frames + 1 ≤ R.frames ∧ 8 + (maxL + 11) + rm.locals ≤ R.locals) :
    vx_CSW R s args own index y bytes maxL ret hh ws rm mc ms n := by
  have ok : ∀ w ∈ va_wsS own index y ws, w.before args s = true := fun w h => ht w (hT w h).1
  have hG : GoodIn Ts ws := fun w h => hT w (by unfold va_wsS; exact List.mem_append_right _ h)
  have hc : Cond.codeWith y bytes maxL ret hh ∈ ws := by rw [hw]; exact List.mem_cons_self
  refine ⟨⟨hrc, hrs, hR.1, hR.2, pay_in ht hG, hc⟩, ht _ (hG _ hc).1, ok _ (by simp [va_wsS]), ⟨hd.1, hd.2.1⟩, fun sig h => ?_, ok _ (by simp [va_wsS]), ok _ (by simp [va_wsS])⟩
  have h2 := hd.2.2
  rw [h] at h2
  exact (Option.some.inj h2).symm
theorem vx_callSW (X : Stand p l e R s m args below meth c T locs cells slots) (hexec : p.tables.exec = Jvm.exec) {own : String} {index : Nat} {y : MethodName} {bytes : ByteArray} {maxL : Nat} {ret : Option FieldType} {hh : List (Nat × Nat × Nat × Nat)}
    (hown : s.vm.findClass own = some m.cls) (hlink : (Cond.methodLink own index y).before args s = true) (hstat : (Cond.static y).before args s = true) (hinit : (Cond.initialized y.cls).before args s = true)
    (hcode : (Cond.codeWith y bytes maxL ret hh).before args s = true) (hy : y.cls ≠ "java/lang/invoke/MethodHandle" ∧ y.cls ≠ "java/lang/invoke/VarHandle")
    {W9 : Nat} {Pre : Pt → Array Value → Prop} {Post : Pt → Array Value → Option Value → Pt → Prop} (hK : Back l R p e below s args y 3 W9 Pre Post)
    {g : JFrame} (hg : g.method = m) (hsize : g.locals.size = c.maxLocals) {argsL rest : List Value} (hlen : ∀ sig, parseMethodDescriptor y.desc = some sig → argsL.length = sig.parameters.length)
    (hstack : g.stack = argsL.reverse ++ rest) (hW : 2 * g.monitorRoom + (rest.map fun v => v.category).sum ≤ W9) (hdg : decode c.code g.pc = .ok (.invokestatic index, 3))
    (hpre : ∀ vm₁, s.WarmedH vm₁ → Pre ⟨T.setVm vm₁, locs, cells, slots⟩ argsL.toArray) :
    ∃ (v : Option Value) (vm₁ : Vm) (B : Pt), s.WarmedH vm₁ ∧ Stand p l e R s m args below meth c B.U B.locs B.cells B.slots ∧ Post ⟨T.setVm vm₁, locs, cells, slots⟩ argsL.toArray v B ∧
      ∀ target, Steps p.tables e below (B.U.setTop { g with pc := g.pc + 3, stack := v.toList ++ rest }) target → Steps p.tables e below (T.setTop g) target := by
  obtain ⟨mk, methM, cM, hnamed, hmethM, -, -, -, -, -, -, hsigM⟩ := Cond.codeWith_spec hcode
  have hstatic : methM.isStatic = true := Cond.static_spec hnamed hmethM hstat
  obtain ⟨kP, hkP, -⟩ := className_of_methodNamed hnamed
  have hinitP : kP.init = .initialized := Cond.initialized_spec (findClass_of_methodNamed hnamed) hkP hinit
  obtain ⟨vm₁, X₁, hstep₁⟩ := X.invokestatic hexec hown hlink hnamed hmethM hstatic hkP hinitP hy (g := g) hg (argsL := argsL) (rest := rest) (hlen _ hsigM) hstack hdg
  obtain ⟨v, B, X', hpost, hsteps⟩ := hK m meth c ⟨T.setVm vm₁, locs, cells, slots⟩ { g with stack := rest } (.invokestatic index) mk argsL.toArray X₁ hg hsize hdg hW (X₁.named hnamed) (hpre vm₁ X₁.warmed)
  exact ⟨v, vm₁, B, X₁.warmed, X', hpost, fun target h => hstep₁ _ fun acts => by rw [doInvoke_state]; exact hsteps.trans h⟩
theorem vx_runSW {y : MethodName} {bytes cc : ByteArray} {maxL nL mc ms n index : Nat} {ret : Option FieldType} {hh : List (Nat × Nat × Nat × Nat)} {ws : List Cond} {rm : Room} {Pc : Array Value → State → Prop} {Qc : Array Value → State → Outcome → State → Prop} {free : Addr → Prop} {Ts : List Cond} {own : String} {As rest : List Value} {g : JFrame}
    (S : CallFix p m c cc nL s args Ts own) (hM : Met l y ws rm Pc Qc mc ms free) (cw : vx_CSW R s args own index y bytes maxL ret hh ws rm mc ms n) (hp : PreS s H Pc As)
    (hg : g.method = m) (hn : As.length = n) (hsize : g.locals.size = nL) (hstack : g.stack = As.reverse ++ rest) (hW : 2 * g.monitorRoom + (rest.map fun v => v.category).sum ≤ 8) (hdg : decode cc g.pc = .ok (.invokestatic index, 3)) (hf : cells + mc ≤ R.cells ∧ slots + ms ≤ R.slots) :
    va_Run p l e R s m args below meth c H locs cells slots mc ms g rest (Qc As.toArray) (free) := by
  obtain ⟨⟨hrc, hrs, hfr, hlo, hws, hcw⟩, hcode, hini, hy, hlen, hl, hstt⟩ := cw
  have hK : Back l R p e below s args y 3 8 (PreOf R mc ms Pc) (PostOf Qc mc ms free) := va_backW (hh := hh) (bytes := bytes) (maxL := maxL) (ret := ret) hM hp.1 hrc hrs hfr hlo hws hcw (fun a' U hW => word_at hW (Or.inl (by first | rfl | simp [Cond.onTables, Cond.keeps, Cond.steady])) hini)
  obtain ⟨hx, hb, hml, ho, -⟩ := S
  intro T hT X
  obtain ⟨v, vm₁, ⟨U', l2, c2, s2⟩, hW₁, X', ⟨g', mk, t, L, e1, e2, hq, h1, hL, h2, h3⟩, st⟩ := vx_callSW X hx (hh := hh) (bytes := bytes) (maxL := maxL) (ret := ret) ho hl hstt hini hcode hy hK hg (hsize.trans hml.symm) (argsL := As) (rest := rest) (fun sig h => hn.trans (hlen sig h)) hstack hW (by rw [hb]; exact hdg)
    (fun vm₁ hW₁ => ⟨hf.1, hf.2, hp.2 (T.setVm vm₁) hT hW₁⟩)
  dsimp only [Pt.U, Pt.locs, Pt.cells, Pt.slots] at X' e1 e2 h1 h2 h3 st
  subst h1; subst h2; subst h3
  exact ⟨v, (T.setVm vm₁).calling g' mk As.toArray, t, U', L, hT, X', hL, e1, e2, hq, st⟩
/-- not caught here, past rows that name other classes: it goes on to the caller -/
theorem vx_outP {p : Program} {l : Launch} {e : Env} {R : Room} {s : State} {m : MethodId} {args : Array Value} {below : List Frame} {meth : Method} {c : Code} {H : Heap} {locs : List Loc} {cells slots : Nat} {free : Addr → Prop} {ls : Array Slot} {rest : List Value} {Qc : Array Value → State → Outcome → State → Prop} {XC : String → State → State → Prop}
    {pc : Nat} {own E : String} {ce : Cell} {q : Addr} {mc ms : Nat} (hown : s.vm.findClass own = some m.cls) (hlocks : meth.locks = false)
    (hpass : ∀ z ∈ c.exceptionTable.toList, covers z pc = false ∨ (z.catchType ≠ 0 ∧ ∃ nm : String, (Cond.classLink own z.catchType nm).before args s = true ∧ va_Nc E nm s)) (hcell : H[q]? = some ce) (hv : ce.vm = .none) (hcl : s.vm.findClass E = some ce.cls)
    (hx : ∀ t : State, t.heap = H → s.vm.Alike t.vm → XC E s t) (hf : ∀ z ∈ locs, free z.base) (hc : cells ≤ mc) (hs : slots ≤ ms) :
    vx_W p l e R s m args below meth c H locs cells slots (vx_MQ below Qc XC args s mc ms free) (F0 m pc ls rest) q := by
  intro T hT X
  have hpl : e.platform.magicAccessors = ({} : Platform).magicAccessors := by rw [X.admits.platform]
  obtain ⟨vm', hW', X', st⟩ := X.outThrough hlocks q (g := F0 m pc ls rest) rfl rfl rfl (cell := ce) (by rw [hT]; exact hcell) (by rw [hv]; rfl)
    (by obtain ⟨k9, h9, -⟩ := Vm.findClass_spec hcl; exact ⟨k9, h9⟩) (fun z hz => by
      rcases hpass z hz with h | ⟨hz0, nm, hl1, hn1⟩
      · exact Or.inl h
      · obtain ⟨c6, hc6, hcl6⟩ := Cond.classLink_spec hown hl1 e.platform hpl
        obtain ⟨a8, b8, h1, h2, h3⟩ := hn1
        cases Option.some.inj (h1.symm.trans hcl)
        cases Option.some.inj (h2.symm.trans hc6)
        exact Or.inr ⟨hz0, _, hcl6, h3⟩)
  obtain ⟨g₀, hfr⟩ := X'.frames_eq
  have hcell9 : ((T.setVm vm').setFrames (.throwing q :: below)).heap[q]? = some ce := by
    show T.heap[q]? = some ce
    rw [hT]; exact hcell
  have hend : Ended ((T.setVm vm').setFrames (.throwing q :: below)) below (.threw q) := State.frames_setFrames _ (State.cur_lt_of_frames hfr)
  refine ⟨(T.setVm vm').setFrames (.throwing q :: below), ?_, .threw q, X'.here.running, hend, Or.inr ⟨q, rfl, E, ce, locs, hx _ hT (X'.ends _).1.alike, hcell9, hv, hcl, (X'.ends _).1, (X'.ends _).2.mono hc hs, hf⟩⟩
  rw [X.pushThrowing_eq]
  exact st
/-- a thing of a world lies in the heap -/
theorem vx_lt {D : va_G} {cl : List vw_C} {ws : va_W} {H1 : Heap} (h : va_P D cl ws H1) {k : Nat} {q : Nat × va_E} (hk : ws[k]? = some q) : q.1 < H1.size := (h k q hk).lt
end VXS
/-! ===== END ===== -/
/-! ===== BEGIN methods with a table of their own: called by a name, returning or throwing ===== -/
section VXH
/-! vx_backW, vx_callVX, vx_callSX, vx_callVW, vx_runVW, vx_runVX, vx_runSX, vx_ofWH follow the same proofs as their sisters above (Free/Laws.lean, Shelf42/LK1.lean); vx_outP calls Shelf42/NT130.lean (outThrough). -/
section
variable {l : Launch} {R : Room} {p : Program} {e : Env} {below : List Frame} {s : State} {sargs : Array Value} {y : MethodName} {len W9 : Nat}
theorem vx_backW {ws : List Cond} {rm : Room} {Pc : Array Value → State → Prop} {Qc : Array Value → State → Outcome → State → Prop} {XC : String → State → State → Prop} {mc ms : Nat} {free : Addr → Prop} {bytes : ByteArray} {maxL : Nat} {ret : Option FieldType} {hh : List (Nat × Nat × Nat × Nat)}
    (hM : vx_Met l y ws rm Pc Qc XC mc ms free) (hblind : FrameBlind Pc) (hrc : rm.cells = mc) (hrs : rm.slots = ms)
    (hframes : rm.frames + 1 ≤ R.frames) (hlocals : W9 + (maxL + 11) + rm.locals ≤ R.locals)
    (hws : ∀ w ∈ ws, ∀ a' U, s.WarmedH U.vm → w.before a' U = true) (hcode : Cond.codeWith y bytes maxL ret hh ∈ ws) (hinit : ∀ a' U, s.WarmedH U.vm → (Cond.initialized y.cls).before a' U = true) :
    vx_Back l R p e below s sargs y len W9 (PreOf R mc ms Pc) (PostOf Qc mc ms free) (vx_Post XC mc ms free) := by
  intro m meth c A g ig mk a X hg hsize hdg hW hn hp
  have h1 : (headSpec ws rm).pre.before a A.U = true := atoms_intro fun w hw => hws w hw _ _ X.warmed
  have h2 : (Cond.codeWith y bytes maxL ret hh).before a A.U = true := hws _ hcode _ _ X.warmed
  have h3 : (Cond.initialized y.cls).before a A.U = true := hinit _ _ X.warmed
  have h4 : A.cells + (headSpec ws rm).room.cells ≤ R.cells := by rw [show (headSpec ws rm).room.cells = mc from hrc]; exact hp.1
  have h5 : A.slots + (headSpec ws rm).room.slots ≤ R.slots := by rw [show (headSpec ws rm).room.slots = ms from hrs]; exact hp.2.1
  have hPc : Pc a (A.U.calling g mk a) := hblind _ _ _ _ hp.2.2
  obtain ⟨U, Ls, c0, s0⟩ := A
  dsimp only [Pt.U, Pt.locs, Pt.cells, Pt.slots] at h1 h2 h3 h4 h5 X hn hPc ⊢
  obtain ⟨m9, methY, cY, hn9, hmY, hcY, -, hlY, -⟩ := Cond.codeWith_spec h2
  cases Option.some.inj (hn9.symm.trans hn)
  obtain ⟨kY, hkY, -⟩ := className_of_methodNamed hn
  have hinitY : kY.init = .initialized := Cond.initialized_spec (findClass_of_methodNamed hn) hkY h3
  have h : At U g.method c below := by rw [hg]; exact X.here
  have hlocals9 : W9 + (maxL + 11) + (headSpec ws rm).room.locals ≤ R.locals := hlocals
  have happ : (headSpec ws rm).appliesLoose y e.platform (U.calling g mk a) = true :=
    Spec.appliesLoose_calling (g := g) h hdg hn hkY hinitY
      (X.room_calling (g := g) (R' := (headSpec ws rm).room) hsize hmY hcY hframes (by rw [hlY]; omega) h4 h5) h1
  obtain ⟨mid, hmid⟩ := h.above
  have hfr : (U.setTop g).frames = (.java g :: mid) ++ below := by rw [State.frames_setTop' g h.top, hmid]; rfl
  obtain ⟨o, s₂, hsteps, -, hend, hq⟩ := Steps.callFree hM p X.admits X.cas X.clock (acts := []) hfr happ hPc trivial
  have hq' : vx_Q Qc XC mc ms free a (U.calling g mk a) o s₂ := hq
  rw [State.frames_setTop' g h.top] at hend
  obtain ⟨g₀, hg0⟩ := Option.isSome_iff_exists.mp h.top
  obtain ⟨r, hr⟩ := State.topJava?_eq_some.mp hg0
  have hr' : (({ U with heap := s₂.heap, slotsUsed := s₂.slotsUsed } : State).setVm s₂.vm).frames = .java g₀ :: r := hr
  rcases hq' with ⟨hqc, L, hfe, hL⟩ | ⟨q, rfl, E, ce, L, hx, hce, hcv, hcl, hW₂, hsm, hL⟩
  · obtain ⟨⟨v, rfl⟩, hW₂, e2, q2, q3, q4, q5, q6⟩ := id hfe
    have e3 : s₂ = ({ (U.calling g mk a).setFrames s₂.frames with heap := s₂.heap, slotsUsed := s₂.slotsUsed } : State).setVm s₂.vm := by
      have : s₂ = ({ s₂ with vm := (U.calling g mk a).vm } : State).setVm s₂.vm := rfl
      rw [e2] at this
      exact this
    obtain ⟨c₂, i₂, len₂, hc₂, hd₂, hf₂⟩ := hend
    have hW' : U.WarmedH s₂.vm := hW₂
    have hcc : c₂ = c := by
      have h1 : s₂.code? g.method = U.code? g.method := by
        rw [State.code?_eq, State.code?_eq, hW'.alike.method?]
      exact Option.some.inj (hc₂.symm.trans (h1.trans h.code))
    subst hcc
    have hlen : len₂ = len := by rw [hdg] at hd₂; cases hd₂; rfl
    subst hlen
    have hs₂ : s₂ = (({ U with heap := s₂.heap, slotsUsed := s₂.slotsUsed } : State).setVm s₂.vm).setTop { g with pc := g.pc + len₂, stack := v.toList ++ g.stack } := by
      refine e3.trans ?_
      rw [hf₂, State.calling_eq h.top, State.setFrames_setFrames, State.setTop_of_frames _ hr', hr]
      rfl
    have hsame : U.sameButNew ({ U with heap := s₂.heap, slotsUsed := s₂.slotsUsed } : State) L mc ms := by
      refine ⟨?_, q2, q3, q4, q5, q6⟩
      obtain ⟨t, ht, -⟩ := State.frames_cons hr
      show ({ U with heap := s₂.heap, slotsUsed := s₂.slotsUsed } : State) = { U.setFrames U.frames with heap := s₂.heap, slotsUsed := s₂.slotsUsed }
      rw [State.setFrames_self ht]
    subst hg
    refine Or.inl ⟨v, ⟨(({ U with heap := s₂.heap, slotsUsed := s₂.slotsUsed } : State).setVm s₂.vm), Ls ++ L, c0 + mc, s0 + ms⟩,
      ⟨X.admits, X.cas, X.clock, X.frames, X.room, X.hears, X.method, X.code, (X.here.setHeapUsed s₂.heap s₂.slotsUsed).setVm hW'.alike, X.tail, State.WarmedH.trans X.warmed hW', X.limits, X.bytes, X.same.trans (hsame.setVm s.vm)⟩,
      ⟨g, mk, s₂, L, rfl, rfl, hqc, rfl, hL, rfl, rfl⟩, ?_⟩
    show Steps p.tables e below _ ((({ U with heap := s₂.heap, slotsUsed := s₂.slotsUsed } : State).setVm s₂.vm).setTop { g with pc := g.pc + len₂, stack := v.toList ++ g.stack })
    rw [← hs₂]
    exact hsteps
  · obtain ⟨e2, q2, q3, q4, q5, q6⟩ := id hsm
    have e3 : s₂ = ({ (U.calling g mk a).setFrames s₂.frames with heap := s₂.heap, slotsUsed := s₂.slotsUsed } : State).setVm s₂.vm := by
      have : s₂ = ({ s₂ with vm := (U.calling g mk a).vm } : State).setVm s₂.vm := rfl
      rw [e2] at this
      exact this
    have hf₂ : s₂.frames = .throwing q :: .java g :: U.frames.tail := hend
    have hW' : U.WarmedH s₂.vm := hW₂
    have hs₂ : s₂ = ((({ U with heap := s₂.heap, slotsUsed := s₂.slotsUsed } : State).setVm s₂.vm).setTop g).pushFrame (.throwing q) := by
      refine e3.trans ?_
      rw [hf₂, State.calling_eq h.top, State.setFrames_setFrames, State.pushFrame, State.frames_setTop _ hr', State.setTop_of_frames _ hr', State.setFrames_setFrames, hr]
      rfl
    have hsame : U.sameButNew ({ U with heap := s₂.heap, slotsUsed := s₂.slotsUsed } : State) L mc ms := by
      refine ⟨?_, q2, q3, q4, q5, q6⟩
      obtain ⟨t, ht, -⟩ := State.frames_cons hr
      show ({ U with heap := s₂.heap, slotsUsed := s₂.slotsUsed } : State) = { U.setFrames U.frames with heap := s₂.heap, slotsUsed := s₂.slotsUsed }
      rw [State.setFrames_self ht]
    subst hg
    refine Or.inr ⟨q, ⟨(({ U with heap := s₂.heap, slotsUsed := s₂.slotsUsed } : State).setVm s₂.vm), Ls ++ L, c0 + mc, s0 + ms⟩,
      ⟨X.admits, X.cas, X.clock, X.frames, X.room, X.hears, X.method, X.code, (X.here.setHeapUsed s₂.heap s₂.slotsUsed).setVm hW'.alike, X.tail, State.WarmedH.trans X.warmed hW', X.limits, X.bytes, X.same.trans (hsame.setVm s.vm)⟩,
      ⟨g, mk, s₂, L, E, ce, rfl, rfl, hx, hce, hcv, hcl, rfl, hL, rfl, rfl⟩, ?_⟩
    show Steps p.tables e below _ (((({ U with heap := s₂.heap, slotsUsed := s₂.slotsUsed } : State).setVm s₂.vm).setTop g).pushFrame (.throwing q))
    rw [← hs₂]
    exact hsteps
end
variable {p : Program} {l : Launch} {e : Env} {R : Room} {s : State} {m : MethodId} {args : Array Value} {below : List Frame} {meth : Method} {c : Code} {T : State} {H : Heap} {locs : List Loc} {cells slots : Nat}
theorem vx_callVX (X : Stand p l e R s m args below meth c T locs cells slots) (hexec : p.tables.exec = Jvm.exec) {own C : String} {index : Nat} {y : MethodName} {bytes : ByteArray} {maxL : Nat} {ret : Option FieldType} {hh : List (Nat × Nat × Nat × Nat)}
    (hown : s.vm.findClass own = some m.cls) (hlink : (Cond.methodLink own index y).before args s = true) (hinst : (Cond.instanceMethod y).before args s = true) (hsel : (Cond.selects C y y).before args s = true)
    (hcode : (Cond.codeWith y bytes maxL ret hh).before args s = true) (hy : y.cls ≠ "java/lang/invoke/MethodHandle" ∧ y.cls ≠ "java/lang/invoke/VarHandle")
    {W9 : Nat} {Pre : Pt → Array Value → Prop} {Post : Pt → Array Value → Option Value → Pt → Prop} {PostX : Pt → Array Value → Addr → Pt → Prop} (hK : vx_Back l R p e below s args y 3 W9 Pre Post PostX)
    {b : Addr} {cellB : Cell} (hcell : T.heap[b]? = some cellB) (hobj : cellB.vm.isStatics = false) (hcls : s.vm.findClass C = some cellB.cls)
    {g : JFrame} (hg : g.method = m) (hsize : g.locals.size = c.maxLocals) {argsL rest : List Value} (hlen : ∀ sig, parseMethodDescriptor y.desc = some sig → argsL.length = sig.parameters.length)
    (hstack : g.stack = argsL.reverse ++ .ref b :: rest) (hW : 2 * g.monitorRoom + (rest.map fun v => v.category).sum ≤ W9) (hdg : decode c.code g.pc = .ok (.invokevirtual index, 3))
    (hpre : ∀ vm₁, s.WarmedH vm₁ → Pre ⟨T.setVm vm₁, locs, cells, slots⟩ (Value.ref b :: argsL).toArray) :
    (∃ (v : Option Value) (vm₁ : Vm) (B : Pt), s.WarmedH vm₁ ∧ Stand p l e R s m args below meth c B.U B.locs B.cells B.slots ∧ Post ⟨T.setVm vm₁, locs, cells, slots⟩ (Value.ref b :: argsL).toArray v B ∧
      ∀ target, Steps p.tables e below (B.U.setTop { g with pc := g.pc + 3, stack := v.toList ++ rest }) target → Steps p.tables e below (T.setTop g) target) ∨
    (∃ (q : Addr) (vm₁ : Vm) (B : Pt), s.WarmedH vm₁ ∧ Stand p l e R s m args below meth c B.U B.locs B.cells B.slots ∧ PostX ⟨T.setVm vm₁, locs, cells, slots⟩ (Value.ref b :: argsL).toArray q B ∧
      Steps p.tables e below (T.setTop g) ((B.U.setTop { g with stack := rest }).pushFrame (.throwing q))) := by
  obtain ⟨mk, methM, hnamed, hmethM, hstM, habM⟩ := Cond.instanceMethod_spec hinst
  obtain ⟨m8, methM', cM, hn8, hmethM', -, -, -, -, -, -, hsigM⟩ := Cond.codeWith_spec hcode
  cases Option.some.inj (hn8.symm.trans hnamed)
  cases hmethM.symm.trans hmethM'
  obtain ⟨c2, r2, m2, q1, q2, q3, q4, kP, hkP, hkPi⟩ := Cond.selects_spec hsel
  cases hcls.symm.trans q1
  cases (State.methodFound?_of_named hnamed hy).symm.trans q2
  cases hnamed.symm.trans q3
  have hselP : selectMethod e.platform s.vm cellB.cls mk = .method mk := by rw [Launch.admits_selectMethod X.admits]; exact q4
  obtain ⟨vm₁, X₁, hstep₁⟩ := X.invokevirtual hexec hown hlink hnamed hmethM hstM hkP hkPi hy (a := b) (cell := cellB) hcell
    (fun z h => by rw [h] at hobj; cases hobj) hselP hmethM habM hkP hkPi (g := g) hg (argsL := argsL) (rest := rest) (hlen _ hsigM) hstack hdg
  rcases hK m meth c ⟨T.setVm vm₁, locs, cells, slots⟩ { g with stack := rest } (.invokevirtual index) mk (Value.ref b :: argsL).toArray X₁ hg hsize hdg hW (X₁.named hnamed) (hpre vm₁ X₁.warmed) with ⟨v, B, X', hpost, hsteps⟩ | ⟨q, B, X', hpost, hsteps⟩
  · exact Or.inl ⟨v, vm₁, B, X₁.warmed, X', hpost, fun target h => hstep₁ _ fun acts => by rw [doInvoke_state]; exact hsteps.trans h⟩
  · exact Or.inr ⟨q, vm₁, B, X₁.warmed, X', hpost, hstep₁ _ fun acts => by rw [doInvoke_state]; exact hsteps⟩
theorem vx_callSX (X : Stand p l e R s m args below meth c T locs cells slots) (hexec : p.tables.exec = Jvm.exec) {own : String} {index : Nat} {y : MethodName} {bytes : ByteArray} {maxL : Nat} {ret : Option FieldType} {hh : List (Nat × Nat × Nat × Nat)}
    (hown : s.vm.findClass own = some m.cls) (hlink : (Cond.methodLink own index y).before args s = true) (hstat : (Cond.static y).before args s = true) (hinit : (Cond.initialized y.cls).before args s = true)
    (hcode : (Cond.codeWith y bytes maxL ret hh).before args s = true) (hy : y.cls ≠ "java/lang/invoke/MethodHandle" ∧ y.cls ≠ "java/lang/invoke/VarHandle")
    {W9 : Nat} {Pre : Pt → Array Value → Prop} {Post : Pt → Array Value → Option Value → Pt → Prop} {PostX : Pt → Array Value → Addr → Pt → Prop} (hK : vx_Back l R p e below s args y 3 W9 Pre Post PostX)
    {g : JFrame} (hg : g.method = m) (hsize : g.locals.size = c.maxLocals) {argsL rest : List Value} (hlen : ∀ sig, parseMethodDescriptor y.desc = some sig → argsL.length = sig.parameters.length)
    (hstack : g.stack = argsL.reverse ++ rest) (hW : 2 * g.monitorRoom + (rest.map fun v => v.category).sum ≤ W9) (hdg : decode c.code g.pc = .ok (.invokestatic index, 3))
    (hpre : ∀ vm₁, s.WarmedH vm₁ → Pre ⟨T.setVm vm₁, locs, cells, slots⟩ argsL.toArray) :
    (∃ (v : Option Value) (vm₁ : Vm) (B : Pt), s.WarmedH vm₁ ∧ Stand p l e R s m args below meth c B.U B.locs B.cells B.slots ∧ Post ⟨T.setVm vm₁, locs, cells, slots⟩ argsL.toArray v B ∧
      ∀ target, Steps p.tables e below (B.U.setTop { g with pc := g.pc + 3, stack := v.toList ++ rest }) target → Steps p.tables e below (T.setTop g) target) ∨
    (∃ (q : Addr) (vm₁ : Vm) (B : Pt), s.WarmedH vm₁ ∧ Stand p l e R s m args below meth c B.U B.locs B.cells B.slots ∧ PostX ⟨T.setVm vm₁, locs, cells, slots⟩ argsL.toArray q B ∧
      Steps p.tables e below (T.setTop g) ((B.U.setTop { g with stack := rest }).pushFrame (.throwing q))) := by
  obtain ⟨mk, methM, cM, hnamed, hmethM, -, -, -, -, -, -, hsigM⟩ := Cond.codeWith_spec hcode
  have hstatic : methM.isStatic = true := Cond.static_spec hnamed hmethM hstat
  obtain ⟨kP, hkP, -⟩ := className_of_methodNamed hnamed
  have hinitP : kP.init = .initialized := Cond.initialized_spec (findClass_of_methodNamed hnamed) hkP hinit
  obtain ⟨vm₁, X₁, hstep₁⟩ := X.invokestatic hexec hown hlink hnamed hmethM hstatic hkP hinitP hy (g := g) hg (argsL := argsL) (rest := rest) (hlen _ hsigM) hstack hdg
  rcases hK m meth c ⟨T.setVm vm₁, locs, cells, slots⟩ { g with stack := rest } (.invokestatic index) mk argsL.toArray X₁ hg hsize hdg hW (X₁.named hnamed) (hpre vm₁ X₁.warmed) with ⟨v, B, X', hpost, hsteps⟩ | ⟨q, B, X', hpost, hsteps⟩
  · exact Or.inl ⟨v, vm₁, B, X₁.warmed, X', hpost, fun target h => hstep₁ _ fun acts => by rw [doInvoke_state]; exact hsteps.trans h⟩
  · exact Or.inr ⟨q, vm₁, B, X₁.warmed, X', hpost, hstep₁ _ fun acts => by rw [doInvoke_state]; exact hsteps⟩
theorem vx_callVW (X : Stand p l e R s m args below meth c T locs cells slots) (hexec : p.tables.exec = Jvm.exec) {own C : String} {index : Nat} {y : MethodName} {bytes : ByteArray} {maxL : Nat} {ret : Option FieldType} {hh : List (Nat × Nat × Nat × Nat)}
    (hown : s.vm.findClass own = some m.cls) (hlink : (Cond.methodLink own index y).before args s = true) (hinst : (Cond.instanceMethod y).before args s = true) (hsel : (Cond.selects C y y).before args s = true)
    (hcode : (Cond.codeWith y bytes maxL ret hh).before args s = true) (hy : y.cls ≠ "java/lang/invoke/MethodHandle" ∧ y.cls ≠ "java/lang/invoke/VarHandle")
    {W9 : Nat} {Pre : Pt → Array Value → Prop} {Post : Pt → Array Value → Option Value → Pt → Prop} (hK : Back l R p e below s args y 3 W9 Pre Post)
    {b : Addr} {cellB : Cell} (hcell : T.heap[b]? = some cellB) (hobj : cellB.vm.isStatics = false) (hcls : s.vm.findClass C = some cellB.cls)
    {g : JFrame} (hg : g.method = m) (hsize : g.locals.size = c.maxLocals) {argsL rest : List Value} (hlen : ∀ sig, parseMethodDescriptor y.desc = some sig → argsL.length = sig.parameters.length)
    (hstack : g.stack = argsL.reverse ++ .ref b :: rest) (hW : 2 * g.monitorRoom + (rest.map fun v => v.category).sum ≤ W9) (hdg : decode c.code g.pc = .ok (.invokevirtual index, 3))
    (hpre : ∀ vm₁, s.WarmedH vm₁ → Pre ⟨T.setVm vm₁, locs, cells, slots⟩ (Value.ref b :: argsL).toArray) :
    ∃ (v : Option Value) (vm₁ : Vm) (B : Pt), s.WarmedH vm₁ ∧ Stand p l e R s m args below meth c B.U B.locs B.cells B.slots ∧ Post ⟨T.setVm vm₁, locs, cells, slots⟩ (Value.ref b :: argsL).toArray v B ∧
      ∀ target, Steps p.tables e below (B.U.setTop { g with pc := g.pc + 3, stack := v.toList ++ rest }) target → Steps p.tables e below (T.setTop g) target := by
  obtain ⟨mk, methM, hnamed, hmethM, hstM, habM⟩ := Cond.instanceMethod_spec hinst
  obtain ⟨m8, methM', cM, hn8, hmethM', -, -, -, -, -, -, hsigM⟩ := Cond.codeWith_spec hcode
  cases Option.some.inj (hn8.symm.trans hnamed)
  cases hmethM.symm.trans hmethM'
  obtain ⟨c2, r2, m2, q1, q2, q3, q4, kP, hkP, hkPi⟩ := Cond.selects_spec hsel
  cases hcls.symm.trans q1
  cases (State.methodFound?_of_named hnamed hy).symm.trans q2
  cases hnamed.symm.trans q3
  have hselP : selectMethod e.platform s.vm cellB.cls mk = .method mk := by rw [Launch.admits_selectMethod X.admits]; exact q4
  obtain ⟨vm₁, X₁, hstep₁⟩ := X.invokevirtual hexec hown hlink hnamed hmethM hstM hkP hkPi hy (a := b) (cell := cellB) hcell
    (fun z h => by rw [h] at hobj; cases hobj) hselP hmethM habM hkP hkPi (g := g) hg (argsL := argsL) (rest := rest) (hlen _ hsigM) hstack hdg
  obtain ⟨v, B, X', hpost, hsteps⟩ := hK m meth c ⟨T.setVm vm₁, locs, cells, slots⟩ { g with stack := rest } (.invokevirtual index) mk (Value.ref b :: argsL).toArray X₁ hg hsize hdg hW (X₁.named hnamed) (hpre vm₁ X₁.warmed)
  exact ⟨v, vm₁, B, X₁.warmed, X', hpost, fun target h => hstep₁ _ fun acts => by rw [doInvoke_state]; exact hsteps.trans h⟩
abbrev vx_CVW (R : Room) (s : State) (args : Array Value) (own C : String) (index : Nat) (y : MethodName) (bytes : ByteArray) (maxL : Nat) (ret : Option FieldType) (hh : List (Nat × Nat × Nat × Nat)) (ws : List Cond) (rm : Room) (mc ms n : Nat) : Prop :=
  (rm.cells = mc ∧ rm.slots = ms ∧ rm.frames + 1 ≤ R.frames ∧ 8 + (maxL + 11) + rm.locals ≤ R.locals ∧ (∀ w ∈ ws, ∀ (a' : Array Value) (U : State), s.WarmedH U.vm → w.before a' U = true) ∧ Cond.codeWith y bytes maxL ret hh ∈ ws) ∧
  (Cond.codeWith y bytes maxL ret hh).before args s = true ∧ (Cond.initialized y.cls).before args s = true ∧ (y.cls ≠ "java/lang/invoke/MethodHandle" ∧ y.cls ≠ "java/lang/invoke/VarHandle") ∧
  (∀ sig, parseMethodDescriptor y.desc = some sig → n = sig.parameters.length) ∧ (Cond.methodLink own index y).before args s = true ∧ (Cond.instanceMethod y).before args s = true ∧ (Cond.selects C y y).before args s = true
theorem vx_cwVW {own C : String} {index maxL mc ms : Nat} {y : MethodName} {bytes : ByteArray} {ret : Option FieldType} {hh : List (Nat × Nat × Nat × Nat)} {Ts ws ws' : List Cond} {rm : Room} (n : Nat) (ht : ∀ w ∈ Ts, w.before args s = true) (hT : GoodIn Ts (wsV own index C y ws)) (hw : ws = Cond.codeWith y bytes maxL ret hh :: ws') (hrc : rm.cells = mc) (hrs : rm.slots = ms)
    (hd : y.cls = C ∧ y.cls ≠ "java/lang/invoke/MethodHandle" ∧ y.cls ≠ "java/lang/invoke/VarHandle" ∧ (parseMethodDescriptor y.desc).map (fun d => d.parameters.length) = some n) (hR : rm.frames + 1 ≤ R.frames ∧ 8 + (maxL + 11) + rm.locals ≤ R.locals) :
    vx_CVW R s args own C index y bytes maxL ret hh ws rm mc ms n := by
  obtain ⟨hC, hd⟩ := hd
  subst hC
  have ok : ∀ w ∈ wsV own index y.cls y ws, w.before args s = true := fun w h => ht w (hT w h).1
  have hG : GoodIn Ts ws := fun w h => hT w (by unfold wsV; exact List.mem_append_right _ h)
  have hc : Cond.codeWith y bytes maxL ret hh ∈ ws := by rw [hw]; exact List.mem_cons_self
  refine ⟨⟨hrc, hrs, hR.1, hR.2, pay_in ht hG, hc⟩, ht _ (hG _ hc).1, ok _ (by simp [wsV]), ⟨hd.1, hd.2.1⟩, fun sig h => ?_, ok _ (by simp [wsV]), ok _ (by simp [wsV]), ok _ (by simp [wsV])⟩
  have h2 := hd.2.2
  rw [h] at h2
  exact (Option.some.inj h2).symm
theorem vx_runVW {y : MethodName} {bytes cc : ByteArray} {maxL nL mc ms n index : Nat} {ret : Option FieldType} {hh : List (Nat × Nat × Nat × Nat)} {ws : List Cond} {rm : Room} {Pc : Array Value → State → Prop} {Qc : Array Value → State → Outcome → State → Prop} {free : Addr → Prop} {Ts : List Cond} {own C : String} {b : Addr} {As rest : List Value} {g : JFrame}
    (S : CallFix p m c cc nL s args Ts own) (hM : Met l y ws rm Pc Qc mc ms free) (cw : vx_CVW R s args own C index y bytes maxL ret hh ws rm mc ms n) (hp : PreV s H C b Pc As)
    (hg : g.method = m) (hn : As.length = n) (hsize : g.locals.size = nL) (hstack : g.stack = As.reverse ++ .ref b :: rest) (hW : 2 * g.monitorRoom + (rest.map fun v => v.category).sum ≤ 8) (hdg : decode cc g.pc = .ok (.invokevirtual index, 3)) (hf : cells + mc ≤ R.cells ∧ slots + ms ≤ R.slots) :
    va_Run p l e R s m args below meth c H locs cells slots mc ms g rest (Qc (Value.ref b :: As).toArray) free := by
  obtain ⟨⟨hrc, hrs, hfr, hlo, hws, hcw⟩, hcode, hini, hy, hlen, hl, hin, hse⟩ := cw
  have hK : Back l R p e below s args y 3 8 (PreOf R mc ms Pc) (PostOf Qc mc ms free) := va_backW (hh := hh) (bytes := bytes) (maxL := maxL) (ret := ret) hM hp.1 hrc hrs hfr hlo hws hcw (fun a' U hW => word_at hW (Or.inl (by first | rfl | simp [Cond.onTables, Cond.keeps, Cond.steady])) hini)
  obtain ⟨hx, hb, hml, ho, -⟩ := S
  obtain ⟨-, ⟨cellB, hcB, hoB, hclB⟩, hPc⟩ := hp
  intro T hT X
  obtain ⟨v, vm₁, ⟨U', l2, c2, s2⟩, hW₁, X', ⟨g', mk, t, L, e1, e2, hq, h1, hL, h2, h3⟩, st⟩ := vx_callVW X hx (C := C) (hh := hh) (bytes := bytes) (maxL := maxL) (ret := ret) ho hl hin hse hcode hy hK (by rw [hT]; exact hcB) hoB hclB hg (hsize.trans hml.symm) (argsL := As) (rest := rest) (fun sig h => hn.trans (hlen sig h)) hstack hW (by rw [hb]; exact hdg)
    (fun vm₁ hW₁ => ⟨hf.1, hf.2, hPc (T.setVm vm₁) hT hW₁⟩)
  dsimp only [Pt.U, Pt.locs, Pt.cells, Pt.slots] at X' e1 e2 h1 h2 h3 st
  subst h1; subst h2; subst h3
  exact ⟨v, (T.setVm vm₁).calling g' mk (Value.ref b :: As).toArray, t, U', L, hT, X', hL, e1, e2, hq, st⟩
section
variable {y : MethodName} {bytes cc : ByteArray} {maxL nL mc ms n index : Nat} {ret : Option FieldType} {ws : List Cond} {rm : Room} {Pc : Array Value → State → Prop} {Qc : Array Value → State → Outcome → State → Prop} {XC : String → State → State → Prop} {free : Addr → Prop} {Ts : List Cond} {own C : String} {b : Addr} {As rest : List Value} {g : JFrame}
theorem vx_runVX {hh : List (Nat × Nat × Nat × Nat)} (S : CallFix p m c cc nL s args Ts own) (hM : vx_Met l y ws rm Pc Qc XC mc ms free) (cw : vx_CVW R s args own C index y bytes maxL ret hh ws rm mc ms n) (hp : PreV s H C b Pc As)
    (hg : g.method = m) (hn : As.length = n) (hsize : g.locals.size = nL) (hstack : g.stack = As.reverse ++ .ref b :: rest) (hW : 2 * g.monitorRoom + (rest.map fun v => v.category).sum ≤ 8) (hdg : decode cc g.pc = .ok (.invokevirtual index, 3)) (hf : cells + mc ≤ R.cells ∧ slots + ms ≤ R.slots) :
    vx_Run p l e R s m args below meth c H locs cells slots mc ms g rest (Qc (Value.ref b :: As).toArray) XC free := by
  obtain ⟨⟨hrc, hrs, hfr, hlo, hws, hcw⟩, hcode, hini, hy, hlen, hl, hin, hse⟩ := cw
  have hK : vx_Back l R p e below s args y 3 8 (PreOf R mc ms Pc) (PostOf Qc mc ms free) (vx_Post XC mc ms free) := vx_backW (hh := hh) (bytes := bytes) (maxL := maxL) (ret := ret) hM hp.1 hrc hrs hfr hlo hws hcw (fun a' U hW => word_at hW (Or.inl (by first | rfl | simp [Cond.onTables, Cond.keeps, Cond.steady])) hini)
  obtain ⟨hx, hb, hml, ho, -⟩ := S
  obtain ⟨-, ⟨cellB, hcB, hoB, hclB⟩, hPc⟩ := hp
  intro T hT X
  rcases vx_callVX X hx (C := C) (hh := hh) (bytes := bytes) (maxL := maxL) (ret := ret) ho hl hin hse hcode hy hK (by rw [hT]; exact hcB) hoB hclB hg (hsize.trans hml.symm) (argsL := As) (rest := rest) (fun sig h => hn.trans (hlen sig h)) hstack hW (by rw [hb]; exact hdg)
    (fun vm₁ hW₁ => ⟨hf.1, hf.2, hPc (T.setVm vm₁) hT hW₁⟩) with ⟨v, vm₁, ⟨U', l2, c2, s2⟩, hW₁, X', ⟨g', mk, t, L, e1, e2, hq, h1, hL, h2, h3⟩, st⟩ | ⟨q, vm₁, ⟨U', l2, c2, s2⟩, hW₁, X', ⟨g', mk, t, L, E, ce, e1, e2, hq, hce, hcv, hcl, h1, hL, h2, h3⟩, st⟩
  · dsimp only [Pt.U, Pt.locs, Pt.cells, Pt.slots] at X' e1 e2 h1 h2 h3 st
    subst h1; subst h2; subst h3
    exact Or.inl ⟨v, (T.setVm vm₁).calling g' mk (Value.ref b :: As).toArray, t, U', L, hT, X', hL, e1, e2, hq, st⟩
  · dsimp only [Pt.U, Pt.locs, Pt.cells, Pt.slots] at X' e1 e2 h1 h2 h3 st hcl
    subst h1; subst h2; subst h3
    exact Or.inr ⟨q, (T.setVm vm₁).calling g' mk (Value.ref b :: As).toArray, t, U', L, E, ce, hT, X', hL, e1, e2, hq, hce, hcv, vx_cls hW₁ hcl, st⟩
theorem vx_runSX {hh : List (Nat × Nat × Nat × Nat)} (S : CallFix p m c cc nL s args Ts own) (hM : vx_Met l y ws rm Pc Qc XC mc ms free) (cw : vx_CSW R s args own index y bytes maxL ret hh ws rm mc ms n) (hp : PreS s H Pc As)
    (hg : g.method = m) (hn : As.length = n) (hsize : g.locals.size = nL) (hstack : g.stack = As.reverse ++ rest) (hW : 2 * g.monitorRoom + (rest.map fun v => v.category).sum ≤ 8) (hdg : decode cc g.pc = .ok (.invokestatic index, 3)) (hf : cells + mc ≤ R.cells ∧ slots + ms ≤ R.slots) :
    vx_Run p l e R s m args below meth c H locs cells slots mc ms g rest (Qc As.toArray) XC free := by
  obtain ⟨⟨hrc, hrs, hfr, hlo, hws, hcw⟩, hcode, hini, hy, hlen, hl, hstt⟩ := cw
  have hK : vx_Back l R p e below s args y 3 8 (PreOf R mc ms Pc) (PostOf Qc mc ms free) (vx_Post XC mc ms free) := vx_backW (hh := hh) (bytes := bytes) (maxL := maxL) (ret := ret) hM hp.1 hrc hrs hfr hlo hws hcw (fun a' U hW => word_at hW (Or.inl (by first | rfl | simp [Cond.onTables, Cond.keeps, Cond.steady])) hini)
  obtain ⟨hx, hb, hml, ho, -⟩ := S
  intro T hT X
  rcases vx_callSX X hx (hh := hh) (bytes := bytes) (maxL := maxL) (ret := ret) ho hl hstt hini hcode hy hK hg (hsize.trans hml.symm) (argsL := As) (rest := rest) (fun sig h => hn.trans (hlen sig h)) hstack hW (by rw [hb]; exact hdg)
    (fun vm₁ hW₁ => ⟨hf.1, hf.2, hp.2 (T.setVm vm₁) hT hW₁⟩) with ⟨v, vm₁, ⟨U', l2, c2, s2⟩, hW₁, X', ⟨g', mk, t, L, e1, e2, hq, h1, hL, h2, h3⟩, st⟩ | ⟨q, vm₁, ⟨U', l2, c2, s2⟩, hW₁, X', ⟨g', mk, t, L, E, ce, e1, e2, hq, hce, hcv, hcl, h1, hL, h2, h3⟩, st⟩
  · dsimp only [Pt.U, Pt.locs, Pt.cells, Pt.slots] at X' e1 e2 h1 h2 h3 st
    subst h1; subst h2; subst h3
    exact Or.inl ⟨v, (T.setVm vm₁).calling g' mk As.toArray, t, U', L, hT, X', hL, e1, e2, hq, st⟩
  · dsimp only [Pt.U, Pt.locs, Pt.cells, Pt.slots] at X' e1 e2 h1 h2 h3 st hcl
    subst h1; subst h2; subst h3
    exact Or.inr ⟨q, (T.setVm vm₁).calling g' mk As.toArray, t, U', L, E, ce, hT, X', hL, e1, e2, hq, hce, hcv, vx_cls hW₁ hcl, st⟩
end
end VXH
theorem vx_ofWH {l : Launch} {y : MethodName} {ws ws' : List Cond} {rm : Room} {Pc : Array Value → State → Prop} {Qc : Array Value → State → Outcome → State → Prop} {XC : String → State → State → Prop} {mc ms : Nat} {free : Addr → Prop} {cc : ByteArray} {maxL : Nat} {ret : Option FieldType} {hh : List (Nat × Nat × Nat × Nat)}
    (hy : plainName y.cls = true) (hw : ws = Cond.codeWith y cc maxL ret hh :: ws')
    (body : ∀ p e s m args below meth c s₁, BodyLoose p l y (headSpec ws rm) cc maxL ret e s m args below meth c s₁ → c.maxLocals = maxL → Pc args s →
      W p l e (headSpec ws rm).room s m args below meth c s.heap [] 0 0 (vx_MQ below Qc XC args s mc ms free) (entryFrame m args maxL)) : vx_Met l y ws rm Pc Qc XC mc ms free := by
  refine MetFree.of_bodyS (code := cc) (maxLocals := maxL) (ret := ret) hy ?_ ?_
  · intro args s m h hn
    obtain ⟨m9, meth, c, hn9, h1, h2, h3, h4, -, h5, h6, -⟩ := Cond.codeWith_spec (atoms_spec (ws := ws) h _ (by rw [hw]; exact List.mem_cons_self))
    cases hn.symm.trans hn9
    exact ⟨meth, c, h1, h2, h3, h4, h5, h6⟩
  · intro p e s m args below meth c s₁ B hml hP _
    have hh0 : s₁.heap = s.heap := by rw [B.state]; rfl
    obtain ⟨t, a1, o, b1, b2, b3⟩ := body p e s m args below meth c s₁ B hml hP s₁ hh0 (Stand.of_body B)
    exact ⟨t, o, a1, b1, b2, b3⟩
/-! ===== END ===== -/
end
section
/-! ===== BEGIN printed: names, fields, word lists, decode rows ===== -/
def RX0 : String := "FaultShrinker$Recipe"
def TX0 : u_T := fun k => match k with
  | 0 => ("FaultShrinker$Recipe", "kinds", "[I", true)
  | _ => ("FaultShrinker$Recipe", "size", "I", false)
def tyX0 : Nat → FieldType := fun k => match k with
  | 0 => .array .int
  | _ => .int
abbrev wsX00 : List Cond := u_ws RX0 TX0 2
theorem nmX0 : ∀ a, a < 2 → ∀ b, b < 2 → a ≠ b → (TX0 a).2.1 ≠ (TX0 b).2.1 := by decide +kernel
theorem tyX0_ok : ∀ k, k < 2 → parseFieldDescriptor (TX0 k).2.2.1 = some (tyX0 k) := by decide +kernel
abbrev cX0_init : ByteArray := prog_2_method_1_code
def yX0_init : MethodName := ⟨RX0, "<init>", "()V"⟩
abbrev cX0_size : ByteArray := prog_2_method_2_code
def yX0_size : MethodName := ⟨RX0, "size", "()I"⟩
abbrev cX0_isFull : ByteArray := prog_2_method_3_code
def yX0_isFull : MethodName := ⟨RX0, "isFull", "()Z"⟩
abbrev cX0_hasPlace : ByteArray := prog_2_method_4_code
def yX0_hasPlace : MethodName := ⟨RX0, "hasPlace", "(I)Z"⟩
abbrev cX0_hasDish : ByteArray := prog_2_method_5_code
def yX0_hasDish : MethodName := ⟨RX0, "hasDish", "(I)Z"⟩
abbrev cX0_wholeDish : ByteArray := prog_2_method_6_code
def yX0_wholeDish : MethodName := ⟨RX0, "wholeDish", "()I"⟩
abbrev cX0_kindAt : ByteArray := prog_2_method_7_code
def yX0_kindAt : MethodName := ⟨RX0, "kindAt", "(I)I"⟩
abbrev cX0_append : ByteArray := prog_2_method_8_code
def yX0_append : MethodName := ⟨RX0, "append", "(I)V"⟩
abbrev cX0_takeOut : ByteArray := prog_2_method_9_code
def yX0_takeOut : MethodName := ⟨RX0, "takeOut", "(I)V"⟩
abbrev cX0_kindsOf : ByteArray := prog_2_method_10_code
def yX0_kindsOf : MethodName := ⟨RX0, "kindsOf", "(I)I"⟩
def RX1 : String := "FaultShrinker$RuleBook"
def TX1 : u_T := fun k => match k with
  | 0 => ("FaultShrinker$RuleBook", "needed", "[I", true)
  | 1 => ("FaultShrinker$RuleBook", "spared", "[I", true)
  | _ => ("FaultShrinker$RuleBook", "size", "I", false)
def tyX1 : Nat → FieldType := fun k => match k with
  | 0 => .array .int
  | 1 => .array .int
  | _ => .int
abbrev wsX10 : List Cond := u_ws RX1 TX1 3
theorem nmX1 : ∀ a, a < 3 → ∀ b, b < 3 → a ≠ b → (TX1 a).2.1 ≠ (TX1 b).2.1 := by decide +kernel
theorem tyX1_ok : ∀ k, k < 3 → parseFieldDescriptor (TX1 k).2.2.1 = some (tyX1 k) := by decide +kernel
abbrev cX1_init : ByteArray := prog_3_method_1_code
def yX1_init : MethodName := ⟨RX1, "<init>", "()V"⟩
abbrev cX1_size : ByteArray := prog_3_method_2_code
def yX1_size : MethodName := ⟨RX1, "size", "()I"⟩
abbrev cX1_isFull : ByteArray := prog_3_method_3_code
def yX1_isFull : MethodName := ⟨RX1, "isFull", "()Z"⟩
abbrev cX1_hasRule : ByteArray := prog_3_method_4_code
def yX1_hasRule : MethodName := ⟨RX1, "hasRule", "(I)Z"⟩
abbrev cX1_append : ByteArray := prog_3_method_5_code
def yX1_append : MethodName := ⟨RX1, "append", "()V"⟩
abbrev cX1_neededBy : ByteArray := prog_3_method_6_code
def yX1_neededBy : MethodName := ⟨RX1, "neededBy", "(I)I"⟩
abbrev cX1_sparedBy : ByteArray := prog_3_method_7_code
def yX1_sparedBy : MethodName := ⟨RX1, "sparedBy", "(I)I"⟩
abbrev cX1_putNeeded : ByteArray := prog_3_method_8_code
def yX1_putNeeded : MethodName := ⟨RX1, "putNeeded", "(II)V"⟩
abbrev cX1_putSpared : ByteArray := prog_3_method_9_code
def yX1_putSpared : MethodName := ⟨RX1, "putSpared", "(II)V"⟩
abbrev cX1_holds : ByteArray := prog_3_method_10_code
def yX1_holds : MethodName := ⟨RX1, "holds", "(II)Z"⟩
abbrev cX1_holding : ByteArray := prog_3_method_11_code
def yX1_holding : MethodName := ⟨RX1, "holding", "(I)I"⟩
abbrev cX1_leastNeeded : ByteArray := prog_3_method_12_code
def yX1_leastNeeded : MethodName := ⟨RX1, "leastNeeded", "(I)I"⟩
def RX2 : String := "FaultShrinker$Search"
def TX2 : u_T := fun k => match k with
  | 0 => ("FaultShrinker$Search", "facts", "[I", true)
  | 1 => ("FaultShrinker$Search", "firstPlaces", "[I", true)
  | 2 => ("FaultShrinker$Search", "dish", "I", false)
  | 3 => ("FaultShrinker$Search", "parts", "I", false)
  | 4 => ("FaultShrinker$Search", "steps", "I", false)
  | _ => ("FaultShrinker$Search", "tastings", "I", false)
def tyX2 : Nat → FieldType := fun k => match k with
  | 0 => .array .int
  | 1 => .array .int
  | 2 => .int
  | 3 => .int
  | 4 => .int
  | _ => .int
abbrev wsX20 : List Cond := u_ws RX2 TX2 6
theorem nmX2 : ∀ a, a < 6 → ∀ b, b < 6 → a ≠ b → (TX2 a).2.1 ≠ (TX2 b).2.1 := by decide +kernel
theorem tyX2_ok : ∀ k, k < 6 → parseFieldDescriptor (TX2 k).2.2.1 = some (tyX2 k) := by decide +kernel
abbrev cX2_init : ByteArray := prog_4_method_1_code
def yX2_init : MethodName := ⟨RX2, "<init>", "()V"⟩
abbrev cX2_list : ByteArray := prog_4_method_2_code
def yX2_list : MethodName := ⟨RX2, "list", "()I"⟩
abbrev cX2_listSize : ByteArray := prog_4_method_3_code
def yX2_listSize : MethodName := ⟨RX2, "listSize", "()I"⟩
abbrev cX2_steps : ByteArray := prog_4_method_4_code
def yX2_steps : MethodName := ⟨RX2, "steps", "()I"⟩
abbrev cX2_tastings : ByteArray := prog_4_method_5_code
def yX2_tastings : MethodName := ⟨RX2, "tastings", "()I"⟩
abbrev cX2_listPlace : ByteArray := prog_4_method_6_code
def yX2_listPlace : MethodName := ⟨RX2, "listPlace", "(I)I"⟩
abbrev cX2_stepFact : ByteArray := prog_4_method_7_code
def yX2_stepFact : MethodName := ⟨RX2, "stepFact", "(II)I"⟩
abbrev cX2_goByHalves : ByteArray := prog_4_method_8_code
def yX2_goByHalves : MethodName := ⟨RX2, "goByHalves", "(LFaultShrinker$Taster;I)V"⟩
abbrev cX2_goOneByOne : ByteArray := prog_4_method_9_code
def yX2_goOneByOne : MethodName := ⟨RX2, "goOneByOne", "(LFaultShrinker$Taster;I)V"⟩
abbrev cX2_begin : ByteArray := prog_4_method_10_code
def yX2_begin : MethodName := ⟨RX2, "begin", "(LFaultShrinker$Taster;I)Z"⟩
abbrev cX2_makeStep : ByteArray := prog_4_method_11_code
def yX2_makeStep : MethodName := ⟨RX2, "makeStep", "(LFaultShrinker$Taster;)Z"⟩
abbrev cX2_countPlaces : ByteArray := prog_4_method_12_code
def yX2_countPlaces : MethodName := ⟨RX2, "countPlaces", "()V"⟩
abbrev cX2_firstSpoiledPart : ByteArray := prog_4_method_13_code
def yX2_firstSpoiledPart : MethodName := ⟨RX2, "firstSpoiledPart", "(LFaultShrinker$Taster;I)I"⟩
abbrev cX2_firstSparedPart : ByteArray := prog_4_method_14_code
def yX2_firstSparedPart : MethodName := ⟨RX2, "firstSparedPart", "(LFaultShrinker$Taster;I)I"⟩
abbrev cX2_partAt : ByteArray := prog_4_method_15_code
def yX2_partAt : MethodName := ⟨RX2, "partAt", "(II)I"⟩
abbrev cX2_note : ByteArray := prog_4_method_16_code
def yX2_note : MethodName := ⟨RX2, "note", "(IIII)V"⟩
def RX3 : String := "FaultShrinker$Taster"
def TX3 : u_T := fun k => match k with
  | 0 => ("FaultShrinker$Taster", "recipe", "LFaultShrinker$Recipe;", true)
  | 1 => ("FaultShrinker$Taster", "rules", "LFaultShrinker$RuleBook;", true)
  | 2 => ("FaultShrinker$Taster", "known", "[J", true)
  | 3 => ("FaultShrinker$Taster", "search", "J", false)
  | _ => ("FaultShrinker$Taster", "tastings", "I", false)
def tyX3 : Nat → FieldType := fun k => match k with
  | 0 => .object "FaultShrinker$Recipe"
  | 1 => .object "FaultShrinker$RuleBook"
  | 2 => .array .long
  | 3 => .long
  | _ => .int
abbrev wsX30 : List Cond := u_ws RX3 TX3 5
theorem nmX3 : ∀ a, a < 5 → ∀ b, b < 5 → a ≠ b → (TX3 a).2.1 ≠ (TX3 b).2.1 := by decide +kernel
theorem tyX3_ok : ∀ k, k < 5 → parseFieldDescriptor (TX3 k).2.2.1 = some (tyX3 k) := by decide +kernel
abbrev cX3_init : ByteArray := prog_5_method_1_code
def yX3_init : MethodName := ⟨RX3, "<init>", "(LFaultShrinker$Recipe;LFaultShrinker$RuleBook;)V"⟩
abbrev cX3_begin : ByteArray := prog_5_method_2_code
def yX3_begin : MethodName := ⟨RX3, "begin", "()V"⟩
abbrev cX3_tastings : ByteArray := prog_5_method_3_code
def yX3_tastings : MethodName := ⟨RX3, "tastings", "()I"⟩
abbrev cX3_looksSpoiled : ByteArray := prog_5_method_4_code
def yX3_looksSpoiled : MethodName := ⟨RX3, "looksSpoiled", "(I)Z"⟩
abbrev cX3_learn : ByteArray := prog_5_method_5_code
def yX3_learn : MethodName := ⟨RX3, "learn", "(I)Z"⟩
def RX4 : String := "FaultShrinker"
def TX4 : u_T := fun k => match k with
  | 0 => ("FaultShrinker", "recipe", "LFaultShrinker$Recipe;", true)
  | 1 => ("FaultShrinker", "rules", "LFaultShrinker$RuleBook;", true)
  | 2 => ("FaultShrinker", "taster", "LFaultShrinker$Taster;", true)
  | 3 => ("FaultShrinker", "keptSearch", "LFaultShrinker$Search;", true)
  | 4 => ("FaultShrinker", "trialSearch", "LFaultShrinker$Search;", true)
  | 5 => ("FaultShrinker", "keptListKinds", "I", false)
  | _ => ("FaultShrinker", "keptTastings", "I", false)
def tyX4 : Nat → FieldType := fun k => match k with
  | 0 => .object "FaultShrinker$Recipe"
  | 1 => .object "FaultShrinker$RuleBook"
  | 2 => .object "FaultShrinker$Taster"
  | 3 => .object "FaultShrinker$Search"
  | 4 => .object "FaultShrinker$Search"
  | 5 => .int
  | _ => .int
abbrev wsX40 : List Cond := u_ws RX4 TX4 7
theorem nmX4 : ∀ a, a < 7 → ∀ b, b < 7 → a ≠ b → (TX4 a).2.1 ≠ (TX4 b).2.1 := by decide +kernel
theorem tyX4_ok : ∀ k, k < 7 → parseFieldDescriptor (TX4 k).2.2.1 = some (tyX4 k) := by decide +kernel
abbrev cX4_init : ByteArray := prog_1_method_1_code
def yX4_init : MethodName := ⟨RX4, "<init>", "()V"⟩
abbrev cX4_add : ByteArray := prog_1_method_2_code
def yX4_add : MethodName := ⟨RX4, "add", "(I)I"⟩
abbrev cX4_drop : ByteArray := prog_1_method_3_code
def yX4_drop : MethodName := ⟨RX4, "drop", "(I)I"⟩
abbrev cX4_kind : ByteArray := prog_1_method_4_code
def yX4_kind : MethodName := ⟨RX4, "kind", "(I)I"⟩
abbrev cX4_rule : ByteArray := prog_1_method_5_code
def yX4_rule : MethodName := ⟨RX4, "rule", "()I"⟩
abbrev cX4_setNeeds : ByteArray := prog_1_method_6_code
def yX4_setNeeds : MethodName := ⟨RX4, "setNeeds", "(IIZ)Z"⟩
abbrev cX4_setSpares : ByteArray := prog_1_method_7_code
def yX4_setSpares : MethodName := ⟨RX4, "setSpares", "(IIZ)Z"⟩
abbrev cX4_told : ByteArray := prog_1_method_8_code
def yX4_told : MethodName := ⟨RX4, "told", "(II)I"⟩
abbrev cX4_spoils : ByteArray := prog_1_method_9_code
def yX4_spoils : MethodName := ⟨RX4, "spoils", "(I)Z"⟩
abbrev cX4_shrink : ByteArray := prog_1_method_10_code
def yX4_shrink : MethodName := ⟨RX4, "shrink", "()I"⟩
abbrev cX4_kept : ByteArray := prog_1_method_11_code
def yX4_kept : MethodName := ⟨RX4, "kept", "(I)I"⟩
abbrev cX4_step : ByteArray := prog_1_method_12_code
def yX4_step : MethodName := ⟨RX4, "step", "(II)I"⟩
abbrev cX4_count : ByteArray := prog_1_method_13_code
def yX4_count : MethodName := ⟨RX4, "count", "(I)I"⟩
abbrev cX4_would : ByteArray := prog_1_method_14_code
def yX4_would : MethodName := ⟨RX4, "would", "(I)I"⟩
abbrev cX4_least : ByteArray := prog_1_method_15_code
def yX4_least : MethodName := ⟨RX4, "least", "()I"⟩
abbrev cX4_isTight : ByteArray := prog_1_method_16_code
def yX4_isTight : MethodName := ⟨RX4, "isTight", "(I)Z"⟩
abbrev cX4_advise : ByteArray := prog_1_method_17_code
def yX4_advise : MethodName := ⟨RX4, "advise", "()I"⟩
abbrev cX4_mean : ByteArray := prog_1_method_18_code
def yX4_mean : MethodName := ⟨RX4, "mean", "()D"⟩
abbrev cX4_digest : ByteArray := prog_1_method_19_code
def yX4_digest : MethodName := ⟨RX4, "digest", "()J"⟩
abbrev cX4_digestState : ByteArray := prog_1_method_20_code
def yX4_digestState : MethodName := ⟨RX4, "digestState", "(J)J"⟩
abbrev cX4_digestKept : ByteArray := prog_1_method_21_code
def yX4_digestKept : MethodName := ⟨RX4, "digestKept", "(J)J"⟩
abbrev cX4_ruleFact : ByteArray := prog_1_method_22_code
def yX4_ruleFact : MethodName := ⟨RX4, "ruleFact", "(II)I"⟩
abbrev cX4_countFact : ByteArray := prog_1_method_23_code
def yX4_countFact : MethodName := ⟨RX4, "countFact", "(I)I"⟩
abbrev cX4_isSpoiled : ByteArray := prog_1_method_24_code
def yX4_isSpoiled : MethodName := ⟨RX4, "isSpoiled", "(I)Z"⟩
abbrev cX4_isKind : ByteArray := prog_1_method_25_code
def yX4_isKind : MethodName := ⟨RX4, "isKind", "(I)Z"⟩
abbrev cX4_hasBit : ByteArray := prog_1_method_26_code
def yX4_hasBit : MethodName := ⟨RX4, "hasBit", "(II)Z"⟩
abbrev cX4_withBit : ByteArray := prog_1_method_27_code
def yX4_withBit : MethodName := ⟨RX4, "withBit", "(IIZ)I"⟩
abbrev cX4_mixed : ByteArray := prog_1_method_28_code
def yX4_mixed : MethodName := ⟨RX4, "mixed", "(JJ)J"⟩
def RX5 : String := "FaultShrinkerModel"
def TX5 : u_T := fun k => match k with
  | 0 => ("FaultShrinkerModel", "thrown", "I", false)
  | 1 => ("FaultShrinkerModel", "size", "I", false)
  | 2 => ("FaultShrinkerModel", "kind", "[I", true)
  | 3 => ("FaultShrinkerModel", "rules", "I", false)
  | 4 => ("FaultShrinkerModel", "needs", "[I", true)
  | 5 => ("FaultShrinkerModel", "spares", "[I", true)
  | 6 => ("FaultShrinkerModel", "tasted", "I", false)
  | 7 => ("FaultShrinkerModel", "known", "[I", true)
  | 8 => ("FaultShrinkerModel", "steps", "I", false)
  | 9 => ("FaultShrinkerModel", "step", "[I", true)
  | 10 => ("FaultShrinkerModel", "isKept", "Z", false)
  | 11 => ("FaultShrinkerModel", "keptDish", "I", false)
  | 12 => ("FaultShrinkerModel", "keptKinds", "I", false)
  | 13 => ("FaultShrinkerModel", "keptTasted", "I", false)
  | 14 => ("FaultShrinkerModel", "keptSteps", "I", false)
  | 15 => ("FaultShrinkerModel", "keptStep", "[I", true)
  | _ => ("FaultShrinkerModel", "all", "I", false)
def tyX5 : Nat → FieldType := fun k => match k with
  | 0 => .int
  | 1 => .int
  | 2 => .array .int
  | 3 => .int
  | 4 => .array .int
  | 5 => .array .int
  | 6 => .int
  | 7 => .array .int
  | 8 => .int
  | 9 => .array .int
  | 10 => .boolean
  | 11 => .int
  | 12 => .int
  | 13 => .int
  | 14 => .int
  | 15 => .array .int
  | _ => .int
abbrev wsX50 : List Cond := u_ws RX5 TX5 17
theorem nmX5 : ∀ a, a < 17 → ∀ b, b < 17 → a ≠ b → (TX5 a).2.1 ≠ (TX5 b).2.1 := by decide +kernel
theorem tyX5_ok : ∀ k, k < 17 → parseFieldDescriptor (TX5 k).2.2.1 = some (tyX5 k) := by decide +kernel
abbrev cX5_init : ByteArray := prog_7_method_1_code
def yX5_init : MethodName := ⟨RX5, "<init>", "()V"⟩
abbrev cX5_thrown : ByteArray := prog_7_method_2_code
def yX5_thrown : MethodName := ⟨RX5, "thrown", "()I"⟩
abbrev cX5_no : ByteArray := prog_7_method_3_code
def yX5_no : MethodName := ⟨RX5, "no", "(I)I"⟩
abbrev cX5_isIn : ByteArray := prog_7_method_4_code
def yX5_isIn : MethodName := ⟨RX5, "isIn", "(III)Z"⟩
abbrev cX5_isRule : ByteArray := prog_7_method_5_code
def yX5_isRule : MethodName := ⟨RX5, "isRule", "(I)Z"⟩
abbrev cX5_isPlace : ByteArray := prog_7_method_6_code
def yX5_isPlace : MethodName := ⟨RX5, "isPlace", "(I)Z"⟩
abbrev cX5_whole : ByteArray := prog_7_method_7_code
def yX5_whole : MethodName := ⟨RX5, "whole", "()I"⟩
abbrev cX5_kindsOf : ByteArray := prog_7_method_8_code
def yX5_kindsOf : MethodName := ⟨RX5, "kindsOf", "(I)I"⟩
abbrev cX5_holds : ByteArray := prog_7_method_9_code
def yX5_holds : MethodName := ⟨RX5, "holds", "(II)Z"⟩
abbrev cX5_isSpoilt : ByteArray := prog_7_method_10_code
def yX5_isSpoilt : MethodName := ⟨RX5, "isSpoilt", "(I)Z"⟩
abbrev cX5_taste : ByteArray := prog_7_method_11_code
def yX5_taste : MethodName := ⟨RX5, "taste", "(I)Z"⟩
abbrev cX5_note : ByteArray := prog_7_method_12_code
def yX5_note : MethodName := ⟨RX5, "note", "(IIIII)V"⟩
abbrev cX5_part : ByteArray := prog_7_method_13_code
def yX5_part : MethodName := ⟨RX5, "part", "(III)I"⟩
abbrev cX5_partOf : ByteArray := prog_7_method_14_code
def yX5_partOf : MethodName := ⟨RX5, "partOf", "(III)I"⟩
abbrev cX5_first : ByteArray := prog_7_method_15_code
def yX5_first : MethodName := ⟨RX5, "first", "(IIZ)I"⟩
abbrev cX5_halve : ByteArray := prog_7_method_16_code
def yX5_halve : MethodName := ⟨RX5, "halve", "()I"⟩
abbrev cX5_spareEach : ByteArray := prog_7_method_17_code
def yX5_spareEach : MethodName := ⟨RX5, "spareEach", "()I"⟩
abbrev cX5_add : ByteArray := prog_7_method_18_code
def yX5_add : MethodName := ⟨RX5, "add", "(I)I"⟩
abbrev cX5_takeOut : ByteArray := prog_7_method_19_code
def yX5_takeOut : MethodName := ⟨RX5, "takeOut", "(I)I"⟩
abbrev cX5_drop : ByteArray := prog_7_method_20_code
def yX5_drop : MethodName := ⟨RX5, "drop", "(I)I"⟩
abbrev cX5_kind : ByteArray := prog_7_method_21_code
def yX5_kind : MethodName := ⟨RX5, "kind", "(I)I"⟩
abbrev cX5_rule : ByteArray := prog_7_method_22_code
def yX5_rule : MethodName := ⟨RX5, "rule", "()I"⟩
abbrev cX5_set : ByteArray := prog_7_method_23_code
def yX5_set : MethodName := ⟨RX5, "set", "([I[IIIZ)Z"⟩
abbrev cX5_setNeeds : ByteArray := prog_7_method_24_code
def yX5_setNeeds : MethodName := ⟨RX5, "setNeeds", "(IIZ)Z"⟩
abbrev cX5_setSpares : ByteArray := prog_7_method_25_code
def yX5_setSpares : MethodName := ⟨RX5, "setSpares", "(IIZ)Z"⟩
abbrev cX5_ruleTold : ByteArray := prog_7_method_26_code
def yX5_ruleTold : MethodName := ⟨RX5, "ruleTold", "(II)I"⟩
abbrev cX5_told : ByteArray := prog_7_method_27_code
def yX5_told : MethodName := ⟨RX5, "told", "(II)I"⟩
abbrev cX5_spoils : ByteArray := prog_7_method_28_code
def yX5_spoils : MethodName := ⟨RX5, "spoils", "(I)Z"⟩
abbrev cX5_shrink : ByteArray := prog_7_method_29_code
def yX5_shrink : MethodName := ⟨RX5, "shrink", "()I"⟩
abbrev cX5_keptSize : ByteArray := prog_7_method_30_code
def yX5_keptSize : MethodName := ⟨RX5, "keptSize", "()I"⟩
abbrev cX5_keptPlace : ByteArray := prog_7_method_31_code
def yX5_keptPlace : MethodName := ⟨RX5, "keptPlace", "(I)I"⟩
abbrev cX5_kept : ByteArray := prog_7_method_32_code
def yX5_kept : MethodName := ⟨RX5, "kept", "(I)I"⟩
abbrev cX5_step : ByteArray := prog_7_method_33_code
def yX5_step : MethodName := ⟨RX5, "step", "(II)I"⟩
abbrev cX5_hold : ByteArray := prog_7_method_34_code
def yX5_hold : MethodName := ⟨RX5, "hold", "()I"⟩
abbrev cX5_counted : ByteArray := prog_7_method_35_code
def yX5_counted : MethodName := ⟨RX5, "counted", "(I)I"⟩
abbrev cX5_count : ByteArray := prog_7_method_36_code
def yX5_count : MethodName := ⟨RX5, "count", "(I)I"⟩
abbrev cX5_wouldBe : ByteArray := prog_7_method_37_code
def yX5_wouldBe : MethodName := ⟨RX5, "wouldBe", "(I)I"⟩
abbrev cX5_would : ByteArray := prog_7_method_38_code
def yX5_would : MethodName := ⟨RX5, "would", "(I)I"⟩
abbrev cX5_leastDish : ByteArray := prog_7_method_39_code
def yX5_leastDish : MethodName := ⟨RX5, "leastDish", "()I"⟩
abbrev cX5_least : ByteArray := prog_7_method_40_code
def yX5_least : MethodName := ⟨RX5, "least", "()I"⟩
abbrev cX5_isTightDish : ByteArray := prog_7_method_41_code
def yX5_isTightDish : MethodName := ⟨RX5, "isTightDish", "(I)Z"⟩
abbrev cX5_isTight : ByteArray := prog_7_method_42_code
def yX5_isTight : MethodName := ⟨RX5, "isTight", "(I)Z"⟩
abbrev cX5_without : ByteArray := prog_7_method_43_code
def yX5_without : MethodName := ⟨RX5, "without", "(I)I"⟩
abbrev cX5_advise : ByteArray := prog_7_method_44_code
def yX5_advise : MethodName := ⟨RX5, "advise", "()I"⟩
abbrev cX5_mean : ByteArray := prog_7_method_45_code
def yX5_mean : MethodName := ⟨RX5, "mean", "()D"⟩
abbrev cX5_digest : ByteArray := prog_7_method_46_code
def yX5_digest : MethodName := ⟨RX5, "digest", "()J"⟩
def RJ6 : String := "java/lang/Integer"
def TJ6 : u_T := fun k => match k with
  | _ => ("", "", "", false)
def tyJ6 : Nat → FieldType := fun k => match k with
  | _ => .int
abbrev wsJ60 : List Cond := u_ws RJ6 TJ6 0
theorem nmJ6 : ∀ a, a < 0 → ∀ b, b < 0 → a ≠ b → (TJ6 a).2.1 ≠ (TJ6 b).2.1 := by decide +kernel
theorem tyJ6_ok : ∀ k, k < 0 → parseFieldDescriptor (TJ6 k).2.2.1 = some (tyJ6 k) := by decide +kernel
abbrev cJ6_numberOfTrailingZeros_0f7a4 : ByteArray := prog_12_method_48_code
def yJ6_numberOfTrailingZeros_0f7a4 : MethodName := ⟨RJ6, "numberOfTrailingZeros", "(I)I"⟩
abbrev cJ6_bitCount_0f7a4 : ByteArray := prog_12_method_49_code
def yJ6_bitCount_0f7a4 : MethodName := ⟨RJ6, "bitCount", "(I)I"⟩
def RJ9 : String := "java/lang/Math"
def TJ9 : u_T := fun k => match k with
  | _ => ("", "", "", false)
def tyJ9 : Nat → FieldType := fun k => match k with
  | _ => .int
abbrev wsJ90 : List Cond := u_ws RJ9 TJ9 0
theorem nmJ9 : ∀ a, a < 0 → ∀ b, b < 0 → a ≠ b → (TJ9 a).2.1 ≠ (TJ9 b).2.1 := by decide +kernel
theorem tyJ9_ok : ∀ k, k < 0 → parseFieldDescriptor (TJ9 k).2.2.1 = some (tyJ9 k) := by decide +kernel
abbrev cJ9_max_7cf53 : ByteArray := prog_13_method_65_code
def yJ9_max_7cf53 : MethodName := ⟨RJ9, "max", "(II)I"⟩
abbrev cJ9_min_7cf53 : ByteArray := prog_13_method_69_code
def yJ9_min_7cf53 : MethodName := ⟨RJ9, "min", "(II)I"⟩
def RJ0 : String := "java/lang/String"
def TJ0 : u_T := fun k => match k with
  | _ => ("", "", "", false)
def tyJ0 : Nat → FieldType := fun k => match k with
  | _ => .int
abbrev wsJ00 : List Cond := u_ws RJ0 TJ0 0
theorem nmJ0 : ∀ a, a < 0 → ∀ b, b < 0 → a ≠ b → (TJ0 a).2.1 ≠ (TJ0 b).2.1 := by decide +kernel
theorem tyJ0_ok : ∀ k, k < 0 → parseFieldDescriptor (TJ0 k).2.2.1 = some (tyJ0 k) := by decide +kernel
def RJ10 : String := "java/lang/System"
def TJ10 : u_T := fun k => match k with
  | _ => ("", "", "", false)
def tyJ10 : Nat → FieldType := fun k => match k with
  | _ => .int
abbrev wsJ100 : List Cond := u_ws RJ10 TJ10 0
theorem nmJ10 : ∀ a, a < 0 → ∀ b, b < 0 → a ≠ b → (TJ10 a).2.1 ≠ (TJ10 b).2.1 := by decide +kernel
theorem tyJ10_ok : ∀ k, k < 0 → parseFieldDescriptor (TJ10 k).2.2.1 = some (tyJ10 k) := by decide +kernel
def RL : String := "FaultShrinkerLaw"
abbrev cL_add : ByteArray := method_3_code
def yL_add : MethodName := ⟨RL, "add", "(LFaultShrinker;I[J)I"⟩
abbrev cL_drop : ByteArray := method_4_code
def yL_drop : MethodName := ⟨RL, "drop", "(LFaultShrinker;I[J)I"⟩
abbrev cL_kind : ByteArray := method_5_code
def yL_kind : MethodName := ⟨RL, "kind", "(LFaultShrinker;I[J)I"⟩
abbrev cL_rule : ByteArray := method_6_code
def yL_rule : MethodName := ⟨RL, "rule", "(LFaultShrinker;[J)I"⟩
abbrev cL_setNeeds : ByteArray := method_7_code
def yL_setNeeds : MethodName := ⟨RL, "setNeeds", "(LFaultShrinker;IIZ[J)I"⟩
abbrev cL_setSpares : ByteArray := method_8_code
def yL_setSpares : MethodName := ⟨RL, "setSpares", "(LFaultShrinker;IIZ[J)I"⟩
abbrev cL_told : ByteArray := method_9_code
def yL_told : MethodName := ⟨RL, "told", "(LFaultShrinker;II[J)I"⟩
abbrev cL_spoils : ByteArray := method_10_code
def yL_spoils : MethodName := ⟨RL, "spoils", "(LFaultShrinker;I[J)I"⟩
abbrev cL_kept : ByteArray := method_11_code
def yL_kept : MethodName := ⟨RL, "kept", "(LFaultShrinker;I[J)I"⟩
abbrev cL_step : ByteArray := method_12_code
def yL_step : MethodName := ⟨RL, "step", "(LFaultShrinker;II[J)I"⟩
abbrev cL_count : ByteArray := method_13_code
def yL_count : MethodName := ⟨RL, "count", "(LFaultShrinker;I[J)I"⟩
abbrev cL_would : ByteArray := method_14_code
def yL_would : MethodName := ⟨RL, "would", "(LFaultShrinker;I[J)I"⟩
abbrev cL_isTight : ByteArray := method_15_code
def yL_isTight : MethodName := ⟨RL, "isTight", "(LFaultShrinker;I[J)I"⟩
abbrev cL_law : ByteArray := code
def yL_law : MethodName := ⟨RL, "law", "([I)Z"⟩
def wsX0_init : List Cond := .code yX0_init cX0_init 1 none :: ([.methodLink RX0 3 objectInit, .instanceMethod objectInit, .code objectInit ⟨#[0xb1]⟩ 1 none, .arrayClass .int, .fieldLink RX0 9 "FaultShrinker$Recipe" "kinds" "[I"] ++ wsX00)
def wsX0_size : List Cond := .code yX0_size cX0_size 1 (some .int) :: ([.fieldLink RX0 15 "FaultShrinker$Recipe" "size" "I"] ++ wsX00)
def wsX0_isFull : List Cond := .code yX0_isFull cX0_isFull 1 (some .boolean) :: ([.fieldLink RX0 15 "FaultShrinker$Recipe" "size" "I", .fieldLink RX0 9 "FaultShrinker$Recipe" "kinds" "[I"] ++ wsX00)
def wsX0_hasPlace : List Cond := .code yX0_hasPlace cX0_hasPlace 2 (some .boolean) :: ([.fieldLink RX0 15 "FaultShrinker$Recipe" "size" "I"] ++ wsX00)
def wsX0_hasDish : List Cond := .code yX0_hasDish cX0_hasDish 2 (some .boolean) :: ([.fieldLink RX0 15 "FaultShrinker$Recipe" "size" "I"] ++ wsX00)
def wsX0_wholeDish : List Cond := .code yX0_wholeDish cX0_wholeDish 1 (some .int) :: ([.fieldLink RX0 15 "FaultShrinker$Recipe" "size" "I"] ++ wsX00)
def wsX0_kindAt : List Cond := .code yX0_kindAt cX0_kindAt 2 (some .int) :: ([.fieldLink RX0 9 "FaultShrinker$Recipe" "kinds" "[I", .methodLink RX0 19 yX0_hasPlace, .instanceMethod yX0_hasPlace, .selects RX0 yX0_hasPlace yX0_hasPlace, .initialized RX0, .code yX0_hasPlace cX0_hasPlace 2 (some .boolean), .fieldLink RX0 15 "FaultShrinker$Recipe" "size" "I"] ++ wsX00)
def wsX0_append : List Cond := .code yX0_append cX0_append 2 none :: ([.fieldLink RX0 9 "FaultShrinker$Recipe" "kinds" "[I", .fieldLink RX0 15 "FaultShrinker$Recipe" "size" "I", .methodLink RX0 23 yX0_isFull, .instanceMethod yX0_isFull, .selects RX0 yX0_isFull yX0_isFull, .initialized RX0, .code yX0_isFull cX0_isFull 1 (some .boolean)] ++ wsX00)
def wsX0_takeOut : List Cond := .code yX0_takeOut cX0_takeOut 3 none :: ([.fieldLink RX0 15 "FaultShrinker$Recipe" "size" "I", .fieldLink RX0 9 "FaultShrinker$Recipe" "kinds" "[I", .methodLink RX0 19 yX0_hasPlace, .instanceMethod yX0_hasPlace, .selects RX0 yX0_hasPlace yX0_hasPlace, .initialized RX0, .code yX0_hasPlace cX0_hasPlace 2 (some .boolean)] ++ wsX00)
def wsX0_kindsOf : List Cond := .code yX0_kindsOf cX0_kindsOf 4 (some .int) :: ([.fieldLink RX0 15 "FaultShrinker$Recipe" "size" "I", .fieldLink RX0 9 "FaultShrinker$Recipe" "kinds" "[I"] ++ wsX00)
def wsX1_init : List Cond := .code yX1_init cX1_init 1 none :: ([.methodLink RX1 3 objectInit, .instanceMethod objectInit, .code objectInit ⟨#[0xb1]⟩ 1 none, .arrayClass .int, .fieldLink RX1 9 "FaultShrinker$RuleBook" "needed" "[I", .fieldLink RX1 15 "FaultShrinker$RuleBook" "spared" "[I"] ++ wsX10)
def wsX1_size : List Cond := .code yX1_size cX1_size 1 (some .int) :: ([.fieldLink RX1 18 "FaultShrinker$RuleBook" "size" "I"] ++ wsX10)
def wsX1_isFull : List Cond := .code yX1_isFull cX1_isFull 1 (some .boolean) :: ([.fieldLink RX1 18 "FaultShrinker$RuleBook" "size" "I"] ++ wsX10)
def wsX1_hasRule : List Cond := .code yX1_hasRule cX1_hasRule 2 (some .boolean) :: ([.fieldLink RX1 18 "FaultShrinker$RuleBook" "size" "I"] ++ wsX10)
def wsX1_append : List Cond := .code yX1_append cX1_append 1 none :: ([.fieldLink RX1 18 "FaultShrinker$RuleBook" "size" "I", .methodLink RX1 22 yX1_isFull, .instanceMethod yX1_isFull, .selects RX1 yX1_isFull yX1_isFull, .initialized RX1, .code yX1_isFull cX1_isFull 1 (some .boolean)] ++ wsX10)
def wsX1_neededBy : List Cond := .code yX1_neededBy cX1_neededBy 2 (some .int) :: ([.fieldLink RX1 9 "FaultShrinker$RuleBook" "needed" "[I", .methodLink RX1 26 yX1_hasRule, .instanceMethod yX1_hasRule, .selects RX1 yX1_hasRule yX1_hasRule, .initialized RX1, .code yX1_hasRule cX1_hasRule 2 (some .boolean), .fieldLink RX1 18 "FaultShrinker$RuleBook" "size" "I"] ++ wsX10)
def wsX1_sparedBy : List Cond := .code yX1_sparedBy cX1_sparedBy 2 (some .int) :: ([.fieldLink RX1 15 "FaultShrinker$RuleBook" "spared" "[I", .methodLink RX1 26 yX1_hasRule, .instanceMethod yX1_hasRule, .selects RX1 yX1_hasRule yX1_hasRule, .initialized RX1, .code yX1_hasRule cX1_hasRule 2 (some .boolean), .fieldLink RX1 18 "FaultShrinker$RuleBook" "size" "I"] ++ wsX10)
def wsX1_putNeeded : List Cond := .code yX1_putNeeded cX1_putNeeded 3 none :: ([.fieldLink RX1 9 "FaultShrinker$RuleBook" "needed" "[I", .methodLink RX1 26 yX1_hasRule, .instanceMethod yX1_hasRule, .selects RX1 yX1_hasRule yX1_hasRule, .initialized RX1, .code yX1_hasRule cX1_hasRule 2 (some .boolean), .fieldLink RX1 18 "FaultShrinker$RuleBook" "size" "I"] ++ wsX10)
def wsX1_putSpared : List Cond := .code yX1_putSpared cX1_putSpared 3 none :: ([.fieldLink RX1 15 "FaultShrinker$RuleBook" "spared" "[I", .methodLink RX1 26 yX1_hasRule, .instanceMethod yX1_hasRule, .selects RX1 yX1_hasRule yX1_hasRule, .initialized RX1, .code yX1_hasRule cX1_hasRule 2 (some .boolean), .fieldLink RX1 18 "FaultShrinker$RuleBook" "size" "I"] ++ wsX10)
def wsX1_holds : List Cond := .code yX1_holds cX1_holds 3 (some .boolean) :: ([.fieldLink RX1 18 "FaultShrinker$RuleBook" "size" "I", .fieldLink RX1 9 "FaultShrinker$RuleBook" "needed" "[I", .fieldLink RX1 15 "FaultShrinker$RuleBook" "spared" "[I"] ++ wsX10)
def wsX1_holding : List Cond := .code yX1_holding cX1_holding 4 (some .int) :: ([.fieldLink RX1 18 "FaultShrinker$RuleBook" "size" "I", .methodLink RX1 30 yX1_holds, .instanceMethod yX1_holds, .selects RX1 yX1_holds yX1_holds, .initialized RX1, .code yX1_holds cX1_holds 3 (some .boolean), .fieldLink RX1 9 "FaultShrinker$RuleBook" "needed" "[I", .fieldLink RX1 15 "FaultShrinker$RuleBook" "spared" "[I"] ++ wsX10)
def wsJ6_bitCount_0f7a4 : List Cond := .code yJ6_bitCount_0f7a4 cJ6_bitCount_0f7a4 1 (some .int) :: ([.constant RJ6 265 (1431655765), .constant RJ6 266 (858993459), .constant RJ6 267 (252645135)])
def wsX1_leastNeeded : List Cond := .code yX1_leastNeeded cX1_leastNeeded 6 (some .int) :: ([.fieldLink RX1 18 "FaultShrinker$RuleBook" "size" "I", .fieldLink RX1 9 "FaultShrinker$RuleBook" "needed" "[I", .methodLink RX1 34 yJ6_bitCount_0f7a4, .static yJ6_bitCount_0f7a4, .initialized RJ6, .code yJ6_bitCount_0f7a4 cJ6_bitCount_0f7a4 1 (some .int), .constant RJ6 265 (1431655765), .constant RJ6 266 (858993459), .constant RJ6 267 (252645135)] ++ wsX10)
def wsX2_init : List Cond := .code yX2_init cX2_init 1 none :: ([.methodLink RX2 3 objectInit, .instanceMethod objectInit, .code objectInit ⟨#[0xb1]⟩ 1 none, .arrayClass .int, .fieldLink RX2 11 "FaultShrinker$Search" "facts" "[I", .fieldLink RX2 15 "FaultShrinker$Search" "firstPlaces" "[I"] ++ wsX20)
def wsX2_list : List Cond := .code yX2_list cX2_list 1 (some .int) :: ([.fieldLink RX2 18 "FaultShrinker$Search" "dish" "I"] ++ wsX20)
def wsX2_listSize : List Cond := .code yX2_listSize cX2_listSize 1 (some .int) :: ([.fieldLink RX2 18 "FaultShrinker$Search" "dish" "I", .methodLink RX2 22 yJ6_bitCount_0f7a4, .static yJ6_bitCount_0f7a4, .initialized RJ6, .code yJ6_bitCount_0f7a4 cJ6_bitCount_0f7a4 1 (some .int), .constant RJ6 265 (1431655765), .constant RJ6 266 (858993459), .constant RJ6 267 (252645135)] ++ wsX20)
def wsX2_steps : List Cond := .code yX2_steps cX2_steps 1 (some .int) :: ([.fieldLink RX2 28 "FaultShrinker$Search" "steps" "I"] ++ wsX20)
def wsX2_tastings : List Cond := .code yX2_tastings cX2_tastings 1 (some .int) :: ([.fieldLink RX2 31 "FaultShrinker$Search" "tastings" "I"] ++ wsX20)
def wsX2_listPlace : List Cond := .code yX2_listPlace cX2_listPlace 5 (some .int) :: ([.fieldLink RX2 18 "FaultShrinker$Search" "dish" "I"] ++ wsX20)
def wsX2_stepFact : List Cond := .code yX2_stepFact cX2_stepFact 4 (some .int) :: ([.fieldLink RX2 28 "FaultShrinker$Search" "steps" "I", .fieldLink RX2 11 "FaultShrinker$Search" "facts" "[I"] ++ wsX20)
def wsX3_begin : List Cond := .code yX3_begin cX3_begin 1 none :: ([.fieldLink RX3 23 "FaultShrinker$Taster" "search" "J", .fieldLink RX3 27 "FaultShrinker$Taster" "tastings" "I"] ++ wsX30)
def wsX3_learn : List Cond := .code yX3_learn cX3_learn 7 (some .boolean) :: ([.fieldLink RX3 23 "FaultShrinker$Taster" "search" "J", .constant RX3 46 (-1640531535), .fieldLink RX3 11 "FaultShrinker$Taster" "known" "[J"] ++ wsX30)
def wsX3_looksSpoiled_r1 : List Cond := [Cond.fieldLink RX3 27 "FaultShrinker$Taster" "tastings" "I", Cond.fieldLink RX3 19 "FaultShrinker$Taster" "rules" "LFaultShrinker$RuleBook;", Cond.fieldLink RX3 15 "FaultShrinker$Taster" "recipe" "LFaultShrinker$Recipe;", Cond.methodLink RX3 31 yX3_learn, Cond.instanceMethod yX3_learn, Cond.selects RX3 yX3_learn yX3_learn, Cond.initialized RX3, Cond.code yX3_learn cX3_learn 7 (some .boolean), Cond.fieldLink RX3 23 "FaultShrinker$Taster" "search" "J", Cond.constant RX3 46 (-1640531535), Cond.fieldLink RX3 11 "FaultShrinker$Taster" "known" "[J", Cond.methodLink RX3 35 yX0_kindsOf, Cond.instanceMethod yX0_kindsOf, Cond.selects RX0 yX0_kindsOf yX0_kindsOf, Cond.initialized RX0, Cond.code yX0_kindsOf cX0_kindsOf 4 (some .int), Cond.fieldLink RX0 15 "FaultShrinker$Recipe" "size" "I", Cond.fieldLink RX0 9 "FaultShrinker$Recipe" "kinds" "[I", Cond.methodLink RX3 41 yX1_holding, Cond.instanceMethod yX1_holding, Cond.selects RX1 yX1_holding yX1_holding, Cond.initialized RX1, Cond.code yX1_holding cX1_holding 4 (some .int), Cond.fieldLink RX1 18 "FaultShrinker$RuleBook" "size" "I"]
def wsX3_looksSpoiled_r2 : List Cond := [Cond.methodLink RX1 30 yX1_holds, Cond.instanceMethod yX1_holds, Cond.selects RX1 yX1_holds yX1_holds, Cond.code yX1_holds cX1_holds 3 (some .boolean), Cond.fieldLink RX1 9 "FaultShrinker$RuleBook" "needed" "[I", Cond.fieldLink RX1 15 "FaultShrinker$RuleBook" "spared" "[I"]
def wsX3_looksSpoiled : List Cond := .code yX3_looksSpoiled cX3_looksSpoiled 2 (some .boolean) :: ((wsX3_looksSpoiled_r1 ++ wsX3_looksSpoiled_r2) ++ wsX30 ++ wsX00 ++ wsX10)
def wsX2_begin_r1 : List Cond := [Cond.fieldLink RX2 18 "FaultShrinker$Search" "dish" "I", Cond.fieldLink RX2 53 "FaultShrinker$Search" "parts" "I", Cond.fieldLink RX2 28 "FaultShrinker$Search" "steps" "I", Cond.methodLink RX2 51 yX3_begin, Cond.instanceMethod yX3_begin, Cond.selects RX3 yX3_begin yX3_begin, Cond.initialized RX3, Cond.code yX3_begin cX3_begin 1 none, Cond.fieldLink RX3 23 "FaultShrinker$Taster" "search" "J", Cond.fieldLink RX3 27 "FaultShrinker$Taster" "tastings" "I", Cond.methodLink RX2 47 yX3_looksSpoiled, Cond.instanceMethod yX3_looksSpoiled, Cond.selects RX3 yX3_looksSpoiled yX3_looksSpoiled, Cond.code yX3_looksSpoiled cX3_looksSpoiled 2 (some .boolean), Cond.fieldLink RX3 19 "FaultShrinker$Taster" "rules" "LFaultShrinker$RuleBook;", Cond.fieldLink RX3 15 "FaultShrinker$Taster" "recipe" "LFaultShrinker$Recipe;", Cond.methodLink RX3 31 yX3_learn, Cond.instanceMethod yX3_learn, Cond.selects RX3 yX3_learn yX3_learn, Cond.code yX3_learn cX3_learn 7 (some .boolean), Cond.constant RX3 46 (-1640531535), Cond.fieldLink RX3 11 "FaultShrinker$Taster" "known" "[J", Cond.methodLink RX3 35 yX0_kindsOf, Cond.instanceMethod yX0_kindsOf]
def wsX2_begin_r2 : List Cond := [Cond.selects RX0 yX0_kindsOf yX0_kindsOf, Cond.initialized RX0, Cond.code yX0_kindsOf cX0_kindsOf 4 (some .int), Cond.fieldLink RX0 15 "FaultShrinker$Recipe" "size" "I", Cond.fieldLink RX0 9 "FaultShrinker$Recipe" "kinds" "[I", Cond.methodLink RX3 41 yX1_holding, Cond.instanceMethod yX1_holding, Cond.selects RX1 yX1_holding yX1_holding, Cond.initialized RX1, Cond.code yX1_holding cX1_holding 4 (some .int), Cond.fieldLink RX1 18 "FaultShrinker$RuleBook" "size" "I", Cond.methodLink RX1 30 yX1_holds, Cond.instanceMethod yX1_holds, Cond.selects RX1 yX1_holds yX1_holds, Cond.code yX1_holds cX1_holds 3 (some .boolean), Cond.fieldLink RX1 9 "FaultShrinker$RuleBook" "needed" "[I", Cond.fieldLink RX1 15 "FaultShrinker$RuleBook" "spared" "[I"]
def wsX2_begin : List Cond := .code yX2_begin cX2_begin 4 (some .boolean) :: ((wsX2_begin_r1 ++ wsX2_begin_r2) ++ wsX20 ++ wsX30 ++ wsX00 ++ wsX10)
def wsX2_countPlaces : List Cond := .code yX2_countPlaces cX2_countPlaces 4 none :: ([.fieldLink RX2 18 "FaultShrinker$Search" "dish" "I", .fieldLink RX2 15 "FaultShrinker$Search" "firstPlaces" "[I"] ++ wsX20)
def wsX2_partAt : List Cond := .code yX2_partAt cX2_partAt 5 (some .int) :: ([.fieldLink RX2 53 "FaultShrinker$Search" "parts" "I", .fieldLink RX2 15 "FaultShrinker$Search" "firstPlaces" "[I"] ++ wsX20)
def wsX2_firstSpoiledPart_r1 : List Cond := [Cond.fieldLink RX2 53 "FaultShrinker$Search" "parts" "I", Cond.methodLink RX2 63 yX2_partAt, Cond.instanceMethod yX2_partAt, Cond.selects RX2 yX2_partAt yX2_partAt, Cond.initialized RX2, Cond.code yX2_partAt cX2_partAt 5 (some .int), Cond.fieldLink RX2 15 "FaultShrinker$Search" "firstPlaces" "[I", Cond.methodLink RX2 47 yX3_looksSpoiled, Cond.instanceMethod yX3_looksSpoiled, Cond.selects RX3 yX3_looksSpoiled yX3_looksSpoiled, Cond.initialized RX3, Cond.code yX3_looksSpoiled cX3_looksSpoiled 2 (some .boolean), Cond.fieldLink RX3 27 "FaultShrinker$Taster" "tastings" "I", Cond.fieldLink RX3 19 "FaultShrinker$Taster" "rules" "LFaultShrinker$RuleBook;", Cond.fieldLink RX3 15 "FaultShrinker$Taster" "recipe" "LFaultShrinker$Recipe;", Cond.methodLink RX3 31 yX3_learn, Cond.instanceMethod yX3_learn, Cond.selects RX3 yX3_learn yX3_learn, Cond.code yX3_learn cX3_learn 7 (some .boolean), Cond.fieldLink RX3 23 "FaultShrinker$Taster" "search" "J", Cond.constant RX3 46 (-1640531535), Cond.fieldLink RX3 11 "FaultShrinker$Taster" "known" "[J", Cond.methodLink RX3 35 yX0_kindsOf, Cond.instanceMethod yX0_kindsOf]
def wsX2_firstSpoiledPart_r2 : List Cond := [Cond.selects RX0 yX0_kindsOf yX0_kindsOf, Cond.initialized RX0, Cond.code yX0_kindsOf cX0_kindsOf 4 (some .int), Cond.fieldLink RX0 15 "FaultShrinker$Recipe" "size" "I", Cond.fieldLink RX0 9 "FaultShrinker$Recipe" "kinds" "[I", Cond.methodLink RX3 41 yX1_holding, Cond.instanceMethod yX1_holding, Cond.selects RX1 yX1_holding yX1_holding, Cond.initialized RX1, Cond.code yX1_holding cX1_holding 4 (some .int), Cond.fieldLink RX1 18 "FaultShrinker$RuleBook" "size" "I", Cond.methodLink RX1 30 yX1_holds, Cond.instanceMethod yX1_holds, Cond.selects RX1 yX1_holds yX1_holds, Cond.code yX1_holds cX1_holds 3 (some .boolean), Cond.fieldLink RX1 9 "FaultShrinker$RuleBook" "needed" "[I", Cond.fieldLink RX1 15 "FaultShrinker$RuleBook" "spared" "[I"]
def wsX2_firstSpoiledPart : List Cond := .code yX2_firstSpoiledPart cX2_firstSpoiledPart 4 (some .int) :: ((wsX2_firstSpoiledPart_r1 ++ wsX2_firstSpoiledPart_r2) ++ wsX20 ++ wsX30 ++ wsX00 ++ wsX10)
def wsX2_note : List Cond := .code yX2_note cX2_note 6 none :: ([.fieldLink RX2 28 "FaultShrinker$Search" "steps" "I", .fieldLink RX2 11 "FaultShrinker$Search" "facts" "[I", .fieldLink RX2 53 "FaultShrinker$Search" "parts" "I", .fieldLink RX2 18 "FaultShrinker$Search" "dish" "I"] ++ wsX20)
def wsX2_firstSparedPart_r1 : List Cond := [Cond.fieldLink RX2 53 "FaultShrinker$Search" "parts" "I", Cond.fieldLink RX2 18 "FaultShrinker$Search" "dish" "I", Cond.methodLink RX2 63 yX2_partAt, Cond.instanceMethod yX2_partAt, Cond.selects RX2 yX2_partAt yX2_partAt, Cond.initialized RX2, Cond.code yX2_partAt cX2_partAt 5 (some .int), Cond.fieldLink RX2 15 "FaultShrinker$Search" "firstPlaces" "[I", Cond.methodLink RX2 47 yX3_looksSpoiled, Cond.instanceMethod yX3_looksSpoiled, Cond.selects RX3 yX3_looksSpoiled yX3_looksSpoiled, Cond.initialized RX3, Cond.code yX3_looksSpoiled cX3_looksSpoiled 2 (some .boolean), Cond.fieldLink RX3 27 "FaultShrinker$Taster" "tastings" "I", Cond.fieldLink RX3 19 "FaultShrinker$Taster" "rules" "LFaultShrinker$RuleBook;", Cond.fieldLink RX3 15 "FaultShrinker$Taster" "recipe" "LFaultShrinker$Recipe;", Cond.methodLink RX3 31 yX3_learn, Cond.instanceMethod yX3_learn, Cond.selects RX3 yX3_learn yX3_learn, Cond.code yX3_learn cX3_learn 7 (some .boolean), Cond.fieldLink RX3 23 "FaultShrinker$Taster" "search" "J", Cond.constant RX3 46 (-1640531535), Cond.fieldLink RX3 11 "FaultShrinker$Taster" "known" "[J", Cond.methodLink RX3 35 yX0_kindsOf]
def wsX2_firstSparedPart_r2 : List Cond := [Cond.instanceMethod yX0_kindsOf, Cond.selects RX0 yX0_kindsOf yX0_kindsOf, Cond.initialized RX0, Cond.code yX0_kindsOf cX0_kindsOf 4 (some .int), Cond.fieldLink RX0 15 "FaultShrinker$Recipe" "size" "I", Cond.fieldLink RX0 9 "FaultShrinker$Recipe" "kinds" "[I", Cond.methodLink RX3 41 yX1_holding, Cond.instanceMethod yX1_holding, Cond.selects RX1 yX1_holding yX1_holding, Cond.initialized RX1, Cond.code yX1_holding cX1_holding 4 (some .int), Cond.fieldLink RX1 18 "FaultShrinker$RuleBook" "size" "I", Cond.methodLink RX1 30 yX1_holds, Cond.instanceMethod yX1_holds, Cond.selects RX1 yX1_holds yX1_holds, Cond.code yX1_holds cX1_holds 3 (some .boolean), Cond.fieldLink RX1 9 "FaultShrinker$RuleBook" "needed" "[I", Cond.fieldLink RX1 15 "FaultShrinker$RuleBook" "spared" "[I"]
def wsX2_firstSparedPart : List Cond := .code yX2_firstSparedPart cX2_firstSparedPart 4 (some .int) :: ((wsX2_firstSparedPart_r1 ++ wsX2_firstSparedPart_r2) ++ wsX20 ++ wsX30 ++ wsX00 ++ wsX10)
def wsX2_makeStep_r1 : List Cond := [Cond.fieldLink RX2 18 "FaultShrinker$Search" "dish" "I", Cond.fieldLink RX2 53 "FaultShrinker$Search" "parts" "I", Cond.methodLink RX2 74 Lib.Math.max.name, Cond.static Lib.Math.max.name, Cond.initialized "java/lang/Math", Cond.code Lib.Math.max.name Lib.Math.max.code 2 (some .int), Cond.methodLink RX2 79 Lib.Math.min.name, Cond.static Lib.Math.min.name, Cond.code Lib.Math.min.name Lib.Math.min.code 2 (some .int), Cond.methodLink RX2 22 yJ6_bitCount_0f7a4, Cond.static yJ6_bitCount_0f7a4, Cond.initialized RJ6, Cond.code yJ6_bitCount_0f7a4 cJ6_bitCount_0f7a4 1 (some .int), Cond.constant RJ6 265 (1431655765), Cond.constant RJ6 266 (858993459), Cond.constant RJ6 267 (252645135), Cond.methodLink RX2 56 yX2_countPlaces, Cond.instanceMethod yX2_countPlaces, Cond.selects RX2 yX2_countPlaces yX2_countPlaces, Cond.initialized RX2, Cond.code yX2_countPlaces cX2_countPlaces 4 none, Cond.fieldLink RX2 15 "FaultShrinker$Search" "firstPlaces" "[I", Cond.methodLink RX2 59 yX2_firstSpoiledPart, Cond.instanceMethod yX2_firstSpoiledPart]
def wsX2_makeStep_r2 : List Cond := [Cond.selects RX2 yX2_firstSpoiledPart yX2_firstSpoiledPart, Cond.code yX2_firstSpoiledPart cX2_firstSpoiledPart 4 (some .int), Cond.methodLink RX2 63 yX2_partAt, Cond.instanceMethod yX2_partAt, Cond.selects RX2 yX2_partAt yX2_partAt, Cond.code yX2_partAt cX2_partAt 5 (some .int), Cond.methodLink RX2 47 yX3_looksSpoiled, Cond.instanceMethod yX3_looksSpoiled, Cond.selects RX3 yX3_looksSpoiled yX3_looksSpoiled, Cond.initialized RX3, Cond.code yX3_looksSpoiled cX3_looksSpoiled 2 (some .boolean), Cond.fieldLink RX3 27 "FaultShrinker$Taster" "tastings" "I", Cond.fieldLink RX3 19 "FaultShrinker$Taster" "rules" "LFaultShrinker$RuleBook;", Cond.fieldLink RX3 15 "FaultShrinker$Taster" "recipe" "LFaultShrinker$Recipe;", Cond.methodLink RX3 31 yX3_learn, Cond.instanceMethod yX3_learn, Cond.selects RX3 yX3_learn yX3_learn, Cond.code yX3_learn cX3_learn 7 (some .boolean), Cond.fieldLink RX3 23 "FaultShrinker$Taster" "search" "J", Cond.constant RX3 46 (-1640531535), Cond.fieldLink RX3 11 "FaultShrinker$Taster" "known" "[J", Cond.methodLink RX3 35 yX0_kindsOf, Cond.instanceMethod yX0_kindsOf, Cond.selects RX0 yX0_kindsOf yX0_kindsOf]
def wsX2_makeStep_r3 : List Cond := [Cond.initialized RX0, Cond.code yX0_kindsOf cX0_kindsOf 4 (some .int), Cond.fieldLink RX0 15 "FaultShrinker$Recipe" "size" "I", Cond.fieldLink RX0 9 "FaultShrinker$Recipe" "kinds" "[I", Cond.methodLink RX3 41 yX1_holding, Cond.instanceMethod yX1_holding, Cond.selects RX1 yX1_holding yX1_holding, Cond.initialized RX1, Cond.code yX1_holding cX1_holding 4 (some .int), Cond.fieldLink RX1 18 "FaultShrinker$RuleBook" "size" "I", Cond.methodLink RX1 30 yX1_holds, Cond.instanceMethod yX1_holds, Cond.selects RX1 yX1_holds yX1_holds, Cond.code yX1_holds cX1_holds 3 (some .boolean), Cond.fieldLink RX1 9 "FaultShrinker$RuleBook" "needed" "[I", Cond.fieldLink RX1 15 "FaultShrinker$RuleBook" "spared" "[I", Cond.methodLink RX2 67 yX2_note, Cond.instanceMethod yX2_note, Cond.selects RX2 yX2_note yX2_note, Cond.code yX2_note cX2_note 6 none, Cond.fieldLink RX2 28 "FaultShrinker$Search" "steps" "I", Cond.fieldLink RX2 11 "FaultShrinker$Search" "facts" "[I", Cond.methodLink RX2 71 yX2_firstSparedPart, Cond.instanceMethod yX2_firstSparedPart]
def wsX2_makeStep_r4 : List Cond := [Cond.selects RX2 yX2_firstSparedPart yX2_firstSparedPart, Cond.code yX2_firstSparedPart cX2_firstSparedPart 4 (some .int)]
def wsX2_makeStep : List Cond := .code yX2_makeStep cX2_makeStep 5 (some .boolean) :: ((wsX2_makeStep_r1 ++ (wsX2_makeStep_r2 ++ (wsX2_makeStep_r3 ++ wsX2_makeStep_r4))) ++ wsX20 ++ wsX30 ++ wsX00 ++ wsX10)
def wsX3_tastings : List Cond := .code yX3_tastings cX3_tastings 1 (some .int) :: ([.fieldLink RX3 27 "FaultShrinker$Taster" "tastings" "I"] ++ wsX30)
def wsX2_goByHalves_r1 : List Cond := [Cond.fieldLink RX2 31 "FaultShrinker$Search" "tastings" "I", Cond.methodLink RX2 34 yX2_begin, Cond.instanceMethod yX2_begin, Cond.selects RX2 yX2_begin yX2_begin, Cond.initialized RX2, Cond.code yX2_begin cX2_begin 4 (some .boolean), Cond.fieldLink RX2 18 "FaultShrinker$Search" "dish" "I", Cond.fieldLink RX2 53 "FaultShrinker$Search" "parts" "I", Cond.fieldLink RX2 28 "FaultShrinker$Search" "steps" "I", Cond.methodLink RX2 51 yX3_begin, Cond.instanceMethod yX3_begin, Cond.selects RX3 yX3_begin yX3_begin, Cond.initialized RX3, Cond.code yX3_begin cX3_begin 1 none, Cond.fieldLink RX3 23 "FaultShrinker$Taster" "search" "J", Cond.fieldLink RX3 27 "FaultShrinker$Taster" "tastings" "I", Cond.methodLink RX2 47 yX3_looksSpoiled, Cond.instanceMethod yX3_looksSpoiled, Cond.selects RX3 yX3_looksSpoiled yX3_looksSpoiled, Cond.code yX3_looksSpoiled cX3_looksSpoiled 2 (some .boolean), Cond.fieldLink RX3 19 "FaultShrinker$Taster" "rules" "LFaultShrinker$RuleBook;", Cond.fieldLink RX3 15 "FaultShrinker$Taster" "recipe" "LFaultShrinker$Recipe;", Cond.methodLink RX3 31 yX3_learn, Cond.instanceMethod yX3_learn]
def wsX2_goByHalves_r2 : List Cond := [Cond.selects RX3 yX3_learn yX3_learn, Cond.code yX3_learn cX3_learn 7 (some .boolean), Cond.constant RX3 46 (-1640531535), Cond.fieldLink RX3 11 "FaultShrinker$Taster" "known" "[J", Cond.methodLink RX3 35 yX0_kindsOf, Cond.instanceMethod yX0_kindsOf, Cond.selects RX0 yX0_kindsOf yX0_kindsOf, Cond.initialized RX0, Cond.code yX0_kindsOf cX0_kindsOf 4 (some .int), Cond.fieldLink RX0 15 "FaultShrinker$Recipe" "size" "I", Cond.fieldLink RX0 9 "FaultShrinker$Recipe" "kinds" "[I", Cond.methodLink RX3 41 yX1_holding, Cond.instanceMethod yX1_holding, Cond.selects RX1 yX1_holding yX1_holding, Cond.initialized RX1, Cond.code yX1_holding cX1_holding 4 (some .int), Cond.fieldLink RX1 18 "FaultShrinker$RuleBook" "size" "I", Cond.methodLink RX1 30 yX1_holds, Cond.instanceMethod yX1_holds, Cond.selects RX1 yX1_holds yX1_holds, Cond.code yX1_holds cX1_holds 3 (some .boolean), Cond.fieldLink RX1 9 "FaultShrinker$RuleBook" "needed" "[I", Cond.fieldLink RX1 15 "FaultShrinker$RuleBook" "spared" "[I", Cond.methodLink RX2 38 yX2_makeStep]
def wsX2_goByHalves_r3 : List Cond := [Cond.instanceMethod yX2_makeStep, Cond.selects RX2 yX2_makeStep yX2_makeStep, Cond.code yX2_makeStep cX2_makeStep 5 (some .boolean), Cond.methodLink RX2 74 Lib.Math.max.name, Cond.static Lib.Math.max.name, Cond.initialized "java/lang/Math", Cond.code Lib.Math.max.name Lib.Math.max.code 2 (some .int), Cond.methodLink RX2 79 Lib.Math.min.name, Cond.static Lib.Math.min.name, Cond.code Lib.Math.min.name Lib.Math.min.code 2 (some .int), Cond.methodLink RX2 22 yJ6_bitCount_0f7a4, Cond.static yJ6_bitCount_0f7a4, Cond.initialized RJ6, Cond.code yJ6_bitCount_0f7a4 cJ6_bitCount_0f7a4 1 (some .int), Cond.constant RJ6 265 (1431655765), Cond.constant RJ6 266 (858993459), Cond.constant RJ6 267 (252645135), Cond.methodLink RX2 56 yX2_countPlaces, Cond.instanceMethod yX2_countPlaces, Cond.selects RX2 yX2_countPlaces yX2_countPlaces, Cond.code yX2_countPlaces cX2_countPlaces 4 none, Cond.fieldLink RX2 15 "FaultShrinker$Search" "firstPlaces" "[I", Cond.methodLink RX2 59 yX2_firstSpoiledPart, Cond.instanceMethod yX2_firstSpoiledPart]
def wsX2_goByHalves_r4 : List Cond := [Cond.selects RX2 yX2_firstSpoiledPart yX2_firstSpoiledPart, Cond.code yX2_firstSpoiledPart cX2_firstSpoiledPart 4 (some .int), Cond.methodLink RX2 63 yX2_partAt, Cond.instanceMethod yX2_partAt, Cond.selects RX2 yX2_partAt yX2_partAt, Cond.code yX2_partAt cX2_partAt 5 (some .int), Cond.methodLink RX2 67 yX2_note, Cond.instanceMethod yX2_note, Cond.selects RX2 yX2_note yX2_note, Cond.code yX2_note cX2_note 6 none, Cond.fieldLink RX2 11 "FaultShrinker$Search" "facts" "[I", Cond.methodLink RX2 71 yX2_firstSparedPart, Cond.instanceMethod yX2_firstSparedPart, Cond.selects RX2 yX2_firstSparedPart yX2_firstSparedPart, Cond.code yX2_firstSparedPart cX2_firstSparedPart 4 (some .int), Cond.methodLink RX2 42 yX3_tastings, Cond.instanceMethod yX3_tastings, Cond.selects RX3 yX3_tastings yX3_tastings, Cond.code yX3_tastings cX3_tastings 1 (some .int)]
def wsX2_goByHalves : List Cond := .code yX2_goByHalves cX2_goByHalves 5 none :: ((wsX2_goByHalves_r1 ++ (wsX2_goByHalves_r2 ++ (wsX2_goByHalves_r3 ++ wsX2_goByHalves_r4))) ++ wsX20 ++ wsX30 ++ wsX00 ++ wsX10)
def wsX2_goOneByOne_r1 : List Cond := [Cond.fieldLink RX2 18 "FaultShrinker$Search" "dish" "I", Cond.fieldLink RX2 31 "FaultShrinker$Search" "tastings" "I", Cond.methodLink RX2 34 yX2_begin, Cond.instanceMethod yX2_begin, Cond.selects RX2 yX2_begin yX2_begin, Cond.initialized RX2, Cond.code yX2_begin cX2_begin 4 (some .boolean), Cond.fieldLink RX2 53 "FaultShrinker$Search" "parts" "I", Cond.fieldLink RX2 28 "FaultShrinker$Search" "steps" "I", Cond.methodLink RX2 51 yX3_begin, Cond.instanceMethod yX3_begin, Cond.selects RX3 yX3_begin yX3_begin, Cond.initialized RX3, Cond.code yX3_begin cX3_begin 1 none, Cond.fieldLink RX3 23 "FaultShrinker$Taster" "search" "J", Cond.fieldLink RX3 27 "FaultShrinker$Taster" "tastings" "I", Cond.methodLink RX2 47 yX3_looksSpoiled, Cond.instanceMethod yX3_looksSpoiled, Cond.selects RX3 yX3_looksSpoiled yX3_looksSpoiled, Cond.code yX3_looksSpoiled cX3_looksSpoiled 2 (some .boolean), Cond.fieldLink RX3 19 "FaultShrinker$Taster" "rules" "LFaultShrinker$RuleBook;", Cond.fieldLink RX3 15 "FaultShrinker$Taster" "recipe" "LFaultShrinker$Recipe;", Cond.methodLink RX3 31 yX3_learn, Cond.instanceMethod yX3_learn]
def wsX2_goOneByOne_r2 : List Cond := [Cond.selects RX3 yX3_learn yX3_learn, Cond.code yX3_learn cX3_learn 7 (some .boolean), Cond.constant RX3 46 (-1640531535), Cond.fieldLink RX3 11 "FaultShrinker$Taster" "known" "[J", Cond.methodLink RX3 35 yX0_kindsOf, Cond.instanceMethod yX0_kindsOf, Cond.selects RX0 yX0_kindsOf yX0_kindsOf, Cond.initialized RX0, Cond.code yX0_kindsOf cX0_kindsOf 4 (some .int), Cond.fieldLink RX0 15 "FaultShrinker$Recipe" "size" "I", Cond.fieldLink RX0 9 "FaultShrinker$Recipe" "kinds" "[I", Cond.methodLink RX3 41 yX1_holding, Cond.instanceMethod yX1_holding, Cond.selects RX1 yX1_holding yX1_holding, Cond.initialized RX1, Cond.code yX1_holding cX1_holding 4 (some .int), Cond.fieldLink RX1 18 "FaultShrinker$RuleBook" "size" "I", Cond.methodLink RX1 30 yX1_holds, Cond.instanceMethod yX1_holds, Cond.selects RX1 yX1_holds yX1_holds, Cond.code yX1_holds cX1_holds 3 (some .boolean), Cond.fieldLink RX1 9 "FaultShrinker$RuleBook" "needed" "[I", Cond.fieldLink RX1 15 "FaultShrinker$RuleBook" "spared" "[I", Cond.methodLink RX2 42 yX3_tastings]
def wsX2_goOneByOne_r3 : List Cond := [Cond.instanceMethod yX3_tastings, Cond.selects RX3 yX3_tastings yX3_tastings, Cond.code yX3_tastings cX3_tastings 1 (some .int)]
def wsX2_goOneByOne : List Cond := .code yX2_goOneByOne cX2_goOneByOne 6 none :: ((wsX2_goOneByOne_r1 ++ (wsX2_goOneByOne_r2 ++ wsX2_goOneByOne_r3)) ++ wsX20 ++ wsX30 ++ wsX00 ++ wsX10)
def wsX3_init : List Cond := .code yX3_init cX3_init 3 none :: ([.methodLink RX3 5 objectInit, .instanceMethod objectInit, .code objectInit ⟨#[0xb1]⟩ 1 none, .arrayClass .long, .fieldLink RX3 11 "FaultShrinker$Taster" "known" "[J", .fieldLink RX3 15 "FaultShrinker$Taster" "recipe" "LFaultShrinker$Recipe;", .fieldLink RX3 19 "FaultShrinker$Taster" "rules" "LFaultShrinker$RuleBook;"] ++ wsX30)
def wsX4_init_r1 : List Cond := [Cond.methodLink RX4 1 objectInit, Cond.instanceMethod objectInit, Cond.code objectInit ⟨#[0xb1]⟩ 1 none, Cond.classLink RX4 7 RX0, Cond.instantiable RX0 2, Cond.initialized RX0, Cond.fieldLink RX4 10 "FaultShrinker" "recipe" "LFaultShrinker$Recipe;", Cond.classLink RX4 16 RX1, Cond.instantiable RX1 3, Cond.initialized RX1, Cond.fieldLink RX4 19 "FaultShrinker" "rules" "LFaultShrinker$RuleBook;", Cond.classLink RX4 23 RX3, Cond.instantiable RX3 5, Cond.initialized RX3, Cond.fieldLink RX4 28 "FaultShrinker" "taster" "LFaultShrinker$Taster;", Cond.classLink RX4 32 RX2, Cond.instantiable RX2 6, Cond.initialized RX2, Cond.fieldLink RX4 35 "FaultShrinker" "keptSearch" "LFaultShrinker$Search;", Cond.fieldLink RX4 39 "FaultShrinker" "trialSearch" "LFaultShrinker$Search;", Cond.instanceMethod yX0_init, Cond.code yX0_init cX0_init 1 none, Cond.methodLink RX0 3 objectInit, Cond.arrayClass .int]
def wsX4_init_r2 : List Cond := [Cond.fieldLink RX0 9 "FaultShrinker$Recipe" "kinds" "[I", Cond.instanceMethod yX1_init, Cond.code yX1_init cX1_init 1 none, Cond.methodLink RX1 3 objectInit, Cond.fieldLink RX1 9 "FaultShrinker$RuleBook" "needed" "[I", Cond.fieldLink RX1 15 "FaultShrinker$RuleBook" "spared" "[I", Cond.methodLink RX4 25 yX3_init, Cond.instanceMethod yX3_init, Cond.code yX3_init cX3_init 3 none, Cond.methodLink RX3 5 objectInit, Cond.arrayClass .long, Cond.fieldLink RX3 11 "FaultShrinker$Taster" "known" "[J", Cond.fieldLink RX3 15 "FaultShrinker$Taster" "recipe" "LFaultShrinker$Recipe;", Cond.fieldLink RX3 19 "FaultShrinker$Taster" "rules" "LFaultShrinker$RuleBook;", Cond.instanceMethod yX2_init, Cond.code yX2_init cX2_init 1 none, Cond.methodLink RX2 3 objectInit, Cond.fieldLink RX2 11 "FaultShrinker$Search" "facts" "[I", Cond.fieldLink RX2 15 "FaultShrinker$Search" "firstPlaces" "[I"]
def wsX4_init : List Cond := .code yX4_init cX4_init 1 none :: ((wsX4_init_r1 ++ wsX4_init_r2) ++ wsX00 ++ wsX40 ++ wsX10 ++ wsX30 ++ wsX20)
def wsX4_isKind : List Cond := .code yX4_isKind cX4_isKind 1 (some .boolean) :: ([])
def wsX4_add_r1 : List Cond := [Cond.classLink RX4 46 "java/lang/IndexOutOfBoundsException", Cond.initialized "java/lang/IndexOutOfBoundsException", Cond.classLink RX4 57 "java/lang/IllegalStateException", Cond.initialized "java/lang/IllegalStateException", Cond.fieldLink RX4 10 "FaultShrinker" "recipe" "LFaultShrinker$Recipe;", Cond.methodLink RX4 42 yX4_isKind, Cond.static yX4_isKind, Cond.initialized RX4, Cond.code yX4_isKind cX4_isKind 1 (some .boolean), Cond.methodLink RX4 53 yX0_isFull, Cond.instanceMethod yX0_isFull, Cond.selects RX0 yX0_isFull yX0_isFull, Cond.initialized RX0, Cond.code yX0_isFull cX0_isFull 1 (some .boolean), Cond.fieldLink RX0 15 "FaultShrinker$Recipe" "size" "I", Cond.fieldLink RX0 9 "FaultShrinker$Recipe" "kinds" "[I", Cond.methodLink RX4 62 yX0_append, Cond.instanceMethod yX0_append, Cond.selects RX0 yX0_append yX0_append, Cond.code yX0_append cX0_append 2 none, Cond.methodLink RX0 23 yX0_isFull, Cond.methodLink RX4 66 yX0_size, Cond.instanceMethod yX0_size, Cond.selects RX0 yX0_size yX0_size]
def wsX4_add_r2 : List Cond := [Cond.code yX0_size cX0_size 1 (some .int)]
def wsX4_add : List Cond := .code yX4_add cX4_add 2 (some .int) :: ((wsX4_add_r1 ++ wsX4_add_r2) ++ wsX40 ++ wsX00 ++ (vx_atS RX4 50 "java/lang/IndexOutOfBoundsException" ["java/lang/RuntimeException", "java/lang/Exception"]).filter goodWord ++ (vx_atS RX4 61 "java/lang/IllegalStateException" ["java/lang/RuntimeException", "java/lang/Exception"]).filter goodWord)
def wsX4_drop : List Cond := .code yX4_drop cX4_drop 3 (some .int) :: ([.classLink RX4 46 "java/lang/IndexOutOfBoundsException", .initialized "java/lang/IndexOutOfBoundsException", .fieldLink RX4 10 "FaultShrinker" "recipe" "LFaultShrinker$Recipe;", .methodLink RX4 70 yX0_hasPlace, .instanceMethod yX0_hasPlace, .selects RX0 yX0_hasPlace yX0_hasPlace, .initialized RX0, .code yX0_hasPlace cX0_hasPlace 2 (some .boolean), .fieldLink RX0 15 "FaultShrinker$Recipe" "size" "I", .methodLink RX4 75 yX0_kindAt, .instanceMethod yX0_kindAt, .selects RX0 yX0_kindAt yX0_kindAt, .code yX0_kindAt cX0_kindAt 2 (some .int), .fieldLink RX0 9 "FaultShrinker$Recipe" "kinds" "[I", .methodLink RX0 19 yX0_hasPlace, .methodLink RX4 79 yX0_takeOut, .instanceMethod yX0_takeOut, .selects RX0 yX0_takeOut yX0_takeOut, .code yX0_takeOut cX0_takeOut 3 none] ++ wsX40 ++ wsX00 ++ (vx_atS RX4 50 "java/lang/IndexOutOfBoundsException" ["java/lang/RuntimeException", "java/lang/Exception"]).filter goodWord)
def wsX4_kind : List Cond := .code yX4_kind cX4_kind 2 (some .int) :: ([.classLink RX4 46 "java/lang/IndexOutOfBoundsException", .initialized "java/lang/IndexOutOfBoundsException", .fieldLink RX4 10 "FaultShrinker" "recipe" "LFaultShrinker$Recipe;", .methodLink RX4 70 yX0_hasPlace, .instanceMethod yX0_hasPlace, .selects RX0 yX0_hasPlace yX0_hasPlace, .initialized RX0, .code yX0_hasPlace cX0_hasPlace 2 (some .boolean), .fieldLink RX0 15 "FaultShrinker$Recipe" "size" "I", .methodLink RX4 75 yX0_kindAt, .instanceMethod yX0_kindAt, .selects RX0 yX0_kindAt yX0_kindAt, .code yX0_kindAt cX0_kindAt 2 (some .int), .fieldLink RX0 9 "FaultShrinker$Recipe" "kinds" "[I", .methodLink RX0 19 yX0_hasPlace] ++ wsX40 ++ wsX00 ++ (vx_atS RX4 50 "java/lang/IndexOutOfBoundsException" ["java/lang/RuntimeException", "java/lang/Exception"]).filter goodWord)
def wsX4_rule : List Cond := .code yX4_rule cX4_rule 1 (some .int) :: ([.classLink RX4 57 "java/lang/IllegalStateException", .initialized "java/lang/IllegalStateException", .fieldLink RX4 19 "FaultShrinker" "rules" "LFaultShrinker$RuleBook;", .methodLink RX4 82 yX1_isFull, .instanceMethod yX1_isFull, .selects RX1 yX1_isFull yX1_isFull, .initialized RX1, .code yX1_isFull cX1_isFull 1 (some .boolean), .fieldLink RX1 18 "FaultShrinker$RuleBook" "size" "I", .methodLink RX4 85 yX1_append, .instanceMethod yX1_append, .selects RX1 yX1_append yX1_append, .code yX1_append cX1_append 1 none, .methodLink RX1 22 yX1_isFull, .methodLink RX4 87 yX1_size, .instanceMethod yX1_size, .selects RX1 yX1_size yX1_size, .code yX1_size cX1_size 1 (some .int)] ++ wsX40 ++ wsX10 ++ (vx_atS RX4 61 "java/lang/IllegalStateException" ["java/lang/RuntimeException", "java/lang/Exception"]).filter goodWord)
def wsX4_hasBit : List Cond := .code yX4_hasBit cX4_hasBit 2 (some .boolean) :: ([])
def wsX4_withBit : List Cond := .code yX4_withBit cX4_withBit 3 (some .int) :: ([])
def wsX4_setNeeds_r1 : List Cond := [Cond.classLink RX4 46 "java/lang/IndexOutOfBoundsException", Cond.initialized "java/lang/IndexOutOfBoundsException", Cond.classLink RX4 57 "java/lang/IllegalStateException", Cond.initialized "java/lang/IllegalStateException", Cond.fieldLink RX4 19 "FaultShrinker" "rules" "LFaultShrinker$RuleBook;", Cond.methodLink RX4 88 yX1_hasRule, Cond.instanceMethod yX1_hasRule, Cond.selects RX1 yX1_hasRule yX1_hasRule, Cond.initialized RX1, Cond.code yX1_hasRule cX1_hasRule 2 (some .boolean), Cond.fieldLink RX1 18 "FaultShrinker$RuleBook" "size" "I", Cond.methodLink RX4 42 yX4_isKind, Cond.static yX4_isKind, Cond.initialized RX4, Cond.code yX4_isKind cX4_isKind 1 (some .boolean), Cond.methodLink RX4 93 yX1_sparedBy, Cond.instanceMethod yX1_sparedBy, Cond.selects RX1 yX1_sparedBy yX1_sparedBy, Cond.code yX1_sparedBy cX1_sparedBy 2 (some .int), Cond.fieldLink RX1 15 "FaultShrinker$RuleBook" "spared" "[I", Cond.methodLink RX1 26 yX1_hasRule, Cond.methodLink RX4 96 yX4_hasBit, Cond.static yX4_hasBit, Cond.code yX4_hasBit cX4_hasBit 2 (some .boolean)]
def wsX4_setNeeds_r2 : List Cond := [Cond.methodLink RX4 102 yX1_neededBy, Cond.instanceMethod yX1_neededBy, Cond.selects RX1 yX1_neededBy yX1_neededBy, Cond.code yX1_neededBy cX1_neededBy 2 (some .int), Cond.fieldLink RX1 9 "FaultShrinker$RuleBook" "needed" "[I", Cond.methodLink RX4 105 yX4_withBit, Cond.static yX4_withBit, Cond.code yX4_withBit cX4_withBit 3 (some .int), Cond.methodLink RX4 109 yX1_putNeeded, Cond.instanceMethod yX1_putNeeded, Cond.selects RX1 yX1_putNeeded yX1_putNeeded, Cond.code yX1_putNeeded cX1_putNeeded 3 none]
def wsX4_setNeeds : List Cond := .code yX4_setNeeds cX4_setNeeds 5 (some .boolean) :: ((wsX4_setNeeds_r1 ++ wsX4_setNeeds_r2) ++ wsX40 ++ wsX10 ++ (vx_atS RX4 50 "java/lang/IndexOutOfBoundsException" ["java/lang/RuntimeException", "java/lang/Exception"]).filter goodWord ++ (vx_atS RX4 61 "java/lang/IllegalStateException" ["java/lang/RuntimeException", "java/lang/Exception"]).filter goodWord)
def wsX4_setSpares_r1 : List Cond := [Cond.classLink RX4 46 "java/lang/IndexOutOfBoundsException", Cond.initialized "java/lang/IndexOutOfBoundsException", Cond.classLink RX4 57 "java/lang/IllegalStateException", Cond.initialized "java/lang/IllegalStateException", Cond.fieldLink RX4 19 "FaultShrinker" "rules" "LFaultShrinker$RuleBook;", Cond.methodLink RX4 88 yX1_hasRule, Cond.instanceMethod yX1_hasRule, Cond.selects RX1 yX1_hasRule yX1_hasRule, Cond.initialized RX1, Cond.code yX1_hasRule cX1_hasRule 2 (some .boolean), Cond.fieldLink RX1 18 "FaultShrinker$RuleBook" "size" "I", Cond.methodLink RX4 42 yX4_isKind, Cond.static yX4_isKind, Cond.initialized RX4, Cond.code yX4_isKind cX4_isKind 1 (some .boolean), Cond.methodLink RX4 102 yX1_neededBy, Cond.instanceMethod yX1_neededBy, Cond.selects RX1 yX1_neededBy yX1_neededBy, Cond.code yX1_neededBy cX1_neededBy 2 (some .int), Cond.fieldLink RX1 9 "FaultShrinker$RuleBook" "needed" "[I", Cond.methodLink RX1 26 yX1_hasRule, Cond.methodLink RX4 96 yX4_hasBit, Cond.static yX4_hasBit, Cond.code yX4_hasBit cX4_hasBit 2 (some .boolean)]
def wsX4_setSpares_r2 : List Cond := [Cond.methodLink RX4 93 yX1_sparedBy, Cond.instanceMethod yX1_sparedBy, Cond.selects RX1 yX1_sparedBy yX1_sparedBy, Cond.code yX1_sparedBy cX1_sparedBy 2 (some .int), Cond.fieldLink RX1 15 "FaultShrinker$RuleBook" "spared" "[I", Cond.methodLink RX4 105 yX4_withBit, Cond.static yX4_withBit, Cond.code yX4_withBit cX4_withBit 3 (some .int), Cond.methodLink RX4 115 yX1_putSpared, Cond.instanceMethod yX1_putSpared, Cond.selects RX1 yX1_putSpared yX1_putSpared, Cond.code yX1_putSpared cX1_putSpared 3 none]
def wsX4_setSpares : List Cond := .code yX4_setSpares cX4_setSpares 5 (some .boolean) :: ((wsX4_setSpares_r1 ++ wsX4_setSpares_r2) ++ wsX40 ++ wsX10 ++ (vx_atS RX4 50 "java/lang/IndexOutOfBoundsException" ["java/lang/RuntimeException", "java/lang/Exception"]).filter goodWord ++ (vx_atS RX4 61 "java/lang/IllegalStateException" ["java/lang/RuntimeException", "java/lang/Exception"]).filter goodWord)
def wsX4_ruleFact_r1 : List Cond := [Cond.fieldLink RX4 19 "FaultShrinker" "rules" "LFaultShrinker$RuleBook;", Cond.fieldLink RX4 10 "FaultShrinker" "recipe" "LFaultShrinker$Recipe;", Cond.fieldLink RX4 148 "FaultShrinker" "keptListKinds" "I", Cond.methodLink RX4 102 yX1_neededBy, Cond.instanceMethod yX1_neededBy, Cond.selects RX1 yX1_neededBy yX1_neededBy, Cond.initialized RX1, Cond.code yX1_neededBy cX1_neededBy 2 (some .int), Cond.fieldLink RX1 9 "FaultShrinker$RuleBook" "needed" "[I", Cond.methodLink RX1 26 yX1_hasRule, Cond.instanceMethod yX1_hasRule, Cond.selects RX1 yX1_hasRule yX1_hasRule, Cond.code yX1_hasRule cX1_hasRule 2 (some .boolean), Cond.fieldLink RX1 18 "FaultShrinker$RuleBook" "size" "I", Cond.methodLink RX4 93 yX1_sparedBy, Cond.instanceMethod yX1_sparedBy, Cond.selects RX1 yX1_sparedBy yX1_sparedBy, Cond.code yX1_sparedBy cX1_sparedBy 2 (some .int), Cond.fieldLink RX1 15 "FaultShrinker$RuleBook" "spared" "[I", Cond.methodLink RX4 187 yJ6_bitCount_0f7a4, Cond.static yJ6_bitCount_0f7a4, Cond.initialized RJ6, Cond.code yJ6_bitCount_0f7a4 cJ6_bitCount_0f7a4 1 (some .int), Cond.constant RJ6 265 (1431655765)]
def wsX4_ruleFact_r2 : List Cond := [Cond.constant RJ6 266 (858993459), Cond.constant RJ6 267 (252645135), Cond.methodLink RX4 135 yX0_wholeDish, Cond.instanceMethod yX0_wholeDish, Cond.selects RX0 yX0_wholeDish yX0_wholeDish, Cond.initialized RX0, Cond.code yX0_wholeDish cX0_wholeDish 1 (some .int), Cond.fieldLink RX0 15 "FaultShrinker$Recipe" "size" "I", Cond.methodLink RX4 145 yX0_kindsOf, Cond.instanceMethod yX0_kindsOf, Cond.selects RX0 yX0_kindsOf yX0_kindsOf, Cond.code yX0_kindsOf cX0_kindsOf 4 (some .int), Cond.fieldLink RX0 9 "FaultShrinker$Recipe" "kinds" "[I", Cond.methodLink RX4 205 yX1_holds, Cond.instanceMethod yX1_holds, Cond.selects RX1 yX1_holds yX1_holds, Cond.code yX1_holds cX1_holds 3 (some .boolean)]
def wsX4_ruleFact : List Cond := .code yX4_ruleFact cX4_ruleFact 3 (some .int) :: ((wsX4_ruleFact_r1 ++ wsX4_ruleFact_r2) ++ wsX40 ++ wsX10 ++ wsX00)
def wsX4_told_r1 : List Cond := [Cond.classLink RX4 46 "java/lang/IndexOutOfBoundsException", Cond.initialized "java/lang/IndexOutOfBoundsException", Cond.fieldLink RX4 19 "FaultShrinker" "rules" "LFaultShrinker$RuleBook;", Cond.methodLink RX4 88 yX1_hasRule, Cond.instanceMethod yX1_hasRule, Cond.selects RX1 yX1_hasRule yX1_hasRule, Cond.initialized RX1, Cond.code yX1_hasRule cX1_hasRule 2 (some .boolean), Cond.fieldLink RX1 18 "FaultShrinker$RuleBook" "size" "I", Cond.methodLink RX4 120 yX4_ruleFact, Cond.instanceMethod yX4_ruleFact, Cond.selects RX4 yX4_ruleFact yX4_ruleFact, Cond.initialized RX4, Cond.code yX4_ruleFact cX4_ruleFact 3 (some .int), Cond.fieldLink RX4 10 "FaultShrinker" "recipe" "LFaultShrinker$Recipe;", Cond.fieldLink RX4 148 "FaultShrinker" "keptListKinds" "I", Cond.methodLink RX4 102 yX1_neededBy, Cond.instanceMethod yX1_neededBy, Cond.selects RX1 yX1_neededBy yX1_neededBy, Cond.code yX1_neededBy cX1_neededBy 2 (some .int), Cond.fieldLink RX1 9 "FaultShrinker$RuleBook" "needed" "[I", Cond.methodLink RX1 26 yX1_hasRule, Cond.methodLink RX4 93 yX1_sparedBy, Cond.instanceMethod yX1_sparedBy]
def wsX4_told_r2 : List Cond := [Cond.selects RX1 yX1_sparedBy yX1_sparedBy, Cond.code yX1_sparedBy cX1_sparedBy 2 (some .int), Cond.fieldLink RX1 15 "FaultShrinker$RuleBook" "spared" "[I", Cond.methodLink RX4 187 yJ6_bitCount_0f7a4, Cond.static yJ6_bitCount_0f7a4, Cond.initialized RJ6, Cond.code yJ6_bitCount_0f7a4 cJ6_bitCount_0f7a4 1 (some .int), Cond.constant RJ6 265 (1431655765), Cond.constant RJ6 266 (858993459), Cond.constant RJ6 267 (252645135), Cond.methodLink RX4 135 yX0_wholeDish, Cond.instanceMethod yX0_wholeDish, Cond.selects RX0 yX0_wholeDish yX0_wholeDish, Cond.initialized RX0, Cond.code yX0_wholeDish cX0_wholeDish 1 (some .int), Cond.fieldLink RX0 15 "FaultShrinker$Recipe" "size" "I", Cond.methodLink RX4 145 yX0_kindsOf, Cond.instanceMethod yX0_kindsOf, Cond.selects RX0 yX0_kindsOf yX0_kindsOf, Cond.code yX0_kindsOf cX0_kindsOf 4 (some .int), Cond.fieldLink RX0 9 "FaultShrinker$Recipe" "kinds" "[I", Cond.methodLink RX4 205 yX1_holds, Cond.instanceMethod yX1_holds, Cond.selects RX1 yX1_holds yX1_holds]
def wsX4_told_r3 : List Cond := [Cond.code yX1_holds cX1_holds 3 (some .boolean)]
def wsX4_told : List Cond := .code yX4_told cX4_told 3 (some .int) :: ((wsX4_told_r1 ++ (wsX4_told_r2 ++ wsX4_told_r3)) ++ wsX40 ++ wsX10 ++ wsX00 ++ (vx_atS RX4 50 "java/lang/IndexOutOfBoundsException" ["java/lang/RuntimeException", "java/lang/Exception"]).filter goodWord)
def wsX4_isSpoiled : List Cond := .code yX4_isSpoiled cX4_isSpoiled 2 (some .boolean) :: ([.fieldLink RX4 19 "FaultShrinker" "rules" "LFaultShrinker$RuleBook;", .fieldLink RX4 10 "FaultShrinker" "recipe" "LFaultShrinker$Recipe;", .methodLink RX4 145 yX0_kindsOf, .instanceMethod yX0_kindsOf, .selects RX0 yX0_kindsOf yX0_kindsOf, .initialized RX0, .code yX0_kindsOf cX0_kindsOf 4 (some .int), .fieldLink RX0 15 "FaultShrinker$Recipe" "size" "I", .fieldLink RX0 9 "FaultShrinker$Recipe" "kinds" "[I", .methodLink RX4 208 yX1_holding, .instanceMethod yX1_holding, .selects RX1 yX1_holding yX1_holding, .initialized RX1, .code yX1_holding cX1_holding 4 (some .int), .fieldLink RX1 18 "FaultShrinker$RuleBook" "size" "I", .methodLink RX1 30 yX1_holds, .instanceMethod yX1_holds, .selects RX1 yX1_holds yX1_holds, .code yX1_holds cX1_holds 3 (some .boolean), .fieldLink RX1 9 "FaultShrinker$RuleBook" "needed" "[I", .fieldLink RX1 15 "FaultShrinker$RuleBook" "spared" "[I"] ++ wsX40 ++ wsX00 ++ wsX10)
def wsX4_spoils_r1 : List Cond := [Cond.classLink RX4 127 "java/lang/IllegalArgumentException", Cond.initialized "java/lang/IllegalArgumentException", Cond.fieldLink RX4 10 "FaultShrinker" "recipe" "LFaultShrinker$Recipe;", Cond.methodLink RX4 124 yX0_hasDish, Cond.instanceMethod yX0_hasDish, Cond.selects RX0 yX0_hasDish yX0_hasDish, Cond.initialized RX0, Cond.code yX0_hasDish cX0_hasDish 2 (some .boolean), Cond.fieldLink RX0 15 "FaultShrinker$Recipe" "size" "I", Cond.methodLink RX4 132 yX4_isSpoiled, Cond.instanceMethod yX4_isSpoiled, Cond.selects RX4 yX4_isSpoiled yX4_isSpoiled, Cond.initialized RX4, Cond.code yX4_isSpoiled cX4_isSpoiled 2 (some .boolean), Cond.fieldLink RX4 19 "FaultShrinker" "rules" "LFaultShrinker$RuleBook;", Cond.methodLink RX4 145 yX0_kindsOf, Cond.instanceMethod yX0_kindsOf, Cond.selects RX0 yX0_kindsOf yX0_kindsOf, Cond.code yX0_kindsOf cX0_kindsOf 4 (some .int), Cond.fieldLink RX0 9 "FaultShrinker$Recipe" "kinds" "[I", Cond.methodLink RX4 208 yX1_holding, Cond.instanceMethod yX1_holding, Cond.selects RX1 yX1_holding yX1_holding, Cond.initialized RX1]
def wsX4_spoils_r2 : List Cond := [Cond.code yX1_holding cX1_holding 4 (some .int), Cond.fieldLink RX1 18 "FaultShrinker$RuleBook" "size" "I", Cond.methodLink RX1 30 yX1_holds, Cond.instanceMethod yX1_holds, Cond.selects RX1 yX1_holds yX1_holds, Cond.code yX1_holds cX1_holds 3 (some .boolean), Cond.fieldLink RX1 9 "FaultShrinker$RuleBook" "needed" "[I", Cond.fieldLink RX1 15 "FaultShrinker$RuleBook" "spared" "[I"]
def wsX4_spoils : List Cond := .code yX4_spoils cX4_spoils 2 (some .boolean) :: ((wsX4_spoils_r1 ++ wsX4_spoils_r2) ++ wsX40 ++ wsX00 ++ wsX10 ++ (vx_atS RX4 131 "java/lang/IllegalArgumentException" ["java/lang/RuntimeException", "java/lang/Exception"]).filter goodWord)
def wsX4_shrink_r1 : List Cond := [Cond.fieldLink RX4 35 "FaultShrinker" "keptSearch" "LFaultShrinker$Search;", Cond.fieldLink RX4 28 "FaultShrinker" "taster" "LFaultShrinker$Taster;", Cond.fieldLink RX4 10 "FaultShrinker" "recipe" "LFaultShrinker$Recipe;", Cond.fieldLink RX4 148 "FaultShrinker" "keptListKinds" "I", Cond.fieldLink RX4 152 "FaultShrinker" "keptTastings" "I", Cond.methodLink RX4 135 yX0_wholeDish, Cond.instanceMethod yX0_wholeDish, Cond.selects RX0 yX0_wholeDish yX0_wholeDish, Cond.initialized RX0, Cond.code yX0_wholeDish cX0_wholeDish 1 (some .int), Cond.fieldLink RX0 15 "FaultShrinker$Recipe" "size" "I", Cond.methodLink RX4 138 yX2_goByHalves, Cond.instanceMethod yX2_goByHalves, Cond.selects RX2 yX2_goByHalves yX2_goByHalves, Cond.initialized RX2, Cond.code yX2_goByHalves cX2_goByHalves 5 none, Cond.fieldLink RX2 31 "FaultShrinker$Search" "tastings" "I", Cond.methodLink RX2 34 yX2_begin, Cond.instanceMethod yX2_begin, Cond.selects RX2 yX2_begin yX2_begin, Cond.code yX2_begin cX2_begin 4 (some .boolean), Cond.fieldLink RX2 18 "FaultShrinker$Search" "dish" "I", Cond.fieldLink RX2 53 "FaultShrinker$Search" "parts" "I", Cond.fieldLink RX2 28 "FaultShrinker$Search" "steps" "I"]
def wsX4_shrink_r2 : List Cond := [Cond.methodLink RX2 51 yX3_begin, Cond.instanceMethod yX3_begin, Cond.selects RX3 yX3_begin yX3_begin, Cond.initialized RX3, Cond.code yX3_begin cX3_begin 1 none, Cond.fieldLink RX3 23 "FaultShrinker$Taster" "search" "J", Cond.fieldLink RX3 27 "FaultShrinker$Taster" "tastings" "I", Cond.methodLink RX2 47 yX3_looksSpoiled, Cond.instanceMethod yX3_looksSpoiled, Cond.selects RX3 yX3_looksSpoiled yX3_looksSpoiled, Cond.code yX3_looksSpoiled cX3_looksSpoiled 2 (some .boolean), Cond.fieldLink RX3 19 "FaultShrinker$Taster" "rules" "LFaultShrinker$RuleBook;", Cond.fieldLink RX3 15 "FaultShrinker$Taster" "recipe" "LFaultShrinker$Recipe;", Cond.methodLink RX3 31 yX3_learn, Cond.instanceMethod yX3_learn, Cond.selects RX3 yX3_learn yX3_learn, Cond.code yX3_learn cX3_learn 7 (some .boolean), Cond.constant RX3 46 (-1640531535), Cond.fieldLink RX3 11 "FaultShrinker$Taster" "known" "[J", Cond.methodLink RX3 35 yX0_kindsOf, Cond.instanceMethod yX0_kindsOf, Cond.selects RX0 yX0_kindsOf yX0_kindsOf, Cond.code yX0_kindsOf cX0_kindsOf 4 (some .int), Cond.fieldLink RX0 9 "FaultShrinker$Recipe" "kinds" "[I"]
def wsX4_shrink_r3 : List Cond := [Cond.methodLink RX3 41 yX1_holding, Cond.instanceMethod yX1_holding, Cond.selects RX1 yX1_holding yX1_holding, Cond.initialized RX1, Cond.code yX1_holding cX1_holding 4 (some .int), Cond.fieldLink RX1 18 "FaultShrinker$RuleBook" "size" "I", Cond.methodLink RX1 30 yX1_holds, Cond.instanceMethod yX1_holds, Cond.selects RX1 yX1_holds yX1_holds, Cond.code yX1_holds cX1_holds 3 (some .boolean), Cond.fieldLink RX1 9 "FaultShrinker$RuleBook" "needed" "[I", Cond.fieldLink RX1 15 "FaultShrinker$RuleBook" "spared" "[I", Cond.methodLink RX2 38 yX2_makeStep, Cond.instanceMethod yX2_makeStep, Cond.selects RX2 yX2_makeStep yX2_makeStep, Cond.code yX2_makeStep cX2_makeStep 5 (some .boolean), Cond.methodLink RX2 74 Lib.Math.max.name, Cond.static Lib.Math.max.name, Cond.initialized "java/lang/Math", Cond.code Lib.Math.max.name Lib.Math.max.code 2 (some .int), Cond.methodLink RX2 79 Lib.Math.min.name, Cond.static Lib.Math.min.name, Cond.code Lib.Math.min.name Lib.Math.min.code 2 (some .int), Cond.methodLink RX2 22 yJ6_bitCount_0f7a4]
def wsX4_shrink_r4 : List Cond := [Cond.static yJ6_bitCount_0f7a4, Cond.initialized RJ6, Cond.code yJ6_bitCount_0f7a4 cJ6_bitCount_0f7a4 1 (some .int), Cond.constant RJ6 265 (1431655765), Cond.constant RJ6 266 (858993459), Cond.constant RJ6 267 (252645135), Cond.methodLink RX2 56 yX2_countPlaces, Cond.instanceMethod yX2_countPlaces, Cond.selects RX2 yX2_countPlaces yX2_countPlaces, Cond.code yX2_countPlaces cX2_countPlaces 4 none, Cond.fieldLink RX2 15 "FaultShrinker$Search" "firstPlaces" "[I", Cond.methodLink RX2 59 yX2_firstSpoiledPart, Cond.instanceMethod yX2_firstSpoiledPart, Cond.selects RX2 yX2_firstSpoiledPart yX2_firstSpoiledPart, Cond.code yX2_firstSpoiledPart cX2_firstSpoiledPart 4 (some .int), Cond.methodLink RX2 63 yX2_partAt, Cond.instanceMethod yX2_partAt, Cond.selects RX2 yX2_partAt yX2_partAt, Cond.code yX2_partAt cX2_partAt 5 (some .int), Cond.methodLink RX2 67 yX2_note, Cond.instanceMethod yX2_note, Cond.selects RX2 yX2_note yX2_note, Cond.code yX2_note cX2_note 6 none, Cond.fieldLink RX2 11 "FaultShrinker$Search" "facts" "[I"]
def wsX4_shrink_r5 : List Cond := [Cond.methodLink RX2 71 yX2_firstSparedPart, Cond.instanceMethod yX2_firstSparedPart, Cond.selects RX2 yX2_firstSparedPart yX2_firstSparedPart, Cond.code yX2_firstSparedPart cX2_firstSparedPart 4 (some .int), Cond.methodLink RX2 42 yX3_tastings, Cond.instanceMethod yX3_tastings, Cond.selects RX3 yX3_tastings yX3_tastings, Cond.code yX3_tastings cX3_tastings 1 (some .int), Cond.methodLink RX4 142 yX2_list, Cond.instanceMethod yX2_list, Cond.selects RX2 yX2_list yX2_list, Cond.code yX2_list cX2_list 1 (some .int), Cond.methodLink RX4 145 yX0_kindsOf, Cond.methodLink RX4 155 yX2_tastings, Cond.instanceMethod yX2_tastings, Cond.selects RX2 yX2_tastings yX2_tastings, Cond.code yX2_tastings cX2_tastings 1 (some .int)]
def wsX4_shrink : List Cond := .code yX4_shrink cX4_shrink 1 (some .int) :: ((wsX4_shrink_r1 ++ (wsX4_shrink_r2 ++ (wsX4_shrink_r3 ++ (wsX4_shrink_r4 ++ wsX4_shrink_r5)))) ++ wsX40 ++ wsX00 ++ wsX20 ++ wsX30 ++ wsX10)
def wsX4_kept : List Cond := .code yX4_kept cX4_kept 2 (some .int) :: ([.classLink RX4 46 "java/lang/IndexOutOfBoundsException", .initialized "java/lang/IndexOutOfBoundsException", .fieldLink RX4 35 "FaultShrinker" "keptSearch" "LFaultShrinker$Search;", .methodLink RX4 158 yX2_listSize, .instanceMethod yX2_listSize, .selects RX2 yX2_listSize yX2_listSize, .initialized RX2, .code yX2_listSize cX2_listSize 1 (some .int), .fieldLink RX2 18 "FaultShrinker$Search" "dish" "I", .methodLink RX2 22 yJ6_bitCount_0f7a4, .static yJ6_bitCount_0f7a4, .initialized RJ6, .code yJ6_bitCount_0f7a4 cJ6_bitCount_0f7a4 1 (some .int), .constant RJ6 265 (1431655765), .constant RJ6 266 (858993459), .constant RJ6 267 (252645135), .methodLink RX4 163 yX2_listPlace, .instanceMethod yX2_listPlace, .selects RX2 yX2_listPlace yX2_listPlace, .code yX2_listPlace cX2_listPlace 5 (some .int)] ++ wsX40 ++ wsX20 ++ (vx_atS RX4 50 "java/lang/IndexOutOfBoundsException" ["java/lang/RuntimeException", "java/lang/Exception"]).filter goodWord)
def wsX4_step : List Cond := .code yX4_step cX4_step 3 (some .int) :: ([.classLink RX4 46 "java/lang/IndexOutOfBoundsException", .initialized "java/lang/IndexOutOfBoundsException", .fieldLink RX4 35 "FaultShrinker" "keptSearch" "LFaultShrinker$Search;", .methodLink RX4 166 yX2_steps, .instanceMethod yX2_steps, .selects RX2 yX2_steps yX2_steps, .initialized RX2, .code yX2_steps cX2_steps 1 (some .int), .fieldLink RX2 28 "FaultShrinker$Search" "steps" "I", .methodLink RX4 171 yX2_stepFact, .instanceMethod yX2_stepFact, .selects RX2 yX2_stepFact yX2_stepFact, .code yX2_stepFact cX2_stepFact 4 (some .int), .fieldLink RX2 11 "FaultShrinker$Search" "facts" "[I"] ++ wsX40 ++ wsX20 ++ (vx_atS RX4 50 "java/lang/IndexOutOfBoundsException" ["java/lang/RuntimeException", "java/lang/Exception"]).filter goodWord)
def wsX4_countFact_r1 : List Cond := [Cond.fieldLink RX4 10 "FaultShrinker" "recipe" "LFaultShrinker$Recipe;", Cond.fieldLink RX4 19 "FaultShrinker" "rules" "LFaultShrinker$RuleBook;", Cond.fieldLink RX4 35 "FaultShrinker" "keptSearch" "LFaultShrinker$Search;", Cond.fieldLink RX4 152 "FaultShrinker" "keptTastings" "I", Cond.methodLink RX4 66 yX0_size, Cond.instanceMethod yX0_size, Cond.selects RX0 yX0_size yX0_size, Cond.initialized RX0, Cond.code yX0_size cX0_size 1 (some .int), Cond.fieldLink RX0 15 "FaultShrinker$Recipe" "size" "I", Cond.methodLink RX4 87 yX1_size, Cond.instanceMethod yX1_size, Cond.selects RX1 yX1_size yX1_size, Cond.initialized RX1, Cond.code yX1_size cX1_size 1 (some .int), Cond.fieldLink RX1 18 "FaultShrinker$RuleBook" "size" "I", Cond.methodLink RX4 135 yX0_wholeDish, Cond.instanceMethod yX0_wholeDish, Cond.selects RX0 yX0_wholeDish yX0_wholeDish, Cond.code yX0_wholeDish cX0_wholeDish 1 (some .int), Cond.methodLink RX4 145 yX0_kindsOf, Cond.instanceMethod yX0_kindsOf, Cond.selects RX0 yX0_kindsOf yX0_kindsOf, Cond.code yX0_kindsOf cX0_kindsOf 4 (some .int)]
def wsX4_countFact_r2 : List Cond := [Cond.fieldLink RX0 9 "FaultShrinker$Recipe" "kinds" "[I", Cond.methodLink RX4 208 yX1_holding, Cond.instanceMethod yX1_holding, Cond.selects RX1 yX1_holding yX1_holding, Cond.code yX1_holding cX1_holding 4 (some .int), Cond.methodLink RX1 30 yX1_holds, Cond.instanceMethod yX1_holds, Cond.selects RX1 yX1_holds yX1_holds, Cond.code yX1_holds cX1_holds 3 (some .boolean), Cond.fieldLink RX1 9 "FaultShrinker$RuleBook" "needed" "[I", Cond.fieldLink RX1 15 "FaultShrinker$RuleBook" "spared" "[I", Cond.methodLink RX4 158 yX2_listSize, Cond.instanceMethod yX2_listSize, Cond.selects RX2 yX2_listSize yX2_listSize, Cond.initialized RX2, Cond.code yX2_listSize cX2_listSize 1 (some .int), Cond.fieldLink RX2 18 "FaultShrinker$Search" "dish" "I", Cond.methodLink RX2 22 yJ6_bitCount_0f7a4, Cond.static yJ6_bitCount_0f7a4, Cond.initialized RJ6, Cond.code yJ6_bitCount_0f7a4 cJ6_bitCount_0f7a4 1 (some .int), Cond.constant RJ6 265 (1431655765), Cond.constant RJ6 266 (858993459), Cond.constant RJ6 267 (252645135)]
def wsX4_countFact_r3 : List Cond := [Cond.methodLink RX4 166 yX2_steps, Cond.instanceMethod yX2_steps, Cond.selects RX2 yX2_steps yX2_steps, Cond.code yX2_steps cX2_steps 1 (some .int), Cond.fieldLink RX2 28 "FaultShrinker$Search" "steps" "I", Cond.methodLink RX4 155 yX2_tastings, Cond.instanceMethod yX2_tastings, Cond.selects RX2 yX2_tastings yX2_tastings, Cond.code yX2_tastings cX2_tastings 1 (some .int), Cond.fieldLink RX2 31 "FaultShrinker$Search" "tastings" "I"]
def wsX4_countFact : List Cond := .code yX4_countFact cX4_countFact 2 (some .int) :: ((wsX4_countFact_r1 ++ (wsX4_countFact_r2 ++ wsX4_countFact_r3)) ++ wsX40 ++ wsX00 ++ wsX10 ++ wsX20)
def wsX4_count_r1 : List Cond := [Cond.classLink RX4 46 "java/lang/IndexOutOfBoundsException", Cond.initialized "java/lang/IndexOutOfBoundsException", Cond.methodLink RX4 176 yX4_countFact, Cond.instanceMethod yX4_countFact, Cond.selects RX4 yX4_countFact yX4_countFact, Cond.initialized RX4, Cond.code yX4_countFact cX4_countFact 2 (some .int), Cond.fieldLink RX4 10 "FaultShrinker" "recipe" "LFaultShrinker$Recipe;", Cond.fieldLink RX4 19 "FaultShrinker" "rules" "LFaultShrinker$RuleBook;", Cond.fieldLink RX4 35 "FaultShrinker" "keptSearch" "LFaultShrinker$Search;", Cond.fieldLink RX4 152 "FaultShrinker" "keptTastings" "I", Cond.methodLink RX4 66 yX0_size, Cond.instanceMethod yX0_size, Cond.selects RX0 yX0_size yX0_size, Cond.initialized RX0, Cond.code yX0_size cX0_size 1 (some .int), Cond.fieldLink RX0 15 "FaultShrinker$Recipe" "size" "I", Cond.methodLink RX4 87 yX1_size, Cond.instanceMethod yX1_size, Cond.selects RX1 yX1_size yX1_size, Cond.initialized RX1, Cond.code yX1_size cX1_size 1 (some .int), Cond.fieldLink RX1 18 "FaultShrinker$RuleBook" "size" "I", Cond.methodLink RX4 135 yX0_wholeDish]
def wsX4_count_r2 : List Cond := [Cond.instanceMethod yX0_wholeDish, Cond.selects RX0 yX0_wholeDish yX0_wholeDish, Cond.code yX0_wholeDish cX0_wholeDish 1 (some .int), Cond.methodLink RX4 145 yX0_kindsOf, Cond.instanceMethod yX0_kindsOf, Cond.selects RX0 yX0_kindsOf yX0_kindsOf, Cond.code yX0_kindsOf cX0_kindsOf 4 (some .int), Cond.fieldLink RX0 9 "FaultShrinker$Recipe" "kinds" "[I", Cond.methodLink RX4 208 yX1_holding, Cond.instanceMethod yX1_holding, Cond.selects RX1 yX1_holding yX1_holding, Cond.code yX1_holding cX1_holding 4 (some .int), Cond.methodLink RX1 30 yX1_holds, Cond.instanceMethod yX1_holds, Cond.selects RX1 yX1_holds yX1_holds, Cond.code yX1_holds cX1_holds 3 (some .boolean), Cond.fieldLink RX1 9 "FaultShrinker$RuleBook" "needed" "[I", Cond.fieldLink RX1 15 "FaultShrinker$RuleBook" "spared" "[I", Cond.methodLink RX4 158 yX2_listSize, Cond.instanceMethod yX2_listSize, Cond.selects RX2 yX2_listSize yX2_listSize, Cond.initialized RX2, Cond.code yX2_listSize cX2_listSize 1 (some .int), Cond.fieldLink RX2 18 "FaultShrinker$Search" "dish" "I"]
def wsX4_count_r3 : List Cond := [Cond.methodLink RX2 22 yJ6_bitCount_0f7a4, Cond.static yJ6_bitCount_0f7a4, Cond.initialized RJ6, Cond.code yJ6_bitCount_0f7a4 cJ6_bitCount_0f7a4 1 (some .int), Cond.constant RJ6 265 (1431655765), Cond.constant RJ6 266 (858993459), Cond.constant RJ6 267 (252645135), Cond.methodLink RX4 166 yX2_steps, Cond.instanceMethod yX2_steps, Cond.selects RX2 yX2_steps yX2_steps, Cond.code yX2_steps cX2_steps 1 (some .int), Cond.fieldLink RX2 28 "FaultShrinker$Search" "steps" "I", Cond.methodLink RX4 155 yX2_tastings, Cond.instanceMethod yX2_tastings, Cond.selects RX2 yX2_tastings yX2_tastings, Cond.code yX2_tastings cX2_tastings 1 (some .int), Cond.fieldLink RX2 31 "FaultShrinker$Search" "tastings" "I"]
def wsX4_count : List Cond := .code yX4_count cX4_count 2 (some .int) :: ((wsX4_count_r1 ++ (wsX4_count_r2 ++ wsX4_count_r3)) ++ wsX40 ++ wsX00 ++ wsX10 ++ wsX20 ++ (vx_atS RX4 50 "java/lang/IndexOutOfBoundsException" ["java/lang/RuntimeException", "java/lang/Exception"]).filter goodWord)
def wsX4_would_r1 : List Cond := [Cond.classLink RX4 46 "java/lang/IndexOutOfBoundsException", Cond.initialized "java/lang/IndexOutOfBoundsException", Cond.fieldLink RX4 39 "FaultShrinker" "trialSearch" "LFaultShrinker$Search;", Cond.fieldLink RX4 28 "FaultShrinker" "taster" "LFaultShrinker$Taster;", Cond.fieldLink RX4 10 "FaultShrinker" "recipe" "LFaultShrinker$Recipe;", Cond.methodLink RX4 135 yX0_wholeDish, Cond.instanceMethod yX0_wholeDish, Cond.selects RX0 yX0_wholeDish yX0_wholeDish, Cond.initialized RX0, Cond.code yX0_wholeDish cX0_wholeDish 1 (some .int), Cond.fieldLink RX0 15 "FaultShrinker$Recipe" "size" "I", Cond.methodLink RX4 138 yX2_goByHalves, Cond.instanceMethod yX2_goByHalves, Cond.selects RX2 yX2_goByHalves yX2_goByHalves, Cond.initialized RX2, Cond.code yX2_goByHalves cX2_goByHalves 5 none, Cond.fieldLink RX2 31 "FaultShrinker$Search" "tastings" "I", Cond.methodLink RX2 34 yX2_begin, Cond.instanceMethod yX2_begin, Cond.selects RX2 yX2_begin yX2_begin, Cond.code yX2_begin cX2_begin 4 (some .boolean), Cond.fieldLink RX2 18 "FaultShrinker$Search" "dish" "I", Cond.fieldLink RX2 53 "FaultShrinker$Search" "parts" "I", Cond.fieldLink RX2 28 "FaultShrinker$Search" "steps" "I"]
def wsX4_would_r2 : List Cond := [Cond.methodLink RX2 51 yX3_begin, Cond.instanceMethod yX3_begin, Cond.selects RX3 yX3_begin yX3_begin, Cond.initialized RX3, Cond.code yX3_begin cX3_begin 1 none, Cond.fieldLink RX3 23 "FaultShrinker$Taster" "search" "J", Cond.fieldLink RX3 27 "FaultShrinker$Taster" "tastings" "I", Cond.methodLink RX2 47 yX3_looksSpoiled, Cond.instanceMethod yX3_looksSpoiled, Cond.selects RX3 yX3_looksSpoiled yX3_looksSpoiled, Cond.code yX3_looksSpoiled cX3_looksSpoiled 2 (some .boolean), Cond.fieldLink RX3 19 "FaultShrinker$Taster" "rules" "LFaultShrinker$RuleBook;", Cond.fieldLink RX3 15 "FaultShrinker$Taster" "recipe" "LFaultShrinker$Recipe;", Cond.methodLink RX3 31 yX3_learn, Cond.instanceMethod yX3_learn, Cond.selects RX3 yX3_learn yX3_learn, Cond.code yX3_learn cX3_learn 7 (some .boolean), Cond.constant RX3 46 (-1640531535), Cond.fieldLink RX3 11 "FaultShrinker$Taster" "known" "[J", Cond.methodLink RX3 35 yX0_kindsOf, Cond.instanceMethod yX0_kindsOf, Cond.selects RX0 yX0_kindsOf yX0_kindsOf, Cond.code yX0_kindsOf cX0_kindsOf 4 (some .int), Cond.fieldLink RX0 9 "FaultShrinker$Recipe" "kinds" "[I"]
def wsX4_would_r3 : List Cond := [Cond.methodLink RX3 41 yX1_holding, Cond.instanceMethod yX1_holding, Cond.selects RX1 yX1_holding yX1_holding, Cond.initialized RX1, Cond.code yX1_holding cX1_holding 4 (some .int), Cond.fieldLink RX1 18 "FaultShrinker$RuleBook" "size" "I", Cond.methodLink RX1 30 yX1_holds, Cond.instanceMethod yX1_holds, Cond.selects RX1 yX1_holds yX1_holds, Cond.code yX1_holds cX1_holds 3 (some .boolean), Cond.fieldLink RX1 9 "FaultShrinker$RuleBook" "needed" "[I", Cond.fieldLink RX1 15 "FaultShrinker$RuleBook" "spared" "[I", Cond.methodLink RX2 38 yX2_makeStep, Cond.instanceMethod yX2_makeStep, Cond.selects RX2 yX2_makeStep yX2_makeStep, Cond.code yX2_makeStep cX2_makeStep 5 (some .boolean), Cond.methodLink RX2 74 Lib.Math.max.name, Cond.static Lib.Math.max.name, Cond.initialized "java/lang/Math", Cond.code Lib.Math.max.name Lib.Math.max.code 2 (some .int), Cond.methodLink RX2 79 Lib.Math.min.name, Cond.static Lib.Math.min.name, Cond.code Lib.Math.min.name Lib.Math.min.code 2 (some .int), Cond.methodLink RX2 22 yJ6_bitCount_0f7a4]
def wsX4_would_r4 : List Cond := [Cond.static yJ6_bitCount_0f7a4, Cond.initialized RJ6, Cond.code yJ6_bitCount_0f7a4 cJ6_bitCount_0f7a4 1 (some .int), Cond.constant RJ6 265 (1431655765), Cond.constant RJ6 266 (858993459), Cond.constant RJ6 267 (252645135), Cond.methodLink RX2 56 yX2_countPlaces, Cond.instanceMethod yX2_countPlaces, Cond.selects RX2 yX2_countPlaces yX2_countPlaces, Cond.code yX2_countPlaces cX2_countPlaces 4 none, Cond.fieldLink RX2 15 "FaultShrinker$Search" "firstPlaces" "[I", Cond.methodLink RX2 59 yX2_firstSpoiledPart, Cond.instanceMethod yX2_firstSpoiledPart, Cond.selects RX2 yX2_firstSpoiledPart yX2_firstSpoiledPart, Cond.code yX2_firstSpoiledPart cX2_firstSpoiledPart 4 (some .int), Cond.methodLink RX2 63 yX2_partAt, Cond.instanceMethod yX2_partAt, Cond.selects RX2 yX2_partAt yX2_partAt, Cond.code yX2_partAt cX2_partAt 5 (some .int), Cond.methodLink RX2 67 yX2_note, Cond.instanceMethod yX2_note, Cond.selects RX2 yX2_note yX2_note, Cond.code yX2_note cX2_note 6 none, Cond.fieldLink RX2 11 "FaultShrinker$Search" "facts" "[I"]
def wsX4_would_r5 : List Cond := [Cond.methodLink RX2 71 yX2_firstSparedPart, Cond.instanceMethod yX2_firstSparedPart, Cond.selects RX2 yX2_firstSparedPart yX2_firstSparedPart, Cond.code yX2_firstSparedPart cX2_firstSparedPart 4 (some .int), Cond.methodLink RX2 42 yX3_tastings, Cond.instanceMethod yX3_tastings, Cond.selects RX3 yX3_tastings yX3_tastings, Cond.code yX3_tastings cX3_tastings 1 (some .int), Cond.methodLink RX4 181 yX2_goOneByOne, Cond.instanceMethod yX2_goOneByOne, Cond.selects RX2 yX2_goOneByOne yX2_goOneByOne, Cond.code yX2_goOneByOne cX2_goOneByOne 6 none, Cond.methodLink RX4 142 yX2_list, Cond.instanceMethod yX2_list, Cond.selects RX2 yX2_list yX2_list, Cond.code yX2_list cX2_list 1 (some .int), Cond.methodLink RX4 166 yX2_steps, Cond.instanceMethod yX2_steps, Cond.selects RX2 yX2_steps yX2_steps, Cond.code yX2_steps cX2_steps 1 (some .int), Cond.methodLink RX4 155 yX2_tastings, Cond.instanceMethod yX2_tastings, Cond.selects RX2 yX2_tastings yX2_tastings, Cond.code yX2_tastings cX2_tastings 1 (some .int)]
def wsX4_would : List Cond := .code yX4_would cX4_would 2 (some .int) :: ((wsX4_would_r1 ++ (wsX4_would_r2 ++ (wsX4_would_r3 ++ (wsX4_would_r4 ++ wsX4_would_r5)))) ++ wsX40 ++ wsX00 ++ wsX20 ++ wsX30 ++ wsX10 ++ (vx_atS RX4 50 "java/lang/IndexOutOfBoundsException" ["java/lang/RuntimeException", "java/lang/Exception"]).filter goodWord)
def wsX4_least_r1 : List Cond := [Cond.fieldLink RX4 19 "FaultShrinker" "rules" "LFaultShrinker$RuleBook;", Cond.fieldLink RX4 10 "FaultShrinker" "recipe" "LFaultShrinker$Recipe;", Cond.methodLink RX4 135 yX0_wholeDish, Cond.instanceMethod yX0_wholeDish, Cond.selects RX0 yX0_wholeDish yX0_wholeDish, Cond.initialized RX0, Cond.code yX0_wholeDish cX0_wholeDish 1 (some .int), Cond.fieldLink RX0 15 "FaultShrinker$Recipe" "size" "I", Cond.methodLink RX4 145 yX0_kindsOf, Cond.instanceMethod yX0_kindsOf, Cond.selects RX0 yX0_kindsOf yX0_kindsOf, Cond.code yX0_kindsOf cX0_kindsOf 4 (some .int), Cond.fieldLink RX0 9 "FaultShrinker$Recipe" "kinds" "[I", Cond.methodLink RX4 184 yX1_leastNeeded, Cond.instanceMethod yX1_leastNeeded, Cond.selects RX1 yX1_leastNeeded yX1_leastNeeded, Cond.initialized RX1, Cond.code yX1_leastNeeded cX1_leastNeeded 6 (some .int), Cond.fieldLink RX1 18 "FaultShrinker$RuleBook" "size" "I", Cond.fieldLink RX1 9 "FaultShrinker$RuleBook" "needed" "[I", Cond.methodLink RX1 34 yJ6_bitCount_0f7a4, Cond.static yJ6_bitCount_0f7a4, Cond.initialized RJ6, Cond.code yJ6_bitCount_0f7a4 cJ6_bitCount_0f7a4 1 (some .int)]
def wsX4_least_r2 : List Cond := [Cond.constant RJ6 265 (1431655765), Cond.constant RJ6 266 (858993459), Cond.constant RJ6 267 (252645135)]
def wsX4_least : List Cond := .code yX4_least cX4_least 1 (some .int) :: ((wsX4_least_r1 ++ wsX4_least_r2) ++ wsX40 ++ wsX00 ++ wsX10)
def wsX4_isTight_r1 : List Cond := [Cond.classLink RX4 127 "java/lang/IllegalArgumentException", Cond.initialized "java/lang/IllegalArgumentException", Cond.fieldLink RX4 10 "FaultShrinker" "recipe" "LFaultShrinker$Recipe;", Cond.methodLink RX4 124 yX0_hasDish, Cond.instanceMethod yX0_hasDish, Cond.selects RX0 yX0_hasDish yX0_hasDish, Cond.initialized RX0, Cond.code yX0_hasDish cX0_hasDish 2 (some .boolean), Cond.fieldLink RX0 15 "FaultShrinker$Recipe" "size" "I", Cond.methodLink RX4 132 yX4_isSpoiled, Cond.instanceMethod yX4_isSpoiled, Cond.selects RX4 yX4_isSpoiled yX4_isSpoiled, Cond.initialized RX4, Cond.code yX4_isSpoiled cX4_isSpoiled 2 (some .boolean), Cond.fieldLink RX4 19 "FaultShrinker" "rules" "LFaultShrinker$RuleBook;", Cond.methodLink RX4 145 yX0_kindsOf, Cond.instanceMethod yX0_kindsOf, Cond.selects RX0 yX0_kindsOf yX0_kindsOf, Cond.code yX0_kindsOf cX0_kindsOf 4 (some .int), Cond.fieldLink RX0 9 "FaultShrinker$Recipe" "kinds" "[I", Cond.methodLink RX4 208 yX1_holding, Cond.instanceMethod yX1_holding, Cond.selects RX1 yX1_holding yX1_holding, Cond.initialized RX1]
def wsX4_isTight_r2 : List Cond := [Cond.code yX1_holding cX1_holding 4 (some .int), Cond.fieldLink RX1 18 "FaultShrinker$RuleBook" "size" "I", Cond.methodLink RX1 30 yX1_holds, Cond.instanceMethod yX1_holds, Cond.selects RX1 yX1_holds yX1_holds, Cond.code yX1_holds cX1_holds 3 (some .boolean), Cond.fieldLink RX1 9 "FaultShrinker$RuleBook" "needed" "[I", Cond.fieldLink RX1 15 "FaultShrinker$RuleBook" "spared" "[I", Cond.methodLink RX4 96 yX4_hasBit, Cond.static yX4_hasBit, Cond.code yX4_hasBit cX4_hasBit 2 (some .boolean), Cond.methodLink RX4 105 yX4_withBit, Cond.static yX4_withBit, Cond.code yX4_withBit cX4_withBit 3 (some .int)]
def wsX4_isTight : List Cond := .code yX4_isTight cX4_isTight 3 (some .boolean) :: ((wsX4_isTight_r1 ++ wsX4_isTight_r2) ++ wsX40 ++ wsX00 ++ wsX10 ++ (vx_atS RX4 131 "java/lang/IllegalArgumentException" ["java/lang/RuntimeException", "java/lang/Exception"]).filter goodWord)
def wsX4_advise_r1 : List Cond := [Cond.fieldLink RX4 10 "FaultShrinker" "recipe" "LFaultShrinker$Recipe;", Cond.fieldLink RX4 39 "FaultShrinker" "trialSearch" "LFaultShrinker$Search;", Cond.fieldLink RX4 28 "FaultShrinker" "taster" "LFaultShrinker$Taster;", Cond.methodLink RX4 66 yX0_size, Cond.instanceMethod yX0_size, Cond.selects RX0 yX0_size yX0_size, Cond.initialized RX0, Cond.code yX0_size cX0_size 1 (some .int), Cond.fieldLink RX0 15 "FaultShrinker$Recipe" "size" "I", Cond.methodLink RX4 135 yX0_wholeDish, Cond.instanceMethod yX0_wholeDish, Cond.selects RX0 yX0_wholeDish yX0_wholeDish, Cond.code yX0_wholeDish cX0_wholeDish 1 (some .int), Cond.methodLink RX4 105 yX4_withBit, Cond.static yX4_withBit, Cond.initialized RX4, Cond.code yX4_withBit cX4_withBit 3 (some .int), Cond.methodLink RX4 138 yX2_goByHalves, Cond.instanceMethod yX2_goByHalves, Cond.selects RX2 yX2_goByHalves yX2_goByHalves, Cond.initialized RX2, Cond.code yX2_goByHalves cX2_goByHalves 5 none, Cond.fieldLink RX2 31 "FaultShrinker$Search" "tastings" "I", Cond.methodLink RX2 34 yX2_begin]
def wsX4_advise_r2 : List Cond := [Cond.instanceMethod yX2_begin, Cond.selects RX2 yX2_begin yX2_begin, Cond.code yX2_begin cX2_begin 4 (some .boolean), Cond.fieldLink RX2 18 "FaultShrinker$Search" "dish" "I", Cond.fieldLink RX2 53 "FaultShrinker$Search" "parts" "I", Cond.fieldLink RX2 28 "FaultShrinker$Search" "steps" "I", Cond.methodLink RX2 51 yX3_begin, Cond.instanceMethod yX3_begin, Cond.selects RX3 yX3_begin yX3_begin, Cond.initialized RX3, Cond.code yX3_begin cX3_begin 1 none, Cond.fieldLink RX3 23 "FaultShrinker$Taster" "search" "J", Cond.fieldLink RX3 27 "FaultShrinker$Taster" "tastings" "I", Cond.methodLink RX2 47 yX3_looksSpoiled, Cond.instanceMethod yX3_looksSpoiled, Cond.selects RX3 yX3_looksSpoiled yX3_looksSpoiled, Cond.code yX3_looksSpoiled cX3_looksSpoiled 2 (some .boolean), Cond.fieldLink RX3 19 "FaultShrinker$Taster" "rules" "LFaultShrinker$RuleBook;", Cond.fieldLink RX3 15 "FaultShrinker$Taster" "recipe" "LFaultShrinker$Recipe;", Cond.methodLink RX3 31 yX3_learn, Cond.instanceMethod yX3_learn, Cond.selects RX3 yX3_learn yX3_learn, Cond.code yX3_learn cX3_learn 7 (some .boolean), Cond.constant RX3 46 (-1640531535)]
def wsX4_advise_r3 : List Cond := [Cond.fieldLink RX3 11 "FaultShrinker$Taster" "known" "[J", Cond.methodLink RX3 35 yX0_kindsOf, Cond.instanceMethod yX0_kindsOf, Cond.selects RX0 yX0_kindsOf yX0_kindsOf, Cond.code yX0_kindsOf cX0_kindsOf 4 (some .int), Cond.fieldLink RX0 9 "FaultShrinker$Recipe" "kinds" "[I", Cond.methodLink RX3 41 yX1_holding, Cond.instanceMethod yX1_holding, Cond.selects RX1 yX1_holding yX1_holding, Cond.initialized RX1, Cond.code yX1_holding cX1_holding 4 (some .int), Cond.fieldLink RX1 18 "FaultShrinker$RuleBook" "size" "I", Cond.methodLink RX1 30 yX1_holds, Cond.instanceMethod yX1_holds, Cond.selects RX1 yX1_holds yX1_holds, Cond.code yX1_holds cX1_holds 3 (some .boolean), Cond.fieldLink RX1 9 "FaultShrinker$RuleBook" "needed" "[I", Cond.fieldLink RX1 15 "FaultShrinker$RuleBook" "spared" "[I", Cond.methodLink RX2 38 yX2_makeStep, Cond.instanceMethod yX2_makeStep, Cond.selects RX2 yX2_makeStep yX2_makeStep, Cond.code yX2_makeStep cX2_makeStep 5 (some .boolean), Cond.methodLink RX2 74 Lib.Math.max.name, Cond.static Lib.Math.max.name]
def wsX4_advise_r4 : List Cond := [Cond.initialized "java/lang/Math", Cond.code Lib.Math.max.name Lib.Math.max.code 2 (some .int), Cond.methodLink RX2 79 Lib.Math.min.name, Cond.static Lib.Math.min.name, Cond.code Lib.Math.min.name Lib.Math.min.code 2 (some .int), Cond.methodLink RX2 22 yJ6_bitCount_0f7a4, Cond.static yJ6_bitCount_0f7a4, Cond.initialized RJ6, Cond.code yJ6_bitCount_0f7a4 cJ6_bitCount_0f7a4 1 (some .int), Cond.constant RJ6 265 (1431655765), Cond.constant RJ6 266 (858993459), Cond.constant RJ6 267 (252645135), Cond.methodLink RX2 56 yX2_countPlaces, Cond.instanceMethod yX2_countPlaces, Cond.selects RX2 yX2_countPlaces yX2_countPlaces, Cond.code yX2_countPlaces cX2_countPlaces 4 none, Cond.fieldLink RX2 15 "FaultShrinker$Search" "firstPlaces" "[I", Cond.methodLink RX2 59 yX2_firstSpoiledPart, Cond.instanceMethod yX2_firstSpoiledPart, Cond.selects RX2 yX2_firstSpoiledPart yX2_firstSpoiledPart, Cond.code yX2_firstSpoiledPart cX2_firstSpoiledPart 4 (some .int), Cond.methodLink RX2 63 yX2_partAt, Cond.instanceMethod yX2_partAt, Cond.selects RX2 yX2_partAt yX2_partAt]
def wsX4_advise_r5 : List Cond := [Cond.code yX2_partAt cX2_partAt 5 (some .int), Cond.methodLink RX2 67 yX2_note, Cond.instanceMethod yX2_note, Cond.selects RX2 yX2_note yX2_note, Cond.code yX2_note cX2_note 6 none, Cond.fieldLink RX2 11 "FaultShrinker$Search" "facts" "[I", Cond.methodLink RX2 71 yX2_firstSparedPart, Cond.instanceMethod yX2_firstSparedPart, Cond.selects RX2 yX2_firstSparedPart yX2_firstSparedPart, Cond.code yX2_firstSparedPart cX2_firstSparedPart 4 (some .int), Cond.methodLink RX2 42 yX3_tastings, Cond.instanceMethod yX3_tastings, Cond.selects RX3 yX3_tastings yX3_tastings, Cond.code yX3_tastings cX3_tastings 1 (some .int), Cond.methodLink RX4 155 yX2_tastings, Cond.instanceMethod yX2_tastings, Cond.selects RX2 yX2_tastings yX2_tastings, Cond.code yX2_tastings cX2_tastings 1 (some .int)]
def wsX4_advise : List Cond := .code yX4_advise cX4_advise 4 (some .int) :: ((wsX4_advise_r1 ++ (wsX4_advise_r2 ++ (wsX4_advise_r3 ++ (wsX4_advise_r4 ++ wsX4_advise_r5)))) ++ wsX40 ++ wsX00 ++ wsX20 ++ wsX30 ++ wsX10)
def wsX4_mean : List Cond := .code yX4_mean cX4_mean 4 (some .double) :: ([.fieldLink RX4 19 "FaultShrinker" "rules" "LFaultShrinker$RuleBook;", .methodLink RX4 87 yX1_size, .instanceMethod yX1_size, .selects RX1 yX1_size yX1_size, .initialized RX1, .code yX1_size cX1_size 1 (some .int), .fieldLink RX1 18 "FaultShrinker$RuleBook" "size" "I", .methodLink RX4 102 yX1_neededBy, .instanceMethod yX1_neededBy, .selects RX1 yX1_neededBy yX1_neededBy, .code yX1_neededBy cX1_neededBy 2 (some .int), .fieldLink RX1 9 "FaultShrinker$RuleBook" "needed" "[I", .methodLink RX1 26 yX1_hasRule, .instanceMethod yX1_hasRule, .selects RX1 yX1_hasRule yX1_hasRule, .code yX1_hasRule cX1_hasRule 2 (some .boolean), .methodLink RX4 187 yJ6_bitCount_0f7a4, .static yJ6_bitCount_0f7a4, .initialized RJ6, .code yJ6_bitCount_0f7a4 cJ6_bitCount_0f7a4 1 (some .int), .constant RJ6 265 (1431655765), .constant RJ6 266 (858993459), .constant RJ6 267 (252645135)] ++ wsX40 ++ wsX10)
def wsX4_mixed : List Cond := .code yX4_mixed cX4_mixed 4 (some .long) :: ([.constantLong RX4 211 (31)])
def wsX4_digestState_r1 : List Cond := [Cond.fieldLink RX4 10 "FaultShrinker" "recipe" "LFaultShrinker$Recipe;", Cond.fieldLink RX4 19 "FaultShrinker" "rules" "LFaultShrinker$RuleBook;", Cond.methodLink RX4 176 yX4_countFact, Cond.instanceMethod yX4_countFact, Cond.selects RX4 yX4_countFact yX4_countFact, Cond.initialized RX4, Cond.code yX4_countFact cX4_countFact 2 (some .int), Cond.fieldLink RX4 35 "FaultShrinker" "keptSearch" "LFaultShrinker$Search;", Cond.fieldLink RX4 152 "FaultShrinker" "keptTastings" "I", Cond.methodLink RX4 66 yX0_size, Cond.instanceMethod yX0_size, Cond.selects RX0 yX0_size yX0_size, Cond.initialized RX0, Cond.code yX0_size cX0_size 1 (some .int), Cond.fieldLink RX0 15 "FaultShrinker$Recipe" "size" "I", Cond.methodLink RX4 87 yX1_size, Cond.instanceMethod yX1_size, Cond.selects RX1 yX1_size yX1_size, Cond.initialized RX1, Cond.code yX1_size cX1_size 1 (some .int), Cond.fieldLink RX1 18 "FaultShrinker$RuleBook" "size" "I", Cond.methodLink RX4 135 yX0_wholeDish, Cond.instanceMethod yX0_wholeDish, Cond.selects RX0 yX0_wholeDish yX0_wholeDish]
def wsX4_digestState_r2 : List Cond := [Cond.code yX0_wholeDish cX0_wholeDish 1 (some .int), Cond.methodLink RX4 145 yX0_kindsOf, Cond.instanceMethod yX0_kindsOf, Cond.selects RX0 yX0_kindsOf yX0_kindsOf, Cond.code yX0_kindsOf cX0_kindsOf 4 (some .int), Cond.fieldLink RX0 9 "FaultShrinker$Recipe" "kinds" "[I", Cond.methodLink RX4 208 yX1_holding, Cond.instanceMethod yX1_holding, Cond.selects RX1 yX1_holding yX1_holding, Cond.code yX1_holding cX1_holding 4 (some .int), Cond.methodLink RX1 30 yX1_holds, Cond.instanceMethod yX1_holds, Cond.selects RX1 yX1_holds yX1_holds, Cond.code yX1_holds cX1_holds 3 (some .boolean), Cond.fieldLink RX1 9 "FaultShrinker$RuleBook" "needed" "[I", Cond.fieldLink RX1 15 "FaultShrinker$RuleBook" "spared" "[I", Cond.methodLink RX4 158 yX2_listSize, Cond.instanceMethod yX2_listSize, Cond.selects RX2 yX2_listSize yX2_listSize, Cond.initialized RX2, Cond.code yX2_listSize cX2_listSize 1 (some .int), Cond.fieldLink RX2 18 "FaultShrinker$Search" "dish" "I", Cond.methodLink RX2 22 yJ6_bitCount_0f7a4, Cond.static yJ6_bitCount_0f7a4]
def wsX4_digestState_r3 : List Cond := [Cond.initialized RJ6, Cond.code yJ6_bitCount_0f7a4 cJ6_bitCount_0f7a4 1 (some .int), Cond.constant RJ6 265 (1431655765), Cond.constant RJ6 266 (858993459), Cond.constant RJ6 267 (252645135), Cond.methodLink RX4 166 yX2_steps, Cond.instanceMethod yX2_steps, Cond.selects RX2 yX2_steps yX2_steps, Cond.code yX2_steps cX2_steps 1 (some .int), Cond.fieldLink RX2 28 "FaultShrinker$Search" "steps" "I", Cond.methodLink RX4 155 yX2_tastings, Cond.instanceMethod yX2_tastings, Cond.selects RX2 yX2_tastings yX2_tastings, Cond.code yX2_tastings cX2_tastings 1 (some .int), Cond.fieldLink RX2 31 "FaultShrinker$Search" "tastings" "I", Cond.methodLink RX4 201 yX4_mixed, Cond.static yX4_mixed, Cond.code yX4_mixed cX4_mixed 4 (some .long), Cond.constantLong RX4 211 (31), Cond.methodLink RX4 75 yX0_kindAt, Cond.instanceMethod yX0_kindAt, Cond.selects RX0 yX0_kindAt yX0_kindAt, Cond.code yX0_kindAt cX0_kindAt 2 (some .int), Cond.methodLink RX0 19 yX0_hasPlace]
def wsX4_digestState_r4 : List Cond := [Cond.instanceMethod yX0_hasPlace, Cond.selects RX0 yX0_hasPlace yX0_hasPlace, Cond.code yX0_hasPlace cX0_hasPlace 2 (some .boolean), Cond.methodLink RX4 120 yX4_ruleFact, Cond.instanceMethod yX4_ruleFact, Cond.selects RX4 yX4_ruleFact yX4_ruleFact, Cond.code yX4_ruleFact cX4_ruleFact 3 (some .int), Cond.fieldLink RX4 148 "FaultShrinker" "keptListKinds" "I", Cond.methodLink RX4 102 yX1_neededBy, Cond.instanceMethod yX1_neededBy, Cond.selects RX1 yX1_neededBy yX1_neededBy, Cond.code yX1_neededBy cX1_neededBy 2 (some .int), Cond.methodLink RX1 26 yX1_hasRule, Cond.instanceMethod yX1_hasRule, Cond.selects RX1 yX1_hasRule yX1_hasRule, Cond.code yX1_hasRule cX1_hasRule 2 (some .boolean), Cond.methodLink RX4 93 yX1_sparedBy, Cond.instanceMethod yX1_sparedBy, Cond.selects RX1 yX1_sparedBy yX1_sparedBy, Cond.code yX1_sparedBy cX1_sparedBy 2 (some .int), Cond.methodLink RX4 187 yJ6_bitCount_0f7a4, Cond.methodLink RX4 205 yX1_holds]
def wsX4_digestState : List Cond := .code yX4_digestState cX4_digestState 7 (some .long) :: ((wsX4_digestState_r1 ++ (wsX4_digestState_r2 ++ (wsX4_digestState_r3 ++ wsX4_digestState_r4))) ++ wsX40 ++ wsX00 ++ wsX10 ++ wsX20)
def wsX4_digestKept_r1 : List Cond := [Cond.fieldLink RX4 35 "FaultShrinker" "keptSearch" "LFaultShrinker$Search;", Cond.methodLink RX4 158 yX2_listSize, Cond.instanceMethod yX2_listSize, Cond.selects RX2 yX2_listSize yX2_listSize, Cond.initialized RX2, Cond.code yX2_listSize cX2_listSize 1 (some .int), Cond.fieldLink RX2 18 "FaultShrinker$Search" "dish" "I", Cond.methodLink RX2 22 yJ6_bitCount_0f7a4, Cond.static yJ6_bitCount_0f7a4, Cond.initialized RJ6, Cond.code yJ6_bitCount_0f7a4 cJ6_bitCount_0f7a4 1 (some .int), Cond.constant RJ6 265 (1431655765), Cond.constant RJ6 266 (858993459), Cond.constant RJ6 267 (252645135), Cond.methodLink RX4 163 yX2_listPlace, Cond.instanceMethod yX2_listPlace, Cond.selects RX2 yX2_listPlace yX2_listPlace, Cond.code yX2_listPlace cX2_listPlace 5 (some .int), Cond.methodLink RX4 201 yX4_mixed, Cond.static yX4_mixed, Cond.initialized RX4, Cond.code yX4_mixed cX4_mixed 4 (some .long), Cond.constantLong RX4 211 (31), Cond.methodLink RX4 166 yX2_steps]
def wsX4_digestKept_r2 : List Cond := [Cond.instanceMethod yX2_steps, Cond.selects RX2 yX2_steps yX2_steps, Cond.code yX2_steps cX2_steps 1 (some .int), Cond.fieldLink RX2 28 "FaultShrinker$Search" "steps" "I", Cond.methodLink RX4 171 yX2_stepFact, Cond.instanceMethod yX2_stepFact, Cond.selects RX2 yX2_stepFact yX2_stepFact, Cond.code yX2_stepFact cX2_stepFact 4 (some .int), Cond.fieldLink RX2 11 "FaultShrinker$Search" "facts" "[I"]
def wsX4_digestKept : List Cond := .code yX4_digestKept cX4_digestKept 7 (some .long) :: ((wsX4_digestKept_r1 ++ wsX4_digestKept_r2) ++ wsX40 ++ wsX20)
def wsX4_digest_r1 : List Cond := [Cond.constantLong RX4 192 (1499), Cond.fieldLink RX4 39 "FaultShrinker" "trialSearch" "LFaultShrinker$Search;", Cond.fieldLink RX4 28 "FaultShrinker" "taster" "LFaultShrinker$Taster;", Cond.fieldLink RX4 10 "FaultShrinker" "recipe" "LFaultShrinker$Recipe;", Cond.fieldLink RX4 19 "FaultShrinker" "rules" "LFaultShrinker$RuleBook;", Cond.methodLink RX4 194 yX4_digestState, Cond.instanceMethod yX4_digestState, Cond.selects RX4 yX4_digestState yX4_digestState, Cond.initialized RX4, Cond.code yX4_digestState cX4_digestState 7 (some .long), Cond.methodLink RX4 176 yX4_countFact, Cond.instanceMethod yX4_countFact, Cond.selects RX4 yX4_countFact yX4_countFact, Cond.code yX4_countFact cX4_countFact 2 (some .int), Cond.fieldLink RX4 35 "FaultShrinker" "keptSearch" "LFaultShrinker$Search;", Cond.fieldLink RX4 152 "FaultShrinker" "keptTastings" "I", Cond.methodLink RX4 66 yX0_size, Cond.instanceMethod yX0_size, Cond.selects RX0 yX0_size yX0_size, Cond.initialized RX0, Cond.code yX0_size cX0_size 1 (some .int), Cond.fieldLink RX0 15 "FaultShrinker$Recipe" "size" "I", Cond.methodLink RX4 87 yX1_size, Cond.instanceMethod yX1_size]
def wsX4_digest_r2 : List Cond := [Cond.selects RX1 yX1_size yX1_size, Cond.initialized RX1, Cond.code yX1_size cX1_size 1 (some .int), Cond.fieldLink RX1 18 "FaultShrinker$RuleBook" "size" "I", Cond.methodLink RX4 135 yX0_wholeDish, Cond.instanceMethod yX0_wholeDish, Cond.selects RX0 yX0_wholeDish yX0_wholeDish, Cond.code yX0_wholeDish cX0_wholeDish 1 (some .int), Cond.methodLink RX4 145 yX0_kindsOf, Cond.instanceMethod yX0_kindsOf, Cond.selects RX0 yX0_kindsOf yX0_kindsOf, Cond.code yX0_kindsOf cX0_kindsOf 4 (some .int), Cond.fieldLink RX0 9 "FaultShrinker$Recipe" "kinds" "[I", Cond.methodLink RX4 208 yX1_holding, Cond.instanceMethod yX1_holding, Cond.selects RX1 yX1_holding yX1_holding, Cond.code yX1_holding cX1_holding 4 (some .int), Cond.methodLink RX1 30 yX1_holds, Cond.instanceMethod yX1_holds, Cond.selects RX1 yX1_holds yX1_holds, Cond.code yX1_holds cX1_holds 3 (some .boolean), Cond.fieldLink RX1 9 "FaultShrinker$RuleBook" "needed" "[I", Cond.fieldLink RX1 15 "FaultShrinker$RuleBook" "spared" "[I", Cond.methodLink RX4 158 yX2_listSize]
def wsX4_digest_r3 : List Cond := [Cond.instanceMethod yX2_listSize, Cond.selects RX2 yX2_listSize yX2_listSize, Cond.initialized RX2, Cond.code yX2_listSize cX2_listSize 1 (some .int), Cond.fieldLink RX2 18 "FaultShrinker$Search" "dish" "I", Cond.methodLink RX2 22 yJ6_bitCount_0f7a4, Cond.static yJ6_bitCount_0f7a4, Cond.initialized RJ6, Cond.code yJ6_bitCount_0f7a4 cJ6_bitCount_0f7a4 1 (some .int), Cond.constant RJ6 265 (1431655765), Cond.constant RJ6 266 (858993459), Cond.constant RJ6 267 (252645135), Cond.methodLink RX4 166 yX2_steps, Cond.instanceMethod yX2_steps, Cond.selects RX2 yX2_steps yX2_steps, Cond.code yX2_steps cX2_steps 1 (some .int), Cond.fieldLink RX2 28 "FaultShrinker$Search" "steps" "I", Cond.methodLink RX4 155 yX2_tastings, Cond.instanceMethod yX2_tastings, Cond.selects RX2 yX2_tastings yX2_tastings, Cond.code yX2_tastings cX2_tastings 1 (some .int), Cond.fieldLink RX2 31 "FaultShrinker$Search" "tastings" "I", Cond.methodLink RX4 201 yX4_mixed, Cond.static yX4_mixed]
def wsX4_digest_r4 : List Cond := [Cond.code yX4_mixed cX4_mixed 4 (some .long), Cond.constantLong RX4 211 (31), Cond.methodLink RX4 75 yX0_kindAt, Cond.instanceMethod yX0_kindAt, Cond.selects RX0 yX0_kindAt yX0_kindAt, Cond.code yX0_kindAt cX0_kindAt 2 (some .int), Cond.methodLink RX0 19 yX0_hasPlace, Cond.instanceMethod yX0_hasPlace, Cond.selects RX0 yX0_hasPlace yX0_hasPlace, Cond.code yX0_hasPlace cX0_hasPlace 2 (some .boolean), Cond.methodLink RX4 120 yX4_ruleFact, Cond.instanceMethod yX4_ruleFact, Cond.selects RX4 yX4_ruleFact yX4_ruleFact, Cond.code yX4_ruleFact cX4_ruleFact 3 (some .int), Cond.fieldLink RX4 148 "FaultShrinker" "keptListKinds" "I", Cond.methodLink RX4 102 yX1_neededBy, Cond.instanceMethod yX1_neededBy, Cond.selects RX1 yX1_neededBy yX1_neededBy, Cond.code yX1_neededBy cX1_neededBy 2 (some .int), Cond.methodLink RX1 26 yX1_hasRule, Cond.instanceMethod yX1_hasRule, Cond.selects RX1 yX1_hasRule yX1_hasRule, Cond.code yX1_hasRule cX1_hasRule 2 (some .boolean), Cond.methodLink RX4 93 yX1_sparedBy]
def wsX4_digest_r5 : List Cond := [Cond.instanceMethod yX1_sparedBy, Cond.selects RX1 yX1_sparedBy yX1_sparedBy, Cond.code yX1_sparedBy cX1_sparedBy 2 (some .int), Cond.methodLink RX4 187 yJ6_bitCount_0f7a4, Cond.methodLink RX4 205 yX1_holds, Cond.methodLink RX4 198 yX4_digestKept, Cond.instanceMethod yX4_digestKept, Cond.selects RX4 yX4_digestKept yX4_digestKept, Cond.code yX4_digestKept cX4_digestKept 7 (some .long), Cond.methodLink RX4 163 yX2_listPlace, Cond.instanceMethod yX2_listPlace, Cond.selects RX2 yX2_listPlace yX2_listPlace, Cond.code yX2_listPlace cX2_listPlace 5 (some .int), Cond.methodLink RX4 171 yX2_stepFact, Cond.instanceMethod yX2_stepFact, Cond.selects RX2 yX2_stepFact yX2_stepFact, Cond.code yX2_stepFact cX2_stepFact 4 (some .int), Cond.fieldLink RX2 11 "FaultShrinker$Search" "facts" "[I", Cond.methodLink RX4 138 yX2_goByHalves, Cond.instanceMethod yX2_goByHalves, Cond.selects RX2 yX2_goByHalves yX2_goByHalves, Cond.code yX2_goByHalves cX2_goByHalves 5 none, Cond.methodLink RX2 34 yX2_begin, Cond.instanceMethod yX2_begin]
def wsX4_digest_r6 : List Cond := [Cond.selects RX2 yX2_begin yX2_begin, Cond.code yX2_begin cX2_begin 4 (some .boolean), Cond.fieldLink RX2 53 "FaultShrinker$Search" "parts" "I", Cond.methodLink RX2 51 yX3_begin, Cond.instanceMethod yX3_begin, Cond.selects RX3 yX3_begin yX3_begin, Cond.initialized RX3, Cond.code yX3_begin cX3_begin 1 none, Cond.fieldLink RX3 23 "FaultShrinker$Taster" "search" "J", Cond.fieldLink RX3 27 "FaultShrinker$Taster" "tastings" "I", Cond.methodLink RX2 47 yX3_looksSpoiled, Cond.instanceMethod yX3_looksSpoiled, Cond.selects RX3 yX3_looksSpoiled yX3_looksSpoiled, Cond.code yX3_looksSpoiled cX3_looksSpoiled 2 (some .boolean), Cond.fieldLink RX3 19 "FaultShrinker$Taster" "rules" "LFaultShrinker$RuleBook;", Cond.fieldLink RX3 15 "FaultShrinker$Taster" "recipe" "LFaultShrinker$Recipe;", Cond.methodLink RX3 31 yX3_learn, Cond.instanceMethod yX3_learn, Cond.selects RX3 yX3_learn yX3_learn, Cond.code yX3_learn cX3_learn 7 (some .boolean), Cond.constant RX3 46 (-1640531535), Cond.fieldLink RX3 11 "FaultShrinker$Taster" "known" "[J", Cond.methodLink RX3 35 yX0_kindsOf, Cond.methodLink RX3 41 yX1_holding]
def wsX4_digest_r7 : List Cond := [Cond.methodLink RX2 38 yX2_makeStep, Cond.instanceMethod yX2_makeStep, Cond.selects RX2 yX2_makeStep yX2_makeStep, Cond.code yX2_makeStep cX2_makeStep 5 (some .boolean), Cond.methodLink RX2 74 Lib.Math.max.name, Cond.static Lib.Math.max.name, Cond.initialized "java/lang/Math", Cond.code Lib.Math.max.name Lib.Math.max.code 2 (some .int), Cond.methodLink RX2 79 Lib.Math.min.name, Cond.static Lib.Math.min.name, Cond.code Lib.Math.min.name Lib.Math.min.code 2 (some .int), Cond.methodLink RX2 56 yX2_countPlaces, Cond.instanceMethod yX2_countPlaces, Cond.selects RX2 yX2_countPlaces yX2_countPlaces, Cond.code yX2_countPlaces cX2_countPlaces 4 none, Cond.fieldLink RX2 15 "FaultShrinker$Search" "firstPlaces" "[I", Cond.methodLink RX2 59 yX2_firstSpoiledPart, Cond.instanceMethod yX2_firstSpoiledPart, Cond.selects RX2 yX2_firstSpoiledPart yX2_firstSpoiledPart, Cond.code yX2_firstSpoiledPart cX2_firstSpoiledPart 4 (some .int), Cond.methodLink RX2 63 yX2_partAt, Cond.instanceMethod yX2_partAt, Cond.selects RX2 yX2_partAt yX2_partAt, Cond.code yX2_partAt cX2_partAt 5 (some .int)]
def wsX4_digest_r8 : List Cond := [Cond.methodLink RX2 67 yX2_note, Cond.instanceMethod yX2_note, Cond.selects RX2 yX2_note yX2_note, Cond.code yX2_note cX2_note 6 none, Cond.methodLink RX2 71 yX2_firstSparedPart, Cond.instanceMethod yX2_firstSparedPart, Cond.selects RX2 yX2_firstSparedPart yX2_firstSparedPart, Cond.code yX2_firstSparedPart cX2_firstSparedPart 4 (some .int), Cond.methodLink RX2 42 yX3_tastings, Cond.instanceMethod yX3_tastings, Cond.selects RX3 yX3_tastings yX3_tastings, Cond.code yX3_tastings cX3_tastings 1 (some .int), Cond.methodLink RX4 142 yX2_list, Cond.instanceMethod yX2_list, Cond.selects RX2 yX2_list yX2_list, Cond.code yX2_list cX2_list 1 (some .int), Cond.methodLink RX4 181 yX2_goOneByOne, Cond.instanceMethod yX2_goOneByOne, Cond.selects RX2 yX2_goOneByOne yX2_goOneByOne, Cond.code yX2_goOneByOne cX2_goOneByOne 6 none, Cond.methodLink RX4 184 yX1_leastNeeded, Cond.instanceMethod yX1_leastNeeded, Cond.selects RX1 yX1_leastNeeded yX1_leastNeeded, Cond.code yX1_leastNeeded cX1_leastNeeded 6 (some .int)]
def wsX4_digest_r9 : List Cond := [Cond.methodLink RX1 34 yJ6_bitCount_0f7a4]
def wsX4_digest : List Cond := .code yX4_digest cX4_digest 3 (some .long) :: ((wsX4_digest_r1 ++ (wsX4_digest_r2 ++ (wsX4_digest_r3 ++ (wsX4_digest_r4 ++ (wsX4_digest_r5 ++ (wsX4_digest_r6 ++ (wsX4_digest_r7 ++ (wsX4_digest_r8 ++ wsX4_digest_r9)))))))) ++ wsX40 ++ wsX00 ++ wsX10 ++ wsX20 ++ wsX30)
def wsX5_init : List Cond := .code yX5_init cX5_init 1 none :: ([.methodLink RX5 1 objectInit, .instanceMethod objectInit, .code objectInit ⟨#[0xb1]⟩ 1 none, .arrayClass .int, .fieldLink RX5 9 "FaultShrinkerModel" "kind" "[I", .fieldLink RX5 13 "FaultShrinkerModel" "needs" "[I", .fieldLink RX5 16 "FaultShrinkerModel" "spares" "[I", .fieldLink RX5 19 "FaultShrinkerModel" "known" "[I", .fieldLink RX5 22 "FaultShrinkerModel" "step" "[I", .fieldLink RX5 25 "FaultShrinkerModel" "keptStep" "[I"] ++ wsX50)
def wsX5_thrown : List Cond := .code yX5_thrown cX5_thrown 1 (some .int) :: ([.fieldLink RX5 28 "FaultShrinkerModel" "thrown" "I"] ++ wsX50)
def wsX5_no : List Cond := .code yX5_no cX5_no 2 (some .int) :: ([.fieldLink RX5 28 "FaultShrinkerModel" "thrown" "I"] ++ wsX50)
def wsX5_isIn : List Cond := .code yX5_isIn cX5_isIn 3 (some .boolean) :: ([])
def wsX5_isRule : List Cond := .code yX5_isRule cX5_isRule 2 (some .boolean) :: ([.fieldLink RX5 32 "FaultShrinkerModel" "rules" "I", .methodLink RX5 35 yX5_isIn, .static yX5_isIn, .initialized RX5, .code yX5_isIn cX5_isIn 3 (some .boolean)] ++ wsX50)
def wsX5_isPlace : List Cond := .code yX5_isPlace cX5_isPlace 2 (some .boolean) :: ([.fieldLink RX5 39 "FaultShrinkerModel" "size" "I", .methodLink RX5 35 yX5_isIn, .static yX5_isIn, .initialized RX5, .code yX5_isIn cX5_isIn 3 (some .boolean)] ++ wsX50)
def wsX5_whole : List Cond := .code yX5_whole cX5_whole 1 (some .int) :: ([.fieldLink RX5 39 "FaultShrinkerModel" "size" "I"] ++ wsX50)
def wsX5_kindsOf : List Cond := .code yX5_kindsOf cX5_kindsOf 4 (some .int) :: ([.fieldLink RX5 39 "FaultShrinkerModel" "size" "I", .fieldLink RX5 9 "FaultShrinkerModel" "kind" "[I"] ++ wsX50)
def wsX5_holds : List Cond := .code yX5_holds cX5_holds 3 (some .boolean) :: ([.fieldLink RX5 13 "FaultShrinkerModel" "needs" "[I", .fieldLink RX5 16 "FaultShrinkerModel" "spares" "[I"] ++ wsX50)
def wsX5_isSpoilt : List Cond := .code yX5_isSpoilt cX5_isSpoilt 4 (some .boolean) :: ([.fieldLink RX5 32 "FaultShrinkerModel" "rules" "I", .methodLink RX5 42 yX5_kindsOf, .instanceMethod yX5_kindsOf, .selects RX5 yX5_kindsOf yX5_kindsOf, .initialized RX5, .code yX5_kindsOf cX5_kindsOf 4 (some .int), .fieldLink RX5 39 "FaultShrinkerModel" "size" "I", .fieldLink RX5 9 "FaultShrinkerModel" "kind" "[I", .methodLink RX5 46 yX5_holds, .instanceMethod yX5_holds, .selects RX5 yX5_holds yX5_holds, .code yX5_holds cX5_holds 3 (some .boolean), .fieldLink RX5 13 "FaultShrinkerModel" "needs" "[I", .fieldLink RX5 16 "FaultShrinkerModel" "spares" "[I"] ++ wsX50)
def wsX5_taste : List Cond := .code yX5_taste cX5_taste 4 (some .boolean) :: ([.fieldLink RX5 50 "FaultShrinkerModel" "tasted" "I", .fieldLink RX5 19 "FaultShrinkerModel" "known" "[I", .methodLink RX5 53 yX5_isSpoilt, .instanceMethod yX5_isSpoilt, .selects RX5 yX5_isSpoilt yX5_isSpoilt, .initialized RX5, .code yX5_isSpoilt cX5_isSpoilt 4 (some .boolean), .fieldLink RX5 32 "FaultShrinkerModel" "rules" "I", .methodLink RX5 42 yX5_kindsOf, .instanceMethod yX5_kindsOf, .selects RX5 yX5_kindsOf yX5_kindsOf, .code yX5_kindsOf cX5_kindsOf 4 (some .int), .fieldLink RX5 39 "FaultShrinkerModel" "size" "I", .fieldLink RX5 9 "FaultShrinkerModel" "kind" "[I", .methodLink RX5 46 yX5_holds, .instanceMethod yX5_holds, .selects RX5 yX5_holds yX5_holds, .code yX5_holds cX5_holds 3 (some .boolean), .fieldLink RX5 13 "FaultShrinkerModel" "needs" "[I", .fieldLink RX5 16 "FaultShrinkerModel" "spares" "[I"] ++ wsX50)
def wsX5_note : List Cond := .code yX5_note cX5_note 7 none :: ([.fieldLink RX5 57 "FaultShrinkerModel" "steps" "I", .fieldLink RX5 22 "FaultShrinkerModel" "step" "[I"] ++ wsX50)
def wsX5_part : List Cond := .code yX5_part cX5_part 6 (some .int) :: ([])
def wsX5_partOf : List Cond := .code yX5_partOf cX5_partOf 4 (some .int) :: ([.methodLink RX5 60 yJ6_bitCount_0f7a4, .static yJ6_bitCount_0f7a4, .initialized RJ6, .code yJ6_bitCount_0f7a4 cJ6_bitCount_0f7a4 1 (some .int), .constant RJ6 265 (1431655765), .constant RJ6 266 (858993459), .constant RJ6 267 (252645135), .methodLink RX5 65 yX5_part, .static yX5_part, .initialized RX5, .code yX5_part cX5_part 6 (some .int)])
def wsX5_first_r1 : List Cond := [Cond.methodLink RX5 69 yX5_partOf, Cond.static yX5_partOf, Cond.initialized RX5, Cond.code yX5_partOf cX5_partOf 4 (some .int), Cond.methodLink RX5 60 yJ6_bitCount_0f7a4, Cond.static yJ6_bitCount_0f7a4, Cond.initialized RJ6, Cond.code yJ6_bitCount_0f7a4 cJ6_bitCount_0f7a4 1 (some .int), Cond.constant RJ6 265 (1431655765), Cond.constant RJ6 266 (858993459), Cond.constant RJ6 267 (252645135), Cond.methodLink RX5 65 yX5_part, Cond.static yX5_part, Cond.code yX5_part cX5_part 6 (some .int), Cond.methodLink RX5 72 yX5_taste, Cond.instanceMethod yX5_taste, Cond.selects RX5 yX5_taste yX5_taste, Cond.code yX5_taste cX5_taste 4 (some .boolean), Cond.fieldLink RX5 50 "FaultShrinkerModel" "tasted" "I", Cond.fieldLink RX5 19 "FaultShrinkerModel" "known" "[I", Cond.methodLink RX5 53 yX5_isSpoilt, Cond.instanceMethod yX5_isSpoilt, Cond.selects RX5 yX5_isSpoilt yX5_isSpoilt, Cond.code yX5_isSpoilt cX5_isSpoilt 4 (some .boolean)]
def wsX5_first_r2 : List Cond := [Cond.fieldLink RX5 32 "FaultShrinkerModel" "rules" "I", Cond.methodLink RX5 42 yX5_kindsOf, Cond.instanceMethod yX5_kindsOf, Cond.selects RX5 yX5_kindsOf yX5_kindsOf, Cond.code yX5_kindsOf cX5_kindsOf 4 (some .int), Cond.fieldLink RX5 39 "FaultShrinkerModel" "size" "I", Cond.fieldLink RX5 9 "FaultShrinkerModel" "kind" "[I", Cond.methodLink RX5 46 yX5_holds, Cond.instanceMethod yX5_holds, Cond.selects RX5 yX5_holds yX5_holds, Cond.code yX5_holds cX5_holds 3 (some .boolean), Cond.fieldLink RX5 13 "FaultShrinkerModel" "needs" "[I", Cond.fieldLink RX5 16 "FaultShrinkerModel" "spares" "[I"]
def wsX5_first : List Cond := .code yX5_first cX5_first 5 (some .int) :: ((wsX5_first_r1 ++ wsX5_first_r2) ++ wsX50)
def wsX5_halve_r1 : List Cond := [Cond.fieldLink RX5 50 "FaultShrinkerModel" "tasted" "I", Cond.fieldLink RX5 57 "FaultShrinkerModel" "steps" "I", Cond.methodLink RX5 87 Lib.Math.min.name, Cond.static Lib.Math.min.name, Cond.initialized "java/lang/Math", Cond.code Lib.Math.min.name Lib.Math.min.code 2 (some .int), Cond.methodLink RX5 75 yX5_whole, Cond.instanceMethod yX5_whole, Cond.selects RX5 yX5_whole yX5_whole, Cond.initialized RX5, Cond.code yX5_whole cX5_whole 1 (some .int), Cond.fieldLink RX5 39 "FaultShrinkerModel" "size" "I", Cond.methodLink RX5 72 yX5_taste, Cond.instanceMethod yX5_taste, Cond.selects RX5 yX5_taste yX5_taste, Cond.code yX5_taste cX5_taste 4 (some .boolean), Cond.fieldLink RX5 19 "FaultShrinkerModel" "known" "[I", Cond.methodLink RX5 53 yX5_isSpoilt, Cond.instanceMethod yX5_isSpoilt, Cond.selects RX5 yX5_isSpoilt yX5_isSpoilt, Cond.code yX5_isSpoilt cX5_isSpoilt 4 (some .boolean), Cond.fieldLink RX5 32 "FaultShrinkerModel" "rules" "I", Cond.methodLink RX5 42 yX5_kindsOf, Cond.instanceMethod yX5_kindsOf]
def wsX5_halve_r2 : List Cond := [Cond.selects RX5 yX5_kindsOf yX5_kindsOf, Cond.code yX5_kindsOf cX5_kindsOf 4 (some .int), Cond.fieldLink RX5 9 "FaultShrinkerModel" "kind" "[I", Cond.methodLink RX5 46 yX5_holds, Cond.instanceMethod yX5_holds, Cond.selects RX5 yX5_holds yX5_holds, Cond.code yX5_holds cX5_holds 3 (some .boolean), Cond.fieldLink RX5 13 "FaultShrinkerModel" "needs" "[I", Cond.fieldLink RX5 16 "FaultShrinkerModel" "spares" "[I", Cond.methodLink RX5 60 yJ6_bitCount_0f7a4, Cond.static yJ6_bitCount_0f7a4, Cond.initialized RJ6, Cond.code yJ6_bitCount_0f7a4 cJ6_bitCount_0f7a4 1 (some .int), Cond.constant RJ6 265 (1431655765), Cond.constant RJ6 266 (858993459), Cond.constant RJ6 267 (252645135), Cond.methodLink RX5 79 yX5_first, Cond.instanceMethod yX5_first, Cond.selects RX5 yX5_first yX5_first, Cond.code yX5_first cX5_first 5 (some .int), Cond.methodLink RX5 69 yX5_partOf, Cond.static yX5_partOf, Cond.code yX5_partOf cX5_partOf 4 (some .int), Cond.methodLink RX5 65 yX5_part]
def wsX5_halve_r3 : List Cond := [Cond.static yX5_part, Cond.code yX5_part cX5_part 6 (some .int), Cond.methodLink RX5 83 yX5_note, Cond.instanceMethod yX5_note, Cond.selects RX5 yX5_note yX5_note, Cond.code yX5_note cX5_note 7 none, Cond.fieldLink RX5 22 "FaultShrinkerModel" "step" "[I"]
def wsX5_halve : List Cond := .code yX5_halve cX5_halve 5 (some .int) :: ((wsX5_halve_r1 ++ (wsX5_halve_r2 ++ wsX5_halve_r3)) ++ wsX50)
def wsX5_spareEach_r1 : List Cond := [Cond.fieldLink RX5 50 "FaultShrinkerModel" "tasted" "I", Cond.fieldLink RX5 39 "FaultShrinkerModel" "size" "I", Cond.methodLink RX5 75 yX5_whole, Cond.instanceMethod yX5_whole, Cond.selects RX5 yX5_whole yX5_whole, Cond.initialized RX5, Cond.code yX5_whole cX5_whole 1 (some .int), Cond.methodLink RX5 72 yX5_taste, Cond.instanceMethod yX5_taste, Cond.selects RX5 yX5_taste yX5_taste, Cond.code yX5_taste cX5_taste 4 (some .boolean), Cond.fieldLink RX5 19 "FaultShrinkerModel" "known" "[I", Cond.methodLink RX5 53 yX5_isSpoilt, Cond.instanceMethod yX5_isSpoilt, Cond.selects RX5 yX5_isSpoilt yX5_isSpoilt, Cond.code yX5_isSpoilt cX5_isSpoilt 4 (some .boolean), Cond.fieldLink RX5 32 "FaultShrinkerModel" "rules" "I", Cond.methodLink RX5 42 yX5_kindsOf, Cond.instanceMethod yX5_kindsOf, Cond.selects RX5 yX5_kindsOf yX5_kindsOf, Cond.code yX5_kindsOf cX5_kindsOf 4 (some .int), Cond.fieldLink RX5 9 "FaultShrinkerModel" "kind" "[I", Cond.methodLink RX5 46 yX5_holds, Cond.instanceMethod yX5_holds]
def wsX5_spareEach_r2 : List Cond := [Cond.selects RX5 yX5_holds yX5_holds, Cond.code yX5_holds cX5_holds 3 (some .boolean), Cond.fieldLink RX5 13 "FaultShrinkerModel" "needs" "[I", Cond.fieldLink RX5 16 "FaultShrinkerModel" "spares" "[I"]
def wsX5_spareEach : List Cond := .code yX5_spareEach cX5_spareEach 3 (some .int) :: ((wsX5_spareEach_r1 ++ wsX5_spareEach_r2) ++ wsX50)
def wsX5_add : List Cond := .code yX5_add cX5_add 2 (some .int) :: ([.fieldLink RX5 28 "FaultShrinkerModel" "thrown" "I", .fieldLink RX5 39 "FaultShrinkerModel" "size" "I", .fieldLink RX5 9 "FaultShrinkerModel" "kind" "[I", .methodLink RX5 35 yX5_isIn, .static yX5_isIn, .initialized RX5, .code yX5_isIn cX5_isIn 3 (some .boolean), .methodLink RX5 93 yX5_no, .instanceMethod yX5_no, .selects RX5 yX5_no yX5_no, .code yX5_no cX5_no 2 (some .int)] ++ wsX50)
def wsX5_takeOut : List Cond := .code yX5_takeOut cX5_takeOut 4 (some .int) :: ([.fieldLink RX5 9 "FaultShrinkerModel" "kind" "[I", .fieldLink RX5 39 "FaultShrinkerModel" "size" "I"] ++ wsX50)
def wsX5_drop : List Cond := .code yX5_drop cX5_drop 2 (some .int) :: ([.fieldLink RX5 28 "FaultShrinkerModel" "thrown" "I", .methodLink RX5 96 yX5_isPlace, .instanceMethod yX5_isPlace, .selects RX5 yX5_isPlace yX5_isPlace, .initialized RX5, .code yX5_isPlace cX5_isPlace 2 (some .boolean), .fieldLink RX5 39 "FaultShrinkerModel" "size" "I", .methodLink RX5 35 yX5_isIn, .static yX5_isIn, .code yX5_isIn cX5_isIn 3 (some .boolean), .methodLink RX5 99 yX5_takeOut, .instanceMethod yX5_takeOut, .selects RX5 yX5_takeOut yX5_takeOut, .code yX5_takeOut cX5_takeOut 4 (some .int), .fieldLink RX5 9 "FaultShrinkerModel" "kind" "[I", .methodLink RX5 93 yX5_no, .instanceMethod yX5_no, .selects RX5 yX5_no yX5_no, .code yX5_no cX5_no 2 (some .int)] ++ wsX50)
def wsX5_kind : List Cond := .code yX5_kind cX5_kind 2 (some .int) :: ([.fieldLink RX5 28 "FaultShrinkerModel" "thrown" "I", .fieldLink RX5 9 "FaultShrinkerModel" "kind" "[I", .methodLink RX5 96 yX5_isPlace, .instanceMethod yX5_isPlace, .selects RX5 yX5_isPlace yX5_isPlace, .initialized RX5, .code yX5_isPlace cX5_isPlace 2 (some .boolean), .fieldLink RX5 39 "FaultShrinkerModel" "size" "I", .methodLink RX5 35 yX5_isIn, .static yX5_isIn, .code yX5_isIn cX5_isIn 3 (some .boolean), .methodLink RX5 93 yX5_no, .instanceMethod yX5_no, .selects RX5 yX5_no yX5_no, .code yX5_no cX5_no 2 (some .int)] ++ wsX50)
def wsX5_rule : List Cond := .code yX5_rule cX5_rule 1 (some .int) :: ([.fieldLink RX5 28 "FaultShrinkerModel" "thrown" "I", .fieldLink RX5 32 "FaultShrinkerModel" "rules" "I", .methodLink RX5 93 yX5_no, .instanceMethod yX5_no, .selects RX5 yX5_no yX5_no, .initialized RX5, .code yX5_no cX5_no 2 (some .int)] ++ wsX50)
def wsX5_set : List Cond := .code yX5_set cX5_set 7 (some .boolean) :: ([.fieldLink RX5 28 "FaultShrinkerModel" "thrown" "I", .methodLink RX5 102 yX5_isRule, .instanceMethod yX5_isRule, .selects RX5 yX5_isRule yX5_isRule, .initialized RX5, .code yX5_isRule cX5_isRule 2 (some .boolean), .fieldLink RX5 32 "FaultShrinkerModel" "rules" "I", .methodLink RX5 35 yX5_isIn, .static yX5_isIn, .code yX5_isIn cX5_isIn 3 (some .boolean)] ++ wsX50)
def wsX5_setNeeds : List Cond := .code yX5_setNeeds cX5_setNeeds 4 (some .boolean) :: ([.fieldLink RX5 13 "FaultShrinkerModel" "needs" "[I", .fieldLink RX5 16 "FaultShrinkerModel" "spares" "[I", .methodLink RX5 105 yX5_set, .instanceMethod yX5_set, .selects RX5 yX5_set yX5_set, .initialized RX5, .code yX5_set cX5_set 7 (some .boolean), .fieldLink RX5 28 "FaultShrinkerModel" "thrown" "I", .methodLink RX5 102 yX5_isRule, .instanceMethod yX5_isRule, .selects RX5 yX5_isRule yX5_isRule, .code yX5_isRule cX5_isRule 2 (some .boolean), .fieldLink RX5 32 "FaultShrinkerModel" "rules" "I", .methodLink RX5 35 yX5_isIn, .static yX5_isIn, .code yX5_isIn cX5_isIn 3 (some .boolean)] ++ wsX50)
def wsX5_setSpares : List Cond := .code yX5_setSpares cX5_setSpares 4 (some .boolean) :: ([.fieldLink RX5 16 "FaultShrinkerModel" "spares" "[I", .fieldLink RX5 13 "FaultShrinkerModel" "needs" "[I", .methodLink RX5 105 yX5_set, .instanceMethod yX5_set, .selects RX5 yX5_set yX5_set, .initialized RX5, .code yX5_set cX5_set 7 (some .boolean), .fieldLink RX5 28 "FaultShrinkerModel" "thrown" "I", .methodLink RX5 102 yX5_isRule, .instanceMethod yX5_isRule, .selects RX5 yX5_isRule yX5_isRule, .code yX5_isRule cX5_isRule 2 (some .boolean), .fieldLink RX5 32 "FaultShrinkerModel" "rules" "I", .methodLink RX5 35 yX5_isIn, .static yX5_isIn, .code yX5_isIn cX5_isIn 3 (some .boolean)] ++ wsX50)
def wsX5_ruleTold_r1 : List Cond := [Cond.fieldLink RX5 13 "FaultShrinkerModel" "needs" "[I", Cond.fieldLink RX5 16 "FaultShrinkerModel" "spares" "[I", Cond.fieldLink RX5 109 "FaultShrinkerModel" "isKept" "Z", Cond.fieldLink RX5 113 "FaultShrinkerModel" "keptKinds" "I", Cond.methodLink RX5 60 yJ6_bitCount_0f7a4, Cond.static yJ6_bitCount_0f7a4, Cond.initialized RJ6, Cond.code yJ6_bitCount_0f7a4 cJ6_bitCount_0f7a4 1 (some .int), Cond.constant RJ6 265 (1431655765), Cond.constant RJ6 266 (858993459), Cond.constant RJ6 267 (252645135), Cond.methodLink RX5 75 yX5_whole, Cond.instanceMethod yX5_whole, Cond.selects RX5 yX5_whole yX5_whole, Cond.initialized RX5, Cond.code yX5_whole cX5_whole 1 (some .int), Cond.fieldLink RX5 39 "FaultShrinkerModel" "size" "I", Cond.methodLink RX5 42 yX5_kindsOf, Cond.instanceMethod yX5_kindsOf, Cond.selects RX5 yX5_kindsOf yX5_kindsOf, Cond.code yX5_kindsOf cX5_kindsOf 4 (some .int), Cond.fieldLink RX5 9 "FaultShrinkerModel" "kind" "[I", Cond.methodLink RX5 46 yX5_holds, Cond.instanceMethod yX5_holds]
def wsX5_ruleTold_r2 : List Cond := [Cond.selects RX5 yX5_holds yX5_holds, Cond.code yX5_holds cX5_holds 3 (some .boolean)]
def wsX5_ruleTold : List Cond := .code yX5_ruleTold cX5_ruleTold 3 (some .int) :: ((wsX5_ruleTold_r1 ++ wsX5_ruleTold_r2) ++ wsX50)
def wsX5_told_r1 : List Cond := [Cond.fieldLink RX5 28 "FaultShrinkerModel" "thrown" "I", Cond.methodLink RX5 102 yX5_isRule, Cond.instanceMethod yX5_isRule, Cond.selects RX5 yX5_isRule yX5_isRule, Cond.initialized RX5, Cond.code yX5_isRule cX5_isRule 2 (some .boolean), Cond.fieldLink RX5 32 "FaultShrinkerModel" "rules" "I", Cond.methodLink RX5 35 yX5_isIn, Cond.static yX5_isIn, Cond.code yX5_isIn cX5_isIn 3 (some .boolean), Cond.methodLink RX5 116 yX5_ruleTold, Cond.instanceMethod yX5_ruleTold, Cond.selects RX5 yX5_ruleTold yX5_ruleTold, Cond.code yX5_ruleTold cX5_ruleTold 3 (some .int), Cond.fieldLink RX5 13 "FaultShrinkerModel" "needs" "[I", Cond.fieldLink RX5 16 "FaultShrinkerModel" "spares" "[I", Cond.fieldLink RX5 109 "FaultShrinkerModel" "isKept" "Z", Cond.fieldLink RX5 113 "FaultShrinkerModel" "keptKinds" "I", Cond.methodLink RX5 60 yJ6_bitCount_0f7a4, Cond.static yJ6_bitCount_0f7a4, Cond.initialized RJ6, Cond.code yJ6_bitCount_0f7a4 cJ6_bitCount_0f7a4 1 (some .int), Cond.constant RJ6 265 (1431655765), Cond.constant RJ6 266 (858993459)]
def wsX5_told_r2 : List Cond := [Cond.constant RJ6 267 (252645135), Cond.methodLink RX5 75 yX5_whole, Cond.instanceMethod yX5_whole, Cond.selects RX5 yX5_whole yX5_whole, Cond.code yX5_whole cX5_whole 1 (some .int), Cond.fieldLink RX5 39 "FaultShrinkerModel" "size" "I", Cond.methodLink RX5 42 yX5_kindsOf, Cond.instanceMethod yX5_kindsOf, Cond.selects RX5 yX5_kindsOf yX5_kindsOf, Cond.code yX5_kindsOf cX5_kindsOf 4 (some .int), Cond.fieldLink RX5 9 "FaultShrinkerModel" "kind" "[I", Cond.methodLink RX5 46 yX5_holds, Cond.instanceMethod yX5_holds, Cond.selects RX5 yX5_holds yX5_holds, Cond.code yX5_holds cX5_holds 3 (some .boolean), Cond.methodLink RX5 93 yX5_no, Cond.instanceMethod yX5_no, Cond.selects RX5 yX5_no yX5_no, Cond.code yX5_no cX5_no 2 (some .int)]
def wsX5_told : List Cond := .code yX5_told cX5_told 3 (some .int) :: ((wsX5_told_r1 ++ wsX5_told_r2) ++ wsX50)
def wsX5_spoils_r1 : List Cond := [Cond.fieldLink RX5 28 "FaultShrinkerModel" "thrown" "I", Cond.methodLink RX5 75 yX5_whole, Cond.instanceMethod yX5_whole, Cond.selects RX5 yX5_whole yX5_whole, Cond.initialized RX5, Cond.code yX5_whole cX5_whole 1 (some .int), Cond.fieldLink RX5 39 "FaultShrinkerModel" "size" "I", Cond.methodLink RX5 35 yX5_isIn, Cond.static yX5_isIn, Cond.code yX5_isIn cX5_isIn 3 (some .boolean), Cond.methodLink RX5 53 yX5_isSpoilt, Cond.instanceMethod yX5_isSpoilt, Cond.selects RX5 yX5_isSpoilt yX5_isSpoilt, Cond.code yX5_isSpoilt cX5_isSpoilt 4 (some .boolean), Cond.fieldLink RX5 32 "FaultShrinkerModel" "rules" "I", Cond.methodLink RX5 42 yX5_kindsOf, Cond.instanceMethod yX5_kindsOf, Cond.selects RX5 yX5_kindsOf yX5_kindsOf, Cond.code yX5_kindsOf cX5_kindsOf 4 (some .int), Cond.fieldLink RX5 9 "FaultShrinkerModel" "kind" "[I", Cond.methodLink RX5 46 yX5_holds, Cond.instanceMethod yX5_holds, Cond.selects RX5 yX5_holds yX5_holds, Cond.code yX5_holds cX5_holds 3 (some .boolean)]
def wsX5_spoils_r2 : List Cond := [Cond.fieldLink RX5 13 "FaultShrinkerModel" "needs" "[I", Cond.fieldLink RX5 16 "FaultShrinkerModel" "spares" "[I"]
def wsX5_spoils : List Cond := .code yX5_spoils cX5_spoils 2 (some .boolean) :: ((wsX5_spoils_r1 ++ wsX5_spoils_r2) ++ wsX50)
def wsX5_shrink_r1 : List Cond := [Cond.fieldLink RX5 28 "FaultShrinkerModel" "thrown" "I", Cond.fieldLink RX5 122 "FaultShrinkerModel" "keptDish" "I", Cond.fieldLink RX5 109 "FaultShrinkerModel" "isKept" "Z", Cond.fieldLink RX5 113 "FaultShrinkerModel" "keptKinds" "I", Cond.fieldLink RX5 50 "FaultShrinkerModel" "tasted" "I", Cond.fieldLink RX5 125 "FaultShrinkerModel" "keptTasted" "I", Cond.fieldLink RX5 57 "FaultShrinkerModel" "steps" "I", Cond.fieldLink RX5 128 "FaultShrinkerModel" "keptSteps" "I", Cond.fieldLink RX5 22 "FaultShrinkerModel" "step" "[I", Cond.fieldLink RX5 25 "FaultShrinkerModel" "keptStep" "[I", Cond.methodLink RX5 131 arraycopyName, Cond.native arraycopyName, Cond.static arraycopyName, Cond.initialized "java/lang/System", Cond.fieldLink RX5 137 "FaultShrinkerModel" "all" "I", Cond.methodLink RX5 119 yX5_halve, Cond.instanceMethod yX5_halve, Cond.selects RX5 yX5_halve yX5_halve, Cond.initialized RX5, Cond.code yX5_halve cX5_halve 5 (some .int), Cond.methodLink RX5 87 Lib.Math.min.name, Cond.static Lib.Math.min.name, Cond.initialized "java/lang/Math", Cond.code Lib.Math.min.name Lib.Math.min.code 2 (some .int)]
def wsX5_shrink_r2 : List Cond := [Cond.methodLink RX5 75 yX5_whole, Cond.instanceMethod yX5_whole, Cond.selects RX5 yX5_whole yX5_whole, Cond.code yX5_whole cX5_whole 1 (some .int), Cond.fieldLink RX5 39 "FaultShrinkerModel" "size" "I", Cond.methodLink RX5 72 yX5_taste, Cond.instanceMethod yX5_taste, Cond.selects RX5 yX5_taste yX5_taste, Cond.code yX5_taste cX5_taste 4 (some .boolean), Cond.fieldLink RX5 19 "FaultShrinkerModel" "known" "[I", Cond.methodLink RX5 53 yX5_isSpoilt, Cond.instanceMethod yX5_isSpoilt, Cond.selects RX5 yX5_isSpoilt yX5_isSpoilt, Cond.code yX5_isSpoilt cX5_isSpoilt 4 (some .boolean), Cond.fieldLink RX5 32 "FaultShrinkerModel" "rules" "I", Cond.methodLink RX5 42 yX5_kindsOf, Cond.instanceMethod yX5_kindsOf, Cond.selects RX5 yX5_kindsOf yX5_kindsOf, Cond.code yX5_kindsOf cX5_kindsOf 4 (some .int), Cond.fieldLink RX5 9 "FaultShrinkerModel" "kind" "[I", Cond.methodLink RX5 46 yX5_holds, Cond.instanceMethod yX5_holds, Cond.selects RX5 yX5_holds yX5_holds, Cond.code yX5_holds cX5_holds 3 (some .boolean)]
def wsX5_shrink_r3 : List Cond := [Cond.fieldLink RX5 13 "FaultShrinkerModel" "needs" "[I", Cond.fieldLink RX5 16 "FaultShrinkerModel" "spares" "[I", Cond.methodLink RX5 60 yJ6_bitCount_0f7a4, Cond.static yJ6_bitCount_0f7a4, Cond.initialized RJ6, Cond.code yJ6_bitCount_0f7a4 cJ6_bitCount_0f7a4 1 (some .int), Cond.constant RJ6 265 (1431655765), Cond.constant RJ6 266 (858993459), Cond.constant RJ6 267 (252645135), Cond.methodLink RX5 79 yX5_first, Cond.instanceMethod yX5_first, Cond.selects RX5 yX5_first yX5_first, Cond.code yX5_first cX5_first 5 (some .int), Cond.methodLink RX5 69 yX5_partOf, Cond.static yX5_partOf, Cond.code yX5_partOf cX5_partOf 4 (some .int), Cond.methodLink RX5 65 yX5_part, Cond.static yX5_part, Cond.code yX5_part cX5_part 6 (some .int), Cond.methodLink RX5 83 yX5_note, Cond.instanceMethod yX5_note, Cond.selects RX5 yX5_note yX5_note, Cond.code yX5_note cX5_note 7 none]
def wsX5_shrink : List Cond := .code yX5_shrink cX5_shrink 1 (some .int) :: ((wsX5_shrink_r1 ++ (wsX5_shrink_r2 ++ wsX5_shrink_r3)) ++ wsX50)
def wsX5_keptSize : List Cond := .code yX5_keptSize cX5_keptSize 1 (some .int) :: ([.fieldLink RX5 122 "FaultShrinkerModel" "keptDish" "I", .methodLink RX5 60 yJ6_bitCount_0f7a4, .static yJ6_bitCount_0f7a4, .initialized RJ6, .code yJ6_bitCount_0f7a4 cJ6_bitCount_0f7a4 1 (some .int), .constant RJ6 265 (1431655765), .constant RJ6 266 (858993459), .constant RJ6 267 (252645135)] ++ wsX50)
def wsJ6_numberOfTrailingZeros_0f7a4 : List Cond := .code yJ6_numberOfTrailingZeros_0f7a4 cJ6_numberOfTrailingZeros_0f7a4 2 (some .int) :: ([.constant RJ6 264 (65536)])
def wsX5_keptPlace : List Cond := .code yX5_keptPlace cX5_keptPlace 2 (some .int) :: ([.fieldLink RX5 122 "FaultShrinkerModel" "keptDish" "I", .methodLink RX5 65 yX5_part, .static yX5_part, .initialized RX5, .code yX5_part cX5_part 6 (some .int), .methodLink RX5 140 yJ6_numberOfTrailingZeros_0f7a4, .static yJ6_numberOfTrailingZeros_0f7a4, .initialized RJ6, .code yJ6_numberOfTrailingZeros_0f7a4 cJ6_numberOfTrailingZeros_0f7a4 2 (some .int), .constant RJ6 264 (65536)] ++ wsX50)
def wsX5_kept_r1 : List Cond := [Cond.fieldLink RX5 28 "FaultShrinkerModel" "thrown" "I", Cond.methodLink RX5 143 yX5_keptSize, Cond.instanceMethod yX5_keptSize, Cond.selects RX5 yX5_keptSize yX5_keptSize, Cond.initialized RX5, Cond.code yX5_keptSize cX5_keptSize 1 (some .int), Cond.fieldLink RX5 122 "FaultShrinkerModel" "keptDish" "I", Cond.methodLink RX5 60 yJ6_bitCount_0f7a4, Cond.static yJ6_bitCount_0f7a4, Cond.initialized RJ6, Cond.code yJ6_bitCount_0f7a4 cJ6_bitCount_0f7a4 1 (some .int), Cond.constant RJ6 265 (1431655765), Cond.constant RJ6 266 (858993459), Cond.constant RJ6 267 (252645135), Cond.methodLink RX5 35 yX5_isIn, Cond.static yX5_isIn, Cond.code yX5_isIn cX5_isIn 3 (some .boolean), Cond.methodLink RX5 146 yX5_keptPlace, Cond.instanceMethod yX5_keptPlace, Cond.selects RX5 yX5_keptPlace yX5_keptPlace, Cond.code yX5_keptPlace cX5_keptPlace 2 (some .int), Cond.methodLink RX5 65 yX5_part, Cond.static yX5_part, Cond.code yX5_part cX5_part 6 (some .int)]
def wsX5_kept_r2 : List Cond := [Cond.methodLink RX5 140 yJ6_numberOfTrailingZeros_0f7a4, Cond.static yJ6_numberOfTrailingZeros_0f7a4, Cond.code yJ6_numberOfTrailingZeros_0f7a4 cJ6_numberOfTrailingZeros_0f7a4 2 (some .int), Cond.constant RJ6 264 (65536), Cond.methodLink RX5 93 yX5_no, Cond.instanceMethod yX5_no, Cond.selects RX5 yX5_no yX5_no, Cond.code yX5_no cX5_no 2 (some .int)]
def wsX5_kept : List Cond := .code yX5_kept cX5_kept 2 (some .int) :: ((wsX5_kept_r1 ++ wsX5_kept_r2) ++ wsX50)
def wsX5_step : List Cond := .code yX5_step cX5_step 3 (some .int) :: ([.fieldLink RX5 28 "FaultShrinkerModel" "thrown" "I", .fieldLink RX5 128 "FaultShrinkerModel" "keptSteps" "I", .fieldLink RX5 25 "FaultShrinkerModel" "keptStep" "[I", .methodLink RX5 35 yX5_isIn, .static yX5_isIn, .initialized RX5, .code yX5_isIn cX5_isIn 3 (some .boolean), .methodLink RX5 93 yX5_no, .instanceMethod yX5_no, .selects RX5 yX5_no yX5_no, .code yX5_no cX5_no 2 (some .int)] ++ wsX50)
def wsX5_hold : List Cond := .code yX5_hold cX5_hold 4 (some .int) :: ([.fieldLink RX5 32 "FaultShrinkerModel" "rules" "I", .methodLink RX5 75 yX5_whole, .instanceMethod yX5_whole, .selects RX5 yX5_whole yX5_whole, .initialized RX5, .code yX5_whole cX5_whole 1 (some .int), .fieldLink RX5 39 "FaultShrinkerModel" "size" "I", .methodLink RX5 42 yX5_kindsOf, .instanceMethod yX5_kindsOf, .selects RX5 yX5_kindsOf yX5_kindsOf, .code yX5_kindsOf cX5_kindsOf 4 (some .int), .fieldLink RX5 9 "FaultShrinkerModel" "kind" "[I", .methodLink RX5 46 yX5_holds, .instanceMethod yX5_holds, .selects RX5 yX5_holds yX5_holds, .code yX5_holds cX5_holds 3 (some .boolean), .fieldLink RX5 13 "FaultShrinkerModel" "needs" "[I", .fieldLink RX5 16 "FaultShrinkerModel" "spares" "[I"] ++ wsX50)
def wsX5_counted_r1 : List Cond := [Cond.fieldLink RX5 39 "FaultShrinkerModel" "size" "I", Cond.fieldLink RX5 32 "FaultShrinkerModel" "rules" "I", Cond.fieldLink RX5 128 "FaultShrinkerModel" "keptSteps" "I", Cond.fieldLink RX5 125 "FaultShrinkerModel" "keptTasted" "I", Cond.fieldLink RX5 137 "FaultShrinkerModel" "all" "I", Cond.methodLink RX5 149 yX5_hold, Cond.instanceMethod yX5_hold, Cond.selects RX5 yX5_hold yX5_hold, Cond.initialized RX5, Cond.code yX5_hold cX5_hold 4 (some .int), Cond.methodLink RX5 75 yX5_whole, Cond.instanceMethod yX5_whole, Cond.selects RX5 yX5_whole yX5_whole, Cond.code yX5_whole cX5_whole 1 (some .int), Cond.methodLink RX5 42 yX5_kindsOf, Cond.instanceMethod yX5_kindsOf, Cond.selects RX5 yX5_kindsOf yX5_kindsOf, Cond.code yX5_kindsOf cX5_kindsOf 4 (some .int), Cond.fieldLink RX5 9 "FaultShrinkerModel" "kind" "[I", Cond.methodLink RX5 46 yX5_holds, Cond.instanceMethod yX5_holds, Cond.selects RX5 yX5_holds yX5_holds, Cond.code yX5_holds cX5_holds 3 (some .boolean), Cond.fieldLink RX5 13 "FaultShrinkerModel" "needs" "[I"]
def wsX5_counted_r2 : List Cond := [Cond.fieldLink RX5 16 "FaultShrinkerModel" "spares" "[I", Cond.methodLink RX5 143 yX5_keptSize, Cond.instanceMethod yX5_keptSize, Cond.selects RX5 yX5_keptSize yX5_keptSize, Cond.code yX5_keptSize cX5_keptSize 1 (some .int), Cond.fieldLink RX5 122 "FaultShrinkerModel" "keptDish" "I", Cond.methodLink RX5 60 yJ6_bitCount_0f7a4, Cond.static yJ6_bitCount_0f7a4, Cond.initialized RJ6, Cond.code yJ6_bitCount_0f7a4 cJ6_bitCount_0f7a4 1 (some .int), Cond.constant RJ6 265 (1431655765), Cond.constant RJ6 266 (858993459), Cond.constant RJ6 267 (252645135)]
def wsX5_counted : List Cond := .code yX5_counted cX5_counted 2 (some .int) :: ((wsX5_counted_r1 ++ wsX5_counted_r2) ++ wsX50)
def wsX5_count_r1 : List Cond := [Cond.fieldLink RX5 28 "FaultShrinkerModel" "thrown" "I", Cond.methodLink RX5 35 yX5_isIn, Cond.static yX5_isIn, Cond.initialized RX5, Cond.code yX5_isIn cX5_isIn 3 (some .boolean), Cond.methodLink RX5 152 yX5_counted, Cond.instanceMethod yX5_counted, Cond.selects RX5 yX5_counted yX5_counted, Cond.code yX5_counted cX5_counted 2 (some .int), Cond.fieldLink RX5 39 "FaultShrinkerModel" "size" "I", Cond.fieldLink RX5 32 "FaultShrinkerModel" "rules" "I", Cond.fieldLink RX5 128 "FaultShrinkerModel" "keptSteps" "I", Cond.fieldLink RX5 125 "FaultShrinkerModel" "keptTasted" "I", Cond.fieldLink RX5 137 "FaultShrinkerModel" "all" "I", Cond.methodLink RX5 149 yX5_hold, Cond.instanceMethod yX5_hold, Cond.selects RX5 yX5_hold yX5_hold, Cond.code yX5_hold cX5_hold 4 (some .int), Cond.methodLink RX5 75 yX5_whole, Cond.instanceMethod yX5_whole, Cond.selects RX5 yX5_whole yX5_whole, Cond.code yX5_whole cX5_whole 1 (some .int), Cond.methodLink RX5 42 yX5_kindsOf, Cond.instanceMethod yX5_kindsOf]
def wsX5_count_r2 : List Cond := [Cond.selects RX5 yX5_kindsOf yX5_kindsOf, Cond.code yX5_kindsOf cX5_kindsOf 4 (some .int), Cond.fieldLink RX5 9 "FaultShrinkerModel" "kind" "[I", Cond.methodLink RX5 46 yX5_holds, Cond.instanceMethod yX5_holds, Cond.selects RX5 yX5_holds yX5_holds, Cond.code yX5_holds cX5_holds 3 (some .boolean), Cond.fieldLink RX5 13 "FaultShrinkerModel" "needs" "[I", Cond.fieldLink RX5 16 "FaultShrinkerModel" "spares" "[I", Cond.methodLink RX5 143 yX5_keptSize, Cond.instanceMethod yX5_keptSize, Cond.selects RX5 yX5_keptSize yX5_keptSize, Cond.code yX5_keptSize cX5_keptSize 1 (some .int), Cond.fieldLink RX5 122 "FaultShrinkerModel" "keptDish" "I", Cond.methodLink RX5 60 yJ6_bitCount_0f7a4, Cond.static yJ6_bitCount_0f7a4, Cond.initialized RJ6, Cond.code yJ6_bitCount_0f7a4 cJ6_bitCount_0f7a4 1 (some .int), Cond.constant RJ6 265 (1431655765), Cond.constant RJ6 266 (858993459), Cond.constant RJ6 267 (252645135), Cond.methodLink RX5 93 yX5_no, Cond.instanceMethod yX5_no, Cond.selects RX5 yX5_no yX5_no]
def wsX5_count_r3 : List Cond := [Cond.code yX5_no cX5_no 2 (some .int)]
def wsX5_count : List Cond := .code yX5_count cX5_count 2 (some .int) :: ((wsX5_count_r1 ++ (wsX5_count_r2 ++ wsX5_count_r3)) ++ wsX50)
def wsX5_wouldBe_r1 : List Cond := [Cond.fieldLink RX5 57 "FaultShrinkerModel" "steps" "I", Cond.fieldLink RX5 50 "FaultShrinkerModel" "tasted" "I", Cond.methodLink RX5 119 yX5_halve, Cond.instanceMethod yX5_halve, Cond.selects RX5 yX5_halve yX5_halve, Cond.initialized RX5, Cond.code yX5_halve cX5_halve 5 (some .int), Cond.methodLink RX5 87 Lib.Math.min.name, Cond.static Lib.Math.min.name, Cond.initialized "java/lang/Math", Cond.code Lib.Math.min.name Lib.Math.min.code 2 (some .int), Cond.methodLink RX5 75 yX5_whole, Cond.instanceMethod yX5_whole, Cond.selects RX5 yX5_whole yX5_whole, Cond.code yX5_whole cX5_whole 1 (some .int), Cond.fieldLink RX5 39 "FaultShrinkerModel" "size" "I", Cond.methodLink RX5 72 yX5_taste, Cond.instanceMethod yX5_taste, Cond.selects RX5 yX5_taste yX5_taste, Cond.code yX5_taste cX5_taste 4 (some .boolean), Cond.fieldLink RX5 19 "FaultShrinkerModel" "known" "[I", Cond.methodLink RX5 53 yX5_isSpoilt, Cond.instanceMethod yX5_isSpoilt, Cond.selects RX5 yX5_isSpoilt yX5_isSpoilt]
def wsX5_wouldBe_r2 : List Cond := [Cond.code yX5_isSpoilt cX5_isSpoilt 4 (some .boolean), Cond.fieldLink RX5 32 "FaultShrinkerModel" "rules" "I", Cond.methodLink RX5 42 yX5_kindsOf, Cond.instanceMethod yX5_kindsOf, Cond.selects RX5 yX5_kindsOf yX5_kindsOf, Cond.code yX5_kindsOf cX5_kindsOf 4 (some .int), Cond.fieldLink RX5 9 "FaultShrinkerModel" "kind" "[I", Cond.methodLink RX5 46 yX5_holds, Cond.instanceMethod yX5_holds, Cond.selects RX5 yX5_holds yX5_holds, Cond.code yX5_holds cX5_holds 3 (some .boolean), Cond.fieldLink RX5 13 "FaultShrinkerModel" "needs" "[I", Cond.fieldLink RX5 16 "FaultShrinkerModel" "spares" "[I", Cond.methodLink RX5 60 yJ6_bitCount_0f7a4, Cond.static yJ6_bitCount_0f7a4, Cond.initialized RJ6, Cond.code yJ6_bitCount_0f7a4 cJ6_bitCount_0f7a4 1 (some .int), Cond.constant RJ6 265 (1431655765), Cond.constant RJ6 266 (858993459), Cond.constant RJ6 267 (252645135), Cond.methodLink RX5 79 yX5_first, Cond.instanceMethod yX5_first, Cond.selects RX5 yX5_first yX5_first, Cond.code yX5_first cX5_first 5 (some .int)]
def wsX5_wouldBe_r3 : List Cond := [Cond.methodLink RX5 69 yX5_partOf, Cond.static yX5_partOf, Cond.code yX5_partOf cX5_partOf 4 (some .int), Cond.methodLink RX5 65 yX5_part, Cond.static yX5_part, Cond.code yX5_part cX5_part 6 (some .int), Cond.methodLink RX5 83 yX5_note, Cond.instanceMethod yX5_note, Cond.selects RX5 yX5_note yX5_note, Cond.code yX5_note cX5_note 7 none, Cond.fieldLink RX5 22 "FaultShrinkerModel" "step" "[I", Cond.methodLink RX5 155 yX5_spareEach, Cond.instanceMethod yX5_spareEach, Cond.selects RX5 yX5_spareEach yX5_spareEach, Cond.code yX5_spareEach cX5_spareEach 3 (some .int)]
def wsX5_wouldBe : List Cond := .code yX5_wouldBe cX5_wouldBe 3 (some .int) :: ((wsX5_wouldBe_r1 ++ (wsX5_wouldBe_r2 ++ wsX5_wouldBe_r3)) ++ wsX50)
def wsX5_would_r1 : List Cond := [Cond.fieldLink RX5 28 "FaultShrinkerModel" "thrown" "I", Cond.methodLink RX5 35 yX5_isIn, Cond.static yX5_isIn, Cond.initialized RX5, Cond.code yX5_isIn cX5_isIn 3 (some .boolean), Cond.methodLink RX5 158 yX5_wouldBe, Cond.instanceMethod yX5_wouldBe, Cond.selects RX5 yX5_wouldBe yX5_wouldBe, Cond.code yX5_wouldBe cX5_wouldBe 3 (some .int), Cond.fieldLink RX5 57 "FaultShrinkerModel" "steps" "I", Cond.fieldLink RX5 50 "FaultShrinkerModel" "tasted" "I", Cond.methodLink RX5 119 yX5_halve, Cond.instanceMethod yX5_halve, Cond.selects RX5 yX5_halve yX5_halve, Cond.code yX5_halve cX5_halve 5 (some .int), Cond.methodLink RX5 87 Lib.Math.min.name, Cond.static Lib.Math.min.name, Cond.initialized "java/lang/Math", Cond.code Lib.Math.min.name Lib.Math.min.code 2 (some .int), Cond.methodLink RX5 75 yX5_whole, Cond.instanceMethod yX5_whole, Cond.selects RX5 yX5_whole yX5_whole, Cond.code yX5_whole cX5_whole 1 (some .int), Cond.fieldLink RX5 39 "FaultShrinkerModel" "size" "I"]
def wsX5_would_r2 : List Cond := [Cond.methodLink RX5 72 yX5_taste, Cond.instanceMethod yX5_taste, Cond.selects RX5 yX5_taste yX5_taste, Cond.code yX5_taste cX5_taste 4 (some .boolean), Cond.fieldLink RX5 19 "FaultShrinkerModel" "known" "[I", Cond.methodLink RX5 53 yX5_isSpoilt, Cond.instanceMethod yX5_isSpoilt, Cond.selects RX5 yX5_isSpoilt yX5_isSpoilt, Cond.code yX5_isSpoilt cX5_isSpoilt 4 (some .boolean), Cond.fieldLink RX5 32 "FaultShrinkerModel" "rules" "I", Cond.methodLink RX5 42 yX5_kindsOf, Cond.instanceMethod yX5_kindsOf, Cond.selects RX5 yX5_kindsOf yX5_kindsOf, Cond.code yX5_kindsOf cX5_kindsOf 4 (some .int), Cond.fieldLink RX5 9 "FaultShrinkerModel" "kind" "[I", Cond.methodLink RX5 46 yX5_holds, Cond.instanceMethod yX5_holds, Cond.selects RX5 yX5_holds yX5_holds, Cond.code yX5_holds cX5_holds 3 (some .boolean), Cond.fieldLink RX5 13 "FaultShrinkerModel" "needs" "[I", Cond.fieldLink RX5 16 "FaultShrinkerModel" "spares" "[I", Cond.methodLink RX5 60 yJ6_bitCount_0f7a4, Cond.static yJ6_bitCount_0f7a4, Cond.initialized RJ6]
def wsX5_would_r3 : List Cond := [Cond.code yJ6_bitCount_0f7a4 cJ6_bitCount_0f7a4 1 (some .int), Cond.constant RJ6 265 (1431655765), Cond.constant RJ6 266 (858993459), Cond.constant RJ6 267 (252645135), Cond.methodLink RX5 79 yX5_first, Cond.instanceMethod yX5_first, Cond.selects RX5 yX5_first yX5_first, Cond.code yX5_first cX5_first 5 (some .int), Cond.methodLink RX5 69 yX5_partOf, Cond.static yX5_partOf, Cond.code yX5_partOf cX5_partOf 4 (some .int), Cond.methodLink RX5 65 yX5_part, Cond.static yX5_part, Cond.code yX5_part cX5_part 6 (some .int), Cond.methodLink RX5 83 yX5_note, Cond.instanceMethod yX5_note, Cond.selects RX5 yX5_note yX5_note, Cond.code yX5_note cX5_note 7 none, Cond.fieldLink RX5 22 "FaultShrinkerModel" "step" "[I", Cond.methodLink RX5 155 yX5_spareEach, Cond.instanceMethod yX5_spareEach, Cond.selects RX5 yX5_spareEach yX5_spareEach, Cond.code yX5_spareEach cX5_spareEach 3 (some .int), Cond.methodLink RX5 93 yX5_no]
def wsX5_would_r4 : List Cond := [Cond.instanceMethod yX5_no, Cond.selects RX5 yX5_no yX5_no, Cond.code yX5_no cX5_no 2 (some .int)]
def wsX5_would : List Cond := .code yX5_would cX5_would 2 (some .int) :: ((wsX5_would_r1 ++ (wsX5_would_r2 ++ (wsX5_would_r3 ++ wsX5_would_r4))) ++ wsX50)
def wsX5_leastDish : List Cond := .code yX5_leastDish cX5_leastDish 5 (some .int) :: ([.fieldLink RX5 32 "FaultShrinkerModel" "rules" "I", .fieldLink RX5 13 "FaultShrinkerModel" "needs" "[I", .methodLink RX5 75 yX5_whole, .instanceMethod yX5_whole, .selects RX5 yX5_whole yX5_whole, .initialized RX5, .code yX5_whole cX5_whole 1 (some .int), .fieldLink RX5 39 "FaultShrinkerModel" "size" "I", .methodLink RX5 42 yX5_kindsOf, .instanceMethod yX5_kindsOf, .selects RX5 yX5_kindsOf yX5_kindsOf, .code yX5_kindsOf cX5_kindsOf 4 (some .int), .fieldLink RX5 9 "FaultShrinkerModel" "kind" "[I", .methodLink RX5 60 yJ6_bitCount_0f7a4, .static yJ6_bitCount_0f7a4, .initialized RJ6, .code yJ6_bitCount_0f7a4 cJ6_bitCount_0f7a4 1 (some .int), .constant RJ6 265 (1431655765), .constant RJ6 266 (858993459), .constant RJ6 267 (252645135)] ++ wsX50)
def wsX5_least_r1 : List Cond := [Cond.fieldLink RX5 28 "FaultShrinkerModel" "thrown" "I", Cond.methodLink RX5 161 yX5_leastDish, Cond.instanceMethod yX5_leastDish, Cond.selects RX5 yX5_leastDish yX5_leastDish, Cond.initialized RX5, Cond.code yX5_leastDish cX5_leastDish 5 (some .int), Cond.fieldLink RX5 32 "FaultShrinkerModel" "rules" "I", Cond.fieldLink RX5 13 "FaultShrinkerModel" "needs" "[I", Cond.methodLink RX5 75 yX5_whole, Cond.instanceMethod yX5_whole, Cond.selects RX5 yX5_whole yX5_whole, Cond.code yX5_whole cX5_whole 1 (some .int), Cond.fieldLink RX5 39 "FaultShrinkerModel" "size" "I", Cond.methodLink RX5 42 yX5_kindsOf, Cond.instanceMethod yX5_kindsOf, Cond.selects RX5 yX5_kindsOf yX5_kindsOf, Cond.code yX5_kindsOf cX5_kindsOf 4 (some .int), Cond.fieldLink RX5 9 "FaultShrinkerModel" "kind" "[I", Cond.methodLink RX5 60 yJ6_bitCount_0f7a4, Cond.static yJ6_bitCount_0f7a4, Cond.initialized RJ6, Cond.code yJ6_bitCount_0f7a4 cJ6_bitCount_0f7a4 1 (some .int), Cond.constant RJ6 265 (1431655765), Cond.constant RJ6 266 (858993459)]
def wsX5_least_r2 : List Cond := [Cond.constant RJ6 267 (252645135)]
def wsX5_least : List Cond := .code yX5_least cX5_least 1 (some .int) :: ((wsX5_least_r1 ++ wsX5_least_r2) ++ wsX50)
def wsX5_isTightDish : List Cond := .code yX5_isTightDish cX5_isTightDish 3 (some .boolean) :: ([.fieldLink RX5 39 "FaultShrinkerModel" "size" "I", .methodLink RX5 53 yX5_isSpoilt, .instanceMethod yX5_isSpoilt, .selects RX5 yX5_isSpoilt yX5_isSpoilt, .initialized RX5, .code yX5_isSpoilt cX5_isSpoilt 4 (some .boolean), .fieldLink RX5 32 "FaultShrinkerModel" "rules" "I", .methodLink RX5 42 yX5_kindsOf, .instanceMethod yX5_kindsOf, .selects RX5 yX5_kindsOf yX5_kindsOf, .code yX5_kindsOf cX5_kindsOf 4 (some .int), .fieldLink RX5 9 "FaultShrinkerModel" "kind" "[I", .methodLink RX5 46 yX5_holds, .instanceMethod yX5_holds, .selects RX5 yX5_holds yX5_holds, .code yX5_holds cX5_holds 3 (some .boolean), .fieldLink RX5 13 "FaultShrinkerModel" "needs" "[I", .fieldLink RX5 16 "FaultShrinkerModel" "spares" "[I"] ++ wsX50)
def wsX5_isTight_r1 : List Cond := [Cond.fieldLink RX5 28 "FaultShrinkerModel" "thrown" "I", Cond.methodLink RX5 75 yX5_whole, Cond.instanceMethod yX5_whole, Cond.selects RX5 yX5_whole yX5_whole, Cond.initialized RX5, Cond.code yX5_whole cX5_whole 1 (some .int), Cond.fieldLink RX5 39 "FaultShrinkerModel" "size" "I", Cond.methodLink RX5 35 yX5_isIn, Cond.static yX5_isIn, Cond.code yX5_isIn cX5_isIn 3 (some .boolean), Cond.methodLink RX5 164 yX5_isTightDish, Cond.instanceMethod yX5_isTightDish, Cond.selects RX5 yX5_isTightDish yX5_isTightDish, Cond.code yX5_isTightDish cX5_isTightDish 3 (some .boolean), Cond.methodLink RX5 53 yX5_isSpoilt, Cond.instanceMethod yX5_isSpoilt, Cond.selects RX5 yX5_isSpoilt yX5_isSpoilt, Cond.code yX5_isSpoilt cX5_isSpoilt 4 (some .boolean), Cond.fieldLink RX5 32 "FaultShrinkerModel" "rules" "I", Cond.methodLink RX5 42 yX5_kindsOf, Cond.instanceMethod yX5_kindsOf, Cond.selects RX5 yX5_kindsOf yX5_kindsOf, Cond.code yX5_kindsOf cX5_kindsOf 4 (some .int), Cond.fieldLink RX5 9 "FaultShrinkerModel" "kind" "[I"]
def wsX5_isTight_r2 : List Cond := [Cond.methodLink RX5 46 yX5_holds, Cond.instanceMethod yX5_holds, Cond.selects RX5 yX5_holds yX5_holds, Cond.code yX5_holds cX5_holds 3 (some .boolean), Cond.fieldLink RX5 13 "FaultShrinkerModel" "needs" "[I", Cond.fieldLink RX5 16 "FaultShrinkerModel" "spares" "[I"]
def wsX5_isTight : List Cond := .code yX5_isTight cX5_isTight 2 (some .boolean) :: ((wsX5_isTight_r1 ++ wsX5_isTight_r2) ++ wsX50)
def wsX5_without_r1 : List Cond := [Cond.fieldLink RX5 39 "FaultShrinkerModel" "size" "I", Cond.fieldLink RX5 9 "FaultShrinkerModel" "kind" "[I", Cond.fieldLink RX5 50 "FaultShrinkerModel" "tasted" "I", Cond.methodLink RX5 99 yX5_takeOut, Cond.instanceMethod yX5_takeOut, Cond.selects RX5 yX5_takeOut yX5_takeOut, Cond.initialized RX5, Cond.code yX5_takeOut cX5_takeOut 4 (some .int), Cond.methodLink RX5 119 yX5_halve, Cond.instanceMethod yX5_halve, Cond.selects RX5 yX5_halve yX5_halve, Cond.code yX5_halve cX5_halve 5 (some .int), Cond.fieldLink RX5 57 "FaultShrinkerModel" "steps" "I", Cond.methodLink RX5 87 Lib.Math.min.name, Cond.static Lib.Math.min.name, Cond.initialized "java/lang/Math", Cond.code Lib.Math.min.name Lib.Math.min.code 2 (some .int), Cond.methodLink RX5 75 yX5_whole, Cond.instanceMethod yX5_whole, Cond.selects RX5 yX5_whole yX5_whole, Cond.code yX5_whole cX5_whole 1 (some .int), Cond.methodLink RX5 72 yX5_taste, Cond.instanceMethod yX5_taste, Cond.selects RX5 yX5_taste yX5_taste]
def wsX5_without_r2 : List Cond := [Cond.code yX5_taste cX5_taste 4 (some .boolean), Cond.fieldLink RX5 19 "FaultShrinkerModel" "known" "[I", Cond.methodLink RX5 53 yX5_isSpoilt, Cond.instanceMethod yX5_isSpoilt, Cond.selects RX5 yX5_isSpoilt yX5_isSpoilt, Cond.code yX5_isSpoilt cX5_isSpoilt 4 (some .boolean), Cond.fieldLink RX5 32 "FaultShrinkerModel" "rules" "I", Cond.methodLink RX5 42 yX5_kindsOf, Cond.instanceMethod yX5_kindsOf, Cond.selects RX5 yX5_kindsOf yX5_kindsOf, Cond.code yX5_kindsOf cX5_kindsOf 4 (some .int), Cond.methodLink RX5 46 yX5_holds, Cond.instanceMethod yX5_holds, Cond.selects RX5 yX5_holds yX5_holds, Cond.code yX5_holds cX5_holds 3 (some .boolean), Cond.fieldLink RX5 13 "FaultShrinkerModel" "needs" "[I", Cond.fieldLink RX5 16 "FaultShrinkerModel" "spares" "[I", Cond.methodLink RX5 60 yJ6_bitCount_0f7a4, Cond.static yJ6_bitCount_0f7a4, Cond.initialized RJ6, Cond.code yJ6_bitCount_0f7a4 cJ6_bitCount_0f7a4 1 (some .int), Cond.constant RJ6 265 (1431655765), Cond.constant RJ6 266 (858993459), Cond.constant RJ6 267 (252645135)]
def wsX5_without_r3 : List Cond := [Cond.methodLink RX5 79 yX5_first, Cond.instanceMethod yX5_first, Cond.selects RX5 yX5_first yX5_first, Cond.code yX5_first cX5_first 5 (some .int), Cond.methodLink RX5 69 yX5_partOf, Cond.static yX5_partOf, Cond.code yX5_partOf cX5_partOf 4 (some .int), Cond.methodLink RX5 65 yX5_part, Cond.static yX5_part, Cond.code yX5_part cX5_part 6 (some .int), Cond.methodLink RX5 83 yX5_note, Cond.instanceMethod yX5_note, Cond.selects RX5 yX5_note yX5_note, Cond.code yX5_note cX5_note 7 none, Cond.fieldLink RX5 22 "FaultShrinkerModel" "step" "[I"]
def wsX5_without : List Cond := .code yX5_without cX5_without 4 (some .int) :: ((wsX5_without_r1 ++ (wsX5_without_r2 ++ wsX5_without_r3)) ++ wsX50)
def wsX5_advise_r1 : List Cond := [Cond.fieldLink RX5 28 "FaultShrinkerModel" "thrown" "I", Cond.fieldLink RX5 39 "FaultShrinkerModel" "size" "I", Cond.methodLink RX5 167 yX5_without, Cond.instanceMethod yX5_without, Cond.selects RX5 yX5_without yX5_without, Cond.initialized RX5, Cond.code yX5_without cX5_without 4 (some .int), Cond.fieldLink RX5 9 "FaultShrinkerModel" "kind" "[I", Cond.fieldLink RX5 50 "FaultShrinkerModel" "tasted" "I", Cond.methodLink RX5 99 yX5_takeOut, Cond.instanceMethod yX5_takeOut, Cond.selects RX5 yX5_takeOut yX5_takeOut, Cond.code yX5_takeOut cX5_takeOut 4 (some .int), Cond.methodLink RX5 119 yX5_halve, Cond.instanceMethod yX5_halve, Cond.selects RX5 yX5_halve yX5_halve, Cond.code yX5_halve cX5_halve 5 (some .int), Cond.fieldLink RX5 57 "FaultShrinkerModel" "steps" "I", Cond.methodLink RX5 87 Lib.Math.min.name, Cond.static Lib.Math.min.name, Cond.initialized "java/lang/Math", Cond.code Lib.Math.min.name Lib.Math.min.code 2 (some .int), Cond.methodLink RX5 75 yX5_whole, Cond.instanceMethod yX5_whole]
def wsX5_advise_r2 : List Cond := [Cond.selects RX5 yX5_whole yX5_whole, Cond.code yX5_whole cX5_whole 1 (some .int), Cond.methodLink RX5 72 yX5_taste, Cond.instanceMethod yX5_taste, Cond.selects RX5 yX5_taste yX5_taste, Cond.code yX5_taste cX5_taste 4 (some .boolean), Cond.fieldLink RX5 19 "FaultShrinkerModel" "known" "[I", Cond.methodLink RX5 53 yX5_isSpoilt, Cond.instanceMethod yX5_isSpoilt, Cond.selects RX5 yX5_isSpoilt yX5_isSpoilt, Cond.code yX5_isSpoilt cX5_isSpoilt 4 (some .boolean), Cond.fieldLink RX5 32 "FaultShrinkerModel" "rules" "I", Cond.methodLink RX5 42 yX5_kindsOf, Cond.instanceMethod yX5_kindsOf, Cond.selects RX5 yX5_kindsOf yX5_kindsOf, Cond.code yX5_kindsOf cX5_kindsOf 4 (some .int), Cond.methodLink RX5 46 yX5_holds, Cond.instanceMethod yX5_holds, Cond.selects RX5 yX5_holds yX5_holds, Cond.code yX5_holds cX5_holds 3 (some .boolean), Cond.fieldLink RX5 13 "FaultShrinkerModel" "needs" "[I", Cond.fieldLink RX5 16 "FaultShrinkerModel" "spares" "[I", Cond.methodLink RX5 60 yJ6_bitCount_0f7a4, Cond.static yJ6_bitCount_0f7a4]
def wsX5_advise_r3 : List Cond := [Cond.initialized RJ6, Cond.code yJ6_bitCount_0f7a4 cJ6_bitCount_0f7a4 1 (some .int), Cond.constant RJ6 265 (1431655765), Cond.constant RJ6 266 (858993459), Cond.constant RJ6 267 (252645135), Cond.methodLink RX5 79 yX5_first, Cond.instanceMethod yX5_first, Cond.selects RX5 yX5_first yX5_first, Cond.code yX5_first cX5_first 5 (some .int), Cond.methodLink RX5 69 yX5_partOf, Cond.static yX5_partOf, Cond.code yX5_partOf cX5_partOf 4 (some .int), Cond.methodLink RX5 65 yX5_part, Cond.static yX5_part, Cond.code yX5_part cX5_part 6 (some .int), Cond.methodLink RX5 83 yX5_note, Cond.instanceMethod yX5_note, Cond.selects RX5 yX5_note yX5_note, Cond.code yX5_note cX5_note 7 none, Cond.fieldLink RX5 22 "FaultShrinkerModel" "step" "[I"]
def wsX5_advise : List Cond := .code yX5_advise cX5_advise 5 (some .int) :: ((wsX5_advise_r1 ++ (wsX5_advise_r2 ++ wsX5_advise_r3)) ++ wsX50)
def wsX5_mean : List Cond := .code yX5_mean cX5_mean 3 (some .double) :: ([.fieldLink RX5 28 "FaultShrinkerModel" "thrown" "I", .fieldLink RX5 32 "FaultShrinkerModel" "rules" "I", .fieldLink RX5 13 "FaultShrinkerModel" "needs" "[I", .methodLink RX5 60 yJ6_bitCount_0f7a4, .static yJ6_bitCount_0f7a4, .initialized RJ6, .code yJ6_bitCount_0f7a4 cJ6_bitCount_0f7a4 1 (some .int), .constant RJ6 265 (1431655765), .constant RJ6 266 (858993459), .constant RJ6 267 (252645135)] ++ wsX50)
def wsX5_digest_r1 : List Cond := [Cond.fieldLink RX5 28 "FaultShrinkerModel" "thrown" "I", Cond.constantLong RX5 170 (1499), Cond.constantLong RX5 172 (31), Cond.fieldLink RX5 39 "FaultShrinkerModel" "size" "I", Cond.fieldLink RX5 9 "FaultShrinkerModel" "kind" "[I", Cond.fieldLink RX5 32 "FaultShrinkerModel" "rules" "I", Cond.fieldLink RX5 128 "FaultShrinkerModel" "keptSteps" "I", Cond.fieldLink RX5 25 "FaultShrinkerModel" "keptStep" "[I", Cond.methodLink RX5 152 yX5_counted, Cond.instanceMethod yX5_counted, Cond.selects RX5 yX5_counted yX5_counted, Cond.initialized RX5, Cond.code yX5_counted cX5_counted 2 (some .int), Cond.fieldLink RX5 125 "FaultShrinkerModel" "keptTasted" "I", Cond.fieldLink RX5 137 "FaultShrinkerModel" "all" "I", Cond.methodLink RX5 149 yX5_hold, Cond.instanceMethod yX5_hold, Cond.selects RX5 yX5_hold yX5_hold, Cond.code yX5_hold cX5_hold 4 (some .int), Cond.methodLink RX5 75 yX5_whole, Cond.instanceMethod yX5_whole, Cond.selects RX5 yX5_whole yX5_whole, Cond.code yX5_whole cX5_whole 1 (some .int), Cond.methodLink RX5 42 yX5_kindsOf]
def wsX5_digest_r2 : List Cond := [Cond.instanceMethod yX5_kindsOf, Cond.selects RX5 yX5_kindsOf yX5_kindsOf, Cond.code yX5_kindsOf cX5_kindsOf 4 (some .int), Cond.methodLink RX5 46 yX5_holds, Cond.instanceMethod yX5_holds, Cond.selects RX5 yX5_holds yX5_holds, Cond.code yX5_holds cX5_holds 3 (some .boolean), Cond.fieldLink RX5 13 "FaultShrinkerModel" "needs" "[I", Cond.fieldLink RX5 16 "FaultShrinkerModel" "spares" "[I", Cond.methodLink RX5 143 yX5_keptSize, Cond.instanceMethod yX5_keptSize, Cond.selects RX5 yX5_keptSize yX5_keptSize, Cond.code yX5_keptSize cX5_keptSize 1 (some .int), Cond.fieldLink RX5 122 "FaultShrinkerModel" "keptDish" "I", Cond.methodLink RX5 60 yJ6_bitCount_0f7a4, Cond.static yJ6_bitCount_0f7a4, Cond.initialized RJ6, Cond.code yJ6_bitCount_0f7a4 cJ6_bitCount_0f7a4 1 (some .int), Cond.constant RJ6 265 (1431655765), Cond.constant RJ6 266 (858993459), Cond.constant RJ6 267 (252645135), Cond.methodLink RX5 116 yX5_ruleTold, Cond.instanceMethod yX5_ruleTold, Cond.selects RX5 yX5_ruleTold yX5_ruleTold]
def wsX5_digest_r3 : List Cond := [Cond.code yX5_ruleTold cX5_ruleTold 3 (some .int), Cond.fieldLink RX5 109 "FaultShrinkerModel" "isKept" "Z", Cond.fieldLink RX5 113 "FaultShrinkerModel" "keptKinds" "I", Cond.methodLink RX5 146 yX5_keptPlace, Cond.instanceMethod yX5_keptPlace, Cond.selects RX5 yX5_keptPlace yX5_keptPlace, Cond.code yX5_keptPlace cX5_keptPlace 2 (some .int), Cond.methodLink RX5 65 yX5_part, Cond.static yX5_part, Cond.code yX5_part cX5_part 6 (some .int), Cond.methodLink RX5 140 yJ6_numberOfTrailingZeros_0f7a4, Cond.static yJ6_numberOfTrailingZeros_0f7a4, Cond.code yJ6_numberOfTrailingZeros_0f7a4 cJ6_numberOfTrailingZeros_0f7a4 2 (some .int), Cond.constant RJ6 264 (65536), Cond.methodLink RX5 158 yX5_wouldBe, Cond.instanceMethod yX5_wouldBe, Cond.selects RX5 yX5_wouldBe yX5_wouldBe, Cond.code yX5_wouldBe cX5_wouldBe 3 (some .int), Cond.fieldLink RX5 57 "FaultShrinkerModel" "steps" "I", Cond.fieldLink RX5 50 "FaultShrinkerModel" "tasted" "I", Cond.methodLink RX5 119 yX5_halve, Cond.instanceMethod yX5_halve, Cond.selects RX5 yX5_halve yX5_halve, Cond.code yX5_halve cX5_halve 5 (some .int)]
def wsX5_digest_r4 : List Cond := [Cond.methodLink RX5 87 Lib.Math.min.name, Cond.static Lib.Math.min.name, Cond.initialized "java/lang/Math", Cond.code Lib.Math.min.name Lib.Math.min.code 2 (some .int), Cond.methodLink RX5 72 yX5_taste, Cond.instanceMethod yX5_taste, Cond.selects RX5 yX5_taste yX5_taste, Cond.code yX5_taste cX5_taste 4 (some .boolean), Cond.fieldLink RX5 19 "FaultShrinkerModel" "known" "[I", Cond.methodLink RX5 53 yX5_isSpoilt, Cond.instanceMethod yX5_isSpoilt, Cond.selects RX5 yX5_isSpoilt yX5_isSpoilt, Cond.code yX5_isSpoilt cX5_isSpoilt 4 (some .boolean), Cond.methodLink RX5 79 yX5_first, Cond.instanceMethod yX5_first, Cond.selects RX5 yX5_first yX5_first, Cond.code yX5_first cX5_first 5 (some .int), Cond.methodLink RX5 69 yX5_partOf, Cond.static yX5_partOf, Cond.code yX5_partOf cX5_partOf 4 (some .int), Cond.methodLink RX5 83 yX5_note, Cond.instanceMethod yX5_note, Cond.selects RX5 yX5_note yX5_note, Cond.code yX5_note cX5_note 7 none]
def wsX5_digest_r5 : List Cond := [Cond.fieldLink RX5 22 "FaultShrinkerModel" "step" "[I", Cond.methodLink RX5 155 yX5_spareEach, Cond.instanceMethod yX5_spareEach, Cond.selects RX5 yX5_spareEach yX5_spareEach, Cond.code yX5_spareEach cX5_spareEach 3 (some .int), Cond.methodLink RX5 161 yX5_leastDish, Cond.instanceMethod yX5_leastDish, Cond.selects RX5 yX5_leastDish yX5_leastDish, Cond.code yX5_leastDish cX5_leastDish 5 (some .int)]
def wsX5_digest : List Cond := .code yX5_digest cX5_digest 5 (some .long) :: ((wsX5_digest_r1 ++ (wsX5_digest_r2 ++ (wsX5_digest_r3 ++ (wsX5_digest_r4 ++ wsX5_digest_r5)))) ++ wsX50)
def wsJ9_max_7cf53 : List Cond := .code yJ9_max_7cf53 cJ9_max_7cf53 2 (some .int) :: ([])
def wsJ9_min_7cf53 : List Cond := .code yJ9_min_7cf53 cJ9_min_7cf53 2 (some .int) :: ([])
def wsL_add_r1 : List Cond := [Cond.classLink RL 13 "java/lang/IndexOutOfBoundsException", Cond.classLink RL 15 "java/lang/IllegalStateException", Cond.methodLink RL 7 yX4_add, Cond.instanceMethod yX4_add, Cond.selects RX4 yX4_add yX4_add, Cond.initialized RX4, Cond.code yX4_add cX4_add 2 (some .int), Cond.classLink RX4 46 "java/lang/IndexOutOfBoundsException", Cond.initialized "java/lang/IndexOutOfBoundsException", Cond.classLink RX4 57 "java/lang/IllegalStateException", Cond.initialized "java/lang/IllegalStateException", Cond.fieldLink RX4 10 "FaultShrinker" "recipe" "LFaultShrinker$Recipe;", Cond.methodLink RX4 42 yX4_isKind, Cond.static yX4_isKind, Cond.code yX4_isKind cX4_isKind 1 (some .boolean), Cond.methodLink RX4 53 yX0_isFull, Cond.instanceMethod yX0_isFull, Cond.selects RX0 yX0_isFull yX0_isFull, Cond.initialized RX0, Cond.code yX0_isFull cX0_isFull 1 (some .boolean), Cond.fieldLink RX0 15 "FaultShrinker$Recipe" "size" "I", Cond.fieldLink RX0 9 "FaultShrinker$Recipe" "kinds" "[I", Cond.methodLink RX4 62 yX0_append, Cond.instanceMethod yX0_append]
def wsL_add_r2 : List Cond := [Cond.selects RX0 yX0_append yX0_append, Cond.code yX0_append cX0_append 2 none, Cond.methodLink RX0 23 yX0_isFull, Cond.methodLink RX4 66 yX0_size, Cond.instanceMethod yX0_size, Cond.selects RX0 yX0_size yX0_size, Cond.code yX0_size cX0_size 1 (some .int)]
def wsL_add : List Cond := .codeWith yL_add cL_add 4 (some .int) [(0, 9, 12, 13), (0, 9, 15, 15)] :: ((wsL_add_r1 ++ wsL_add_r2) ++ wsX40 ++ wsX00 ++ (vx_atS RX4 50 "java/lang/IndexOutOfBoundsException" ["java/lang/RuntimeException", "java/lang/Exception"]).filter goodWord ++ (vx_atS RX4 61 "java/lang/IllegalStateException" ["java/lang/RuntimeException", "java/lang/Exception"]).filter goodWord)
def wsL_drop_r1 : List Cond := [Cond.classLink RL 13 "java/lang/IndexOutOfBoundsException", Cond.methodLink RL 17 yX4_drop, Cond.instanceMethod yX4_drop, Cond.selects RX4 yX4_drop yX4_drop, Cond.initialized RX4, Cond.code yX4_drop cX4_drop 3 (some .int), Cond.classLink RX4 46 "java/lang/IndexOutOfBoundsException", Cond.initialized "java/lang/IndexOutOfBoundsException", Cond.fieldLink RX4 10 "FaultShrinker" "recipe" "LFaultShrinker$Recipe;", Cond.methodLink RX4 70 yX0_hasPlace, Cond.instanceMethod yX0_hasPlace, Cond.selects RX0 yX0_hasPlace yX0_hasPlace, Cond.initialized RX0, Cond.code yX0_hasPlace cX0_hasPlace 2 (some .boolean), Cond.fieldLink RX0 15 "FaultShrinker$Recipe" "size" "I", Cond.methodLink RX4 75 yX0_kindAt, Cond.instanceMethod yX0_kindAt, Cond.selects RX0 yX0_kindAt yX0_kindAt, Cond.code yX0_kindAt cX0_kindAt 2 (some .int), Cond.fieldLink RX0 9 "FaultShrinker$Recipe" "kinds" "[I", Cond.methodLink RX0 19 yX0_hasPlace, Cond.methodLink RX4 79 yX0_takeOut, Cond.instanceMethod yX0_takeOut, Cond.selects RX0 yX0_takeOut yX0_takeOut]
def wsL_drop_r2 : List Cond := [Cond.code yX0_takeOut cX0_takeOut 3 none]
def wsL_drop : List Cond := .codeWith yL_drop cL_drop 4 (some .int) [(0, 9, 12, 13)] :: ((wsL_drop_r1 ++ wsL_drop_r2) ++ wsX40 ++ wsX00 ++ (vx_atS RX4 50 "java/lang/IndexOutOfBoundsException" ["java/lang/RuntimeException", "java/lang/Exception"]).filter goodWord)
def wsL_kind : List Cond := .codeWith yL_kind cL_kind 4 (some .int) [(0, 9, 12, 13)] :: ([.classLink RL 13 "java/lang/IndexOutOfBoundsException", .methodLink RL 20 yX4_kind, .instanceMethod yX4_kind, .selects RX4 yX4_kind yX4_kind, .initialized RX4, .code yX4_kind cX4_kind 2 (some .int), .classLink RX4 46 "java/lang/IndexOutOfBoundsException", .initialized "java/lang/IndexOutOfBoundsException", .fieldLink RX4 10 "FaultShrinker" "recipe" "LFaultShrinker$Recipe;", .methodLink RX4 70 yX0_hasPlace, .instanceMethod yX0_hasPlace, .selects RX0 yX0_hasPlace yX0_hasPlace, .initialized RX0, .code yX0_hasPlace cX0_hasPlace 2 (some .boolean), .fieldLink RX0 15 "FaultShrinker$Recipe" "size" "I", .methodLink RX4 75 yX0_kindAt, .instanceMethod yX0_kindAt, .selects RX0 yX0_kindAt yX0_kindAt, .code yX0_kindAt cX0_kindAt 2 (some .int), .fieldLink RX0 9 "FaultShrinker$Recipe" "kinds" "[I", .methodLink RX0 19 yX0_hasPlace] ++ wsX40 ++ wsX00 ++ (vx_atS RX4 50 "java/lang/IndexOutOfBoundsException" ["java/lang/RuntimeException", "java/lang/Exception"]).filter goodWord)
def wsL_rule : List Cond := .codeWith yL_rule cL_rule 3 (some .int) [(0, 8, 11, 15)] :: ([.classLink RL 15 "java/lang/IllegalStateException", .methodLink RL 23 yX4_rule, .instanceMethod yX4_rule, .selects RX4 yX4_rule yX4_rule, .initialized RX4, .code yX4_rule cX4_rule 1 (some .int), .classLink RX4 57 "java/lang/IllegalStateException", .initialized "java/lang/IllegalStateException", .fieldLink RX4 19 "FaultShrinker" "rules" "LFaultShrinker$RuleBook;", .methodLink RX4 82 yX1_isFull, .instanceMethod yX1_isFull, .selects RX1 yX1_isFull yX1_isFull, .initialized RX1, .code yX1_isFull cX1_isFull 1 (some .boolean), .fieldLink RX1 18 "FaultShrinker$RuleBook" "size" "I", .methodLink RX4 85 yX1_append, .instanceMethod yX1_append, .selects RX1 yX1_append yX1_append, .code yX1_append cX1_append 1 none, .methodLink RX1 22 yX1_isFull, .methodLink RX4 87 yX1_size, .instanceMethod yX1_size, .selects RX1 yX1_size yX1_size, .code yX1_size cX1_size 1 (some .int)] ++ wsX40 ++ wsX10 ++ (vx_atS RX4 61 "java/lang/IllegalStateException" ["java/lang/RuntimeException", "java/lang/Exception"]).filter goodWord)
def wsL_setNeeds_r1 : List Cond := [Cond.classLink RL 13 "java/lang/IndexOutOfBoundsException", Cond.classLink RL 15 "java/lang/IllegalStateException", Cond.methodLink RL 27 yX4_setNeeds, Cond.instanceMethod yX4_setNeeds, Cond.selects RX4 yX4_setNeeds yX4_setNeeds, Cond.initialized RX4, Cond.code yX4_setNeeds cX4_setNeeds 5 (some .boolean), Cond.classLink RX4 46 "java/lang/IndexOutOfBoundsException", Cond.initialized "java/lang/IndexOutOfBoundsException", Cond.classLink RX4 57 "java/lang/IllegalStateException", Cond.initialized "java/lang/IllegalStateException", Cond.fieldLink RX4 19 "FaultShrinker" "rules" "LFaultShrinker$RuleBook;", Cond.methodLink RX4 88 yX1_hasRule, Cond.instanceMethod yX1_hasRule, Cond.selects RX1 yX1_hasRule yX1_hasRule, Cond.initialized RX1, Cond.code yX1_hasRule cX1_hasRule 2 (some .boolean), Cond.fieldLink RX1 18 "FaultShrinker$RuleBook" "size" "I", Cond.methodLink RX4 42 yX4_isKind, Cond.static yX4_isKind, Cond.code yX4_isKind cX4_isKind 1 (some .boolean), Cond.methodLink RX4 93 yX1_sparedBy, Cond.instanceMethod yX1_sparedBy, Cond.selects RX1 yX1_sparedBy yX1_sparedBy]
def wsL_setNeeds_r2 : List Cond := [Cond.code yX1_sparedBy cX1_sparedBy 2 (some .int), Cond.fieldLink RX1 15 "FaultShrinker$RuleBook" "spared" "[I", Cond.methodLink RX1 26 yX1_hasRule, Cond.methodLink RX4 96 yX4_hasBit, Cond.static yX4_hasBit, Cond.code yX4_hasBit cX4_hasBit 2 (some .boolean), Cond.methodLink RX4 102 yX1_neededBy, Cond.instanceMethod yX1_neededBy, Cond.selects RX1 yX1_neededBy yX1_neededBy, Cond.code yX1_neededBy cX1_neededBy 2 (some .int), Cond.fieldLink RX1 9 "FaultShrinker$RuleBook" "needed" "[I", Cond.methodLink RX4 105 yX4_withBit, Cond.static yX4_withBit, Cond.code yX4_withBit cX4_withBit 3 (some .int), Cond.methodLink RX4 109 yX1_putNeeded, Cond.instanceMethod yX1_putNeeded, Cond.selects RX1 yX1_putNeeded yX1_putNeeded, Cond.code yX1_putNeeded cX1_putNeeded 3 none]
def wsL_setNeeds : List Cond := .codeWith yL_setNeeds cL_setNeeds 6 (some .int) [(0, 19, 22, 13), (0, 19, 26, 15)] :: ((wsL_setNeeds_r1 ++ wsL_setNeeds_r2) ++ wsX40 ++ wsX10 ++ (vx_atS RX4 50 "java/lang/IndexOutOfBoundsException" ["java/lang/RuntimeException", "java/lang/Exception"]).filter goodWord ++ (vx_atS RX4 61 "java/lang/IllegalStateException" ["java/lang/RuntimeException", "java/lang/Exception"]).filter goodWord)
def wsL_setSpares_r1 : List Cond := [Cond.classLink RL 13 "java/lang/IndexOutOfBoundsException", Cond.classLink RL 15 "java/lang/IllegalStateException", Cond.methodLink RL 31 yX4_setSpares, Cond.instanceMethod yX4_setSpares, Cond.selects RX4 yX4_setSpares yX4_setSpares, Cond.initialized RX4, Cond.code yX4_setSpares cX4_setSpares 5 (some .boolean), Cond.classLink RX4 46 "java/lang/IndexOutOfBoundsException", Cond.initialized "java/lang/IndexOutOfBoundsException", Cond.classLink RX4 57 "java/lang/IllegalStateException", Cond.initialized "java/lang/IllegalStateException", Cond.fieldLink RX4 19 "FaultShrinker" "rules" "LFaultShrinker$RuleBook;", Cond.methodLink RX4 88 yX1_hasRule, Cond.instanceMethod yX1_hasRule, Cond.selects RX1 yX1_hasRule yX1_hasRule, Cond.initialized RX1, Cond.code yX1_hasRule cX1_hasRule 2 (some .boolean), Cond.fieldLink RX1 18 "FaultShrinker$RuleBook" "size" "I", Cond.methodLink RX4 42 yX4_isKind, Cond.static yX4_isKind, Cond.code yX4_isKind cX4_isKind 1 (some .boolean), Cond.methodLink RX4 102 yX1_neededBy, Cond.instanceMethod yX1_neededBy, Cond.selects RX1 yX1_neededBy yX1_neededBy]
def wsL_setSpares_r2 : List Cond := [Cond.code yX1_neededBy cX1_neededBy 2 (some .int), Cond.fieldLink RX1 9 "FaultShrinker$RuleBook" "needed" "[I", Cond.methodLink RX1 26 yX1_hasRule, Cond.methodLink RX4 96 yX4_hasBit, Cond.static yX4_hasBit, Cond.code yX4_hasBit cX4_hasBit 2 (some .boolean), Cond.methodLink RX4 93 yX1_sparedBy, Cond.instanceMethod yX1_sparedBy, Cond.selects RX1 yX1_sparedBy yX1_sparedBy, Cond.code yX1_sparedBy cX1_sparedBy 2 (some .int), Cond.fieldLink RX1 15 "FaultShrinker$RuleBook" "spared" "[I", Cond.methodLink RX4 105 yX4_withBit, Cond.static yX4_withBit, Cond.code yX4_withBit cX4_withBit 3 (some .int), Cond.methodLink RX4 115 yX1_putSpared, Cond.instanceMethod yX1_putSpared, Cond.selects RX1 yX1_putSpared yX1_putSpared, Cond.code yX1_putSpared cX1_putSpared 3 none]
def wsL_setSpares : List Cond := .codeWith yL_setSpares cL_setSpares 6 (some .int) [(0, 19, 22, 13), (0, 19, 26, 15)] :: ((wsL_setSpares_r1 ++ wsL_setSpares_r2) ++ wsX40 ++ wsX10 ++ (vx_atS RX4 50 "java/lang/IndexOutOfBoundsException" ["java/lang/RuntimeException", "java/lang/Exception"]).filter goodWord ++ (vx_atS RX4 61 "java/lang/IllegalStateException" ["java/lang/RuntimeException", "java/lang/Exception"]).filter goodWord)
def wsL_told_r1 : List Cond := [Cond.classLink RL 13 "java/lang/IndexOutOfBoundsException", Cond.methodLink RL 34 yX4_told, Cond.instanceMethod yX4_told, Cond.selects RX4 yX4_told yX4_told, Cond.initialized RX4, Cond.code yX4_told cX4_told 3 (some .int), Cond.classLink RX4 46 "java/lang/IndexOutOfBoundsException", Cond.initialized "java/lang/IndexOutOfBoundsException", Cond.fieldLink RX4 19 "FaultShrinker" "rules" "LFaultShrinker$RuleBook;", Cond.methodLink RX4 88 yX1_hasRule, Cond.instanceMethod yX1_hasRule, Cond.selects RX1 yX1_hasRule yX1_hasRule, Cond.initialized RX1, Cond.code yX1_hasRule cX1_hasRule 2 (some .boolean), Cond.fieldLink RX1 18 "FaultShrinker$RuleBook" "size" "I", Cond.methodLink RX4 120 yX4_ruleFact, Cond.instanceMethod yX4_ruleFact, Cond.selects RX4 yX4_ruleFact yX4_ruleFact, Cond.code yX4_ruleFact cX4_ruleFact 3 (some .int), Cond.fieldLink RX4 10 "FaultShrinker" "recipe" "LFaultShrinker$Recipe;", Cond.fieldLink RX4 148 "FaultShrinker" "keptListKinds" "I", Cond.methodLink RX4 102 yX1_neededBy, Cond.instanceMethod yX1_neededBy, Cond.selects RX1 yX1_neededBy yX1_neededBy]
def wsL_told_r2 : List Cond := [Cond.code yX1_neededBy cX1_neededBy 2 (some .int), Cond.fieldLink RX1 9 "FaultShrinker$RuleBook" "needed" "[I", Cond.methodLink RX1 26 yX1_hasRule, Cond.methodLink RX4 93 yX1_sparedBy, Cond.instanceMethod yX1_sparedBy, Cond.selects RX1 yX1_sparedBy yX1_sparedBy, Cond.code yX1_sparedBy cX1_sparedBy 2 (some .int), Cond.fieldLink RX1 15 "FaultShrinker$RuleBook" "spared" "[I", Cond.methodLink RX4 187 yJ6_bitCount_0f7a4, Cond.static yJ6_bitCount_0f7a4, Cond.initialized RJ6, Cond.code yJ6_bitCount_0f7a4 cJ6_bitCount_0f7a4 1 (some .int), Cond.constant RJ6 265 (1431655765), Cond.constant RJ6 266 (858993459), Cond.constant RJ6 267 (252645135), Cond.methodLink RX4 135 yX0_wholeDish, Cond.instanceMethod yX0_wholeDish, Cond.selects RX0 yX0_wholeDish yX0_wholeDish, Cond.initialized RX0, Cond.code yX0_wholeDish cX0_wholeDish 1 (some .int), Cond.fieldLink RX0 15 "FaultShrinker$Recipe" "size" "I", Cond.methodLink RX4 145 yX0_kindsOf, Cond.instanceMethod yX0_kindsOf, Cond.selects RX0 yX0_kindsOf yX0_kindsOf]
def wsL_told_r3 : List Cond := [Cond.code yX0_kindsOf cX0_kindsOf 4 (some .int), Cond.fieldLink RX0 9 "FaultShrinker$Recipe" "kinds" "[I", Cond.methodLink RX4 205 yX1_holds, Cond.instanceMethod yX1_holds, Cond.selects RX1 yX1_holds yX1_holds, Cond.code yX1_holds cX1_holds 3 (some .boolean)]
def wsL_told : List Cond := .codeWith yL_told cL_told 5 (some .int) [(0, 10, 13, 13)] :: ((wsL_told_r1 ++ (wsL_told_r2 ++ wsL_told_r3)) ++ wsX40 ++ wsX10 ++ wsX00 ++ (vx_atS RX4 50 "java/lang/IndexOutOfBoundsException" ["java/lang/RuntimeException", "java/lang/Exception"]).filter goodWord)
def wsL_spoils_r1 : List Cond := [Cond.classLink RL 42 "java/lang/IllegalArgumentException", Cond.methodLink RL 38 yX4_spoils, Cond.instanceMethod yX4_spoils, Cond.selects RX4 yX4_spoils yX4_spoils, Cond.initialized RX4, Cond.code yX4_spoils cX4_spoils 2 (some .boolean), Cond.classLink RX4 127 "java/lang/IllegalArgumentException", Cond.initialized "java/lang/IllegalArgumentException", Cond.fieldLink RX4 10 "FaultShrinker" "recipe" "LFaultShrinker$Recipe;", Cond.methodLink RX4 124 yX0_hasDish, Cond.instanceMethod yX0_hasDish, Cond.selects RX0 yX0_hasDish yX0_hasDish, Cond.initialized RX0, Cond.code yX0_hasDish cX0_hasDish 2 (some .boolean), Cond.fieldLink RX0 15 "FaultShrinker$Recipe" "size" "I", Cond.methodLink RX4 132 yX4_isSpoiled, Cond.instanceMethod yX4_isSpoiled, Cond.selects RX4 yX4_isSpoiled yX4_isSpoiled, Cond.code yX4_isSpoiled cX4_isSpoiled 2 (some .boolean), Cond.fieldLink RX4 19 "FaultShrinker" "rules" "LFaultShrinker$RuleBook;", Cond.methodLink RX4 145 yX0_kindsOf, Cond.instanceMethod yX0_kindsOf, Cond.selects RX0 yX0_kindsOf yX0_kindsOf, Cond.code yX0_kindsOf cX0_kindsOf 4 (some .int)]
def wsL_spoils_r2 : List Cond := [Cond.fieldLink RX0 9 "FaultShrinker$Recipe" "kinds" "[I", Cond.methodLink RX4 208 yX1_holding, Cond.instanceMethod yX1_holding, Cond.selects RX1 yX1_holding yX1_holding, Cond.initialized RX1, Cond.code yX1_holding cX1_holding 4 (some .int), Cond.fieldLink RX1 18 "FaultShrinker$RuleBook" "size" "I", Cond.methodLink RX1 30 yX1_holds, Cond.instanceMethod yX1_holds, Cond.selects RX1 yX1_holds yX1_holds, Cond.code yX1_holds cX1_holds 3 (some .boolean), Cond.fieldLink RX1 9 "FaultShrinker$RuleBook" "needed" "[I", Cond.fieldLink RX1 15 "FaultShrinker$RuleBook" "spared" "[I"]
def wsL_spoils : List Cond := .codeWith yL_spoils cL_spoils 4 (some .int) [(0, 16, 19, 42)] :: ((wsL_spoils_r1 ++ wsL_spoils_r2) ++ wsX40 ++ wsX00 ++ wsX10 ++ (vx_atS RX4 131 "java/lang/IllegalArgumentException" ["java/lang/RuntimeException", "java/lang/Exception"]).filter goodWord)
def wsL_kept_r1 : List Cond := [Cond.classLink RL 13 "java/lang/IndexOutOfBoundsException", Cond.methodLink RL 44 yX4_kept, Cond.instanceMethod yX4_kept, Cond.selects RX4 yX4_kept yX4_kept, Cond.initialized RX4, Cond.code yX4_kept cX4_kept 2 (some .int), Cond.classLink RX4 46 "java/lang/IndexOutOfBoundsException", Cond.initialized "java/lang/IndexOutOfBoundsException", Cond.fieldLink RX4 35 "FaultShrinker" "keptSearch" "LFaultShrinker$Search;", Cond.methodLink RX4 158 yX2_listSize, Cond.instanceMethod yX2_listSize, Cond.selects RX2 yX2_listSize yX2_listSize, Cond.initialized RX2, Cond.code yX2_listSize cX2_listSize 1 (some .int), Cond.fieldLink RX2 18 "FaultShrinker$Search" "dish" "I", Cond.methodLink RX2 22 yJ6_bitCount_0f7a4, Cond.static yJ6_bitCount_0f7a4, Cond.initialized RJ6, Cond.code yJ6_bitCount_0f7a4 cJ6_bitCount_0f7a4 1 (some .int), Cond.constant RJ6 265 (1431655765), Cond.constant RJ6 266 (858993459), Cond.constant RJ6 267 (252645135), Cond.methodLink RX4 163 yX2_listPlace, Cond.instanceMethod yX2_listPlace]
def wsL_kept_r2 : List Cond := [Cond.selects RX2 yX2_listPlace yX2_listPlace, Cond.code yX2_listPlace cX2_listPlace 5 (some .int)]
def wsL_kept : List Cond := .codeWith yL_kept cL_kept 4 (some .int) [(0, 9, 12, 13)] :: ((wsL_kept_r1 ++ wsL_kept_r2) ++ wsX40 ++ wsX20 ++ (vx_atS RX4 50 "java/lang/IndexOutOfBoundsException" ["java/lang/RuntimeException", "java/lang/Exception"]).filter goodWord)
def wsL_step : List Cond := .codeWith yL_step cL_step 5 (some .int) [(0, 10, 13, 13)] :: ([.classLink RL 13 "java/lang/IndexOutOfBoundsException", .methodLink RL 47 yX4_step, .instanceMethod yX4_step, .selects RX4 yX4_step yX4_step, .initialized RX4, .code yX4_step cX4_step 3 (some .int), .classLink RX4 46 "java/lang/IndexOutOfBoundsException", .initialized "java/lang/IndexOutOfBoundsException", .fieldLink RX4 35 "FaultShrinker" "keptSearch" "LFaultShrinker$Search;", .methodLink RX4 166 yX2_steps, .instanceMethod yX2_steps, .selects RX2 yX2_steps yX2_steps, .initialized RX2, .code yX2_steps cX2_steps 1 (some .int), .fieldLink RX2 28 "FaultShrinker$Search" "steps" "I", .methodLink RX4 171 yX2_stepFact, .instanceMethod yX2_stepFact, .selects RX2 yX2_stepFact yX2_stepFact, .code yX2_stepFact cX2_stepFact 4 (some .int), .fieldLink RX2 11 "FaultShrinker$Search" "facts" "[I"] ++ wsX40 ++ wsX20 ++ (vx_atS RX4 50 "java/lang/IndexOutOfBoundsException" ["java/lang/RuntimeException", "java/lang/Exception"]).filter goodWord)
def wsL_count_r1 : List Cond := [Cond.classLink RL 13 "java/lang/IndexOutOfBoundsException", Cond.methodLink RL 50 yX4_count, Cond.instanceMethod yX4_count, Cond.selects RX4 yX4_count yX4_count, Cond.initialized RX4, Cond.code yX4_count cX4_count 2 (some .int), Cond.classLink RX4 46 "java/lang/IndexOutOfBoundsException", Cond.initialized "java/lang/IndexOutOfBoundsException", Cond.methodLink RX4 176 yX4_countFact, Cond.instanceMethod yX4_countFact, Cond.selects RX4 yX4_countFact yX4_countFact, Cond.code yX4_countFact cX4_countFact 2 (some .int), Cond.fieldLink RX4 10 "FaultShrinker" "recipe" "LFaultShrinker$Recipe;", Cond.fieldLink RX4 19 "FaultShrinker" "rules" "LFaultShrinker$RuleBook;", Cond.fieldLink RX4 35 "FaultShrinker" "keptSearch" "LFaultShrinker$Search;", Cond.fieldLink RX4 152 "FaultShrinker" "keptTastings" "I", Cond.methodLink RX4 66 yX0_size, Cond.instanceMethod yX0_size, Cond.selects RX0 yX0_size yX0_size, Cond.initialized RX0, Cond.code yX0_size cX0_size 1 (some .int), Cond.fieldLink RX0 15 "FaultShrinker$Recipe" "size" "I", Cond.methodLink RX4 87 yX1_size, Cond.instanceMethod yX1_size]
def wsL_count_r2 : List Cond := [Cond.selects RX1 yX1_size yX1_size, Cond.initialized RX1, Cond.code yX1_size cX1_size 1 (some .int), Cond.fieldLink RX1 18 "FaultShrinker$RuleBook" "size" "I", Cond.methodLink RX4 135 yX0_wholeDish, Cond.instanceMethod yX0_wholeDish, Cond.selects RX0 yX0_wholeDish yX0_wholeDish, Cond.code yX0_wholeDish cX0_wholeDish 1 (some .int), Cond.methodLink RX4 145 yX0_kindsOf, Cond.instanceMethod yX0_kindsOf, Cond.selects RX0 yX0_kindsOf yX0_kindsOf, Cond.code yX0_kindsOf cX0_kindsOf 4 (some .int), Cond.fieldLink RX0 9 "FaultShrinker$Recipe" "kinds" "[I", Cond.methodLink RX4 208 yX1_holding, Cond.instanceMethod yX1_holding, Cond.selects RX1 yX1_holding yX1_holding, Cond.code yX1_holding cX1_holding 4 (some .int), Cond.methodLink RX1 30 yX1_holds, Cond.instanceMethod yX1_holds, Cond.selects RX1 yX1_holds yX1_holds, Cond.code yX1_holds cX1_holds 3 (some .boolean), Cond.fieldLink RX1 9 "FaultShrinker$RuleBook" "needed" "[I", Cond.fieldLink RX1 15 "FaultShrinker$RuleBook" "spared" "[I", Cond.methodLink RX4 158 yX2_listSize]
def wsL_count_r3 : List Cond := [Cond.instanceMethod yX2_listSize, Cond.selects RX2 yX2_listSize yX2_listSize, Cond.initialized RX2, Cond.code yX2_listSize cX2_listSize 1 (some .int), Cond.fieldLink RX2 18 "FaultShrinker$Search" "dish" "I", Cond.methodLink RX2 22 yJ6_bitCount_0f7a4, Cond.static yJ6_bitCount_0f7a4, Cond.initialized RJ6, Cond.code yJ6_bitCount_0f7a4 cJ6_bitCount_0f7a4 1 (some .int), Cond.constant RJ6 265 (1431655765), Cond.constant RJ6 266 (858993459), Cond.constant RJ6 267 (252645135), Cond.methodLink RX4 166 yX2_steps, Cond.instanceMethod yX2_steps, Cond.selects RX2 yX2_steps yX2_steps, Cond.code yX2_steps cX2_steps 1 (some .int), Cond.fieldLink RX2 28 "FaultShrinker$Search" "steps" "I", Cond.methodLink RX4 155 yX2_tastings, Cond.instanceMethod yX2_tastings, Cond.selects RX2 yX2_tastings yX2_tastings, Cond.code yX2_tastings cX2_tastings 1 (some .int), Cond.fieldLink RX2 31 "FaultShrinker$Search" "tastings" "I"]
def wsL_count : List Cond := .codeWith yL_count cL_count 4 (some .int) [(0, 9, 12, 13)] :: ((wsL_count_r1 ++ (wsL_count_r2 ++ wsL_count_r3)) ++ wsX40 ++ wsX00 ++ wsX10 ++ wsX20 ++ (vx_atS RX4 50 "java/lang/IndexOutOfBoundsException" ["java/lang/RuntimeException", "java/lang/Exception"]).filter goodWord)
def wsL_would_r1 : List Cond := [Cond.classLink RL 13 "java/lang/IndexOutOfBoundsException", Cond.methodLink RL 53 yX4_would, Cond.instanceMethod yX4_would, Cond.selects RX4 yX4_would yX4_would, Cond.initialized RX4, Cond.code yX4_would cX4_would 2 (some .int), Cond.classLink RX4 46 "java/lang/IndexOutOfBoundsException", Cond.initialized "java/lang/IndexOutOfBoundsException", Cond.fieldLink RX4 39 "FaultShrinker" "trialSearch" "LFaultShrinker$Search;", Cond.fieldLink RX4 28 "FaultShrinker" "taster" "LFaultShrinker$Taster;", Cond.fieldLink RX4 10 "FaultShrinker" "recipe" "LFaultShrinker$Recipe;", Cond.methodLink RX4 135 yX0_wholeDish, Cond.instanceMethod yX0_wholeDish, Cond.selects RX0 yX0_wholeDish yX0_wholeDish, Cond.initialized RX0, Cond.code yX0_wholeDish cX0_wholeDish 1 (some .int), Cond.fieldLink RX0 15 "FaultShrinker$Recipe" "size" "I", Cond.methodLink RX4 138 yX2_goByHalves, Cond.instanceMethod yX2_goByHalves, Cond.selects RX2 yX2_goByHalves yX2_goByHalves, Cond.initialized RX2, Cond.code yX2_goByHalves cX2_goByHalves 5 none, Cond.fieldLink RX2 31 "FaultShrinker$Search" "tastings" "I", Cond.methodLink RX2 34 yX2_begin]
def wsL_would_r2 : List Cond := [Cond.instanceMethod yX2_begin, Cond.selects RX2 yX2_begin yX2_begin, Cond.code yX2_begin cX2_begin 4 (some .boolean), Cond.fieldLink RX2 18 "FaultShrinker$Search" "dish" "I", Cond.fieldLink RX2 53 "FaultShrinker$Search" "parts" "I", Cond.fieldLink RX2 28 "FaultShrinker$Search" "steps" "I", Cond.methodLink RX2 51 yX3_begin, Cond.instanceMethod yX3_begin, Cond.selects RX3 yX3_begin yX3_begin, Cond.initialized RX3, Cond.code yX3_begin cX3_begin 1 none, Cond.fieldLink RX3 23 "FaultShrinker$Taster" "search" "J", Cond.fieldLink RX3 27 "FaultShrinker$Taster" "tastings" "I", Cond.methodLink RX2 47 yX3_looksSpoiled, Cond.instanceMethod yX3_looksSpoiled, Cond.selects RX3 yX3_looksSpoiled yX3_looksSpoiled, Cond.code yX3_looksSpoiled cX3_looksSpoiled 2 (some .boolean), Cond.fieldLink RX3 19 "FaultShrinker$Taster" "rules" "LFaultShrinker$RuleBook;", Cond.fieldLink RX3 15 "FaultShrinker$Taster" "recipe" "LFaultShrinker$Recipe;", Cond.methodLink RX3 31 yX3_learn, Cond.instanceMethod yX3_learn, Cond.selects RX3 yX3_learn yX3_learn, Cond.code yX3_learn cX3_learn 7 (some .boolean), Cond.constant RX3 46 (-1640531535)]
def wsL_would_r3 : List Cond := [Cond.fieldLink RX3 11 "FaultShrinker$Taster" "known" "[J", Cond.methodLink RX3 35 yX0_kindsOf, Cond.instanceMethod yX0_kindsOf, Cond.selects RX0 yX0_kindsOf yX0_kindsOf, Cond.code yX0_kindsOf cX0_kindsOf 4 (some .int), Cond.fieldLink RX0 9 "FaultShrinker$Recipe" "kinds" "[I", Cond.methodLink RX3 41 yX1_holding, Cond.instanceMethod yX1_holding, Cond.selects RX1 yX1_holding yX1_holding, Cond.initialized RX1, Cond.code yX1_holding cX1_holding 4 (some .int), Cond.fieldLink RX1 18 "FaultShrinker$RuleBook" "size" "I", Cond.methodLink RX1 30 yX1_holds, Cond.instanceMethod yX1_holds, Cond.selects RX1 yX1_holds yX1_holds, Cond.code yX1_holds cX1_holds 3 (some .boolean), Cond.fieldLink RX1 9 "FaultShrinker$RuleBook" "needed" "[I", Cond.fieldLink RX1 15 "FaultShrinker$RuleBook" "spared" "[I", Cond.methodLink RX2 38 yX2_makeStep, Cond.instanceMethod yX2_makeStep, Cond.selects RX2 yX2_makeStep yX2_makeStep, Cond.code yX2_makeStep cX2_makeStep 5 (some .boolean), Cond.methodLink RX2 74 Lib.Math.max.name, Cond.static Lib.Math.max.name]
def wsL_would_r4 : List Cond := [Cond.initialized "java/lang/Math", Cond.code Lib.Math.max.name Lib.Math.max.code 2 (some .int), Cond.methodLink RX2 79 Lib.Math.min.name, Cond.static Lib.Math.min.name, Cond.code Lib.Math.min.name Lib.Math.min.code 2 (some .int), Cond.methodLink RX2 22 yJ6_bitCount_0f7a4, Cond.static yJ6_bitCount_0f7a4, Cond.initialized RJ6, Cond.code yJ6_bitCount_0f7a4 cJ6_bitCount_0f7a4 1 (some .int), Cond.constant RJ6 265 (1431655765), Cond.constant RJ6 266 (858993459), Cond.constant RJ6 267 (252645135), Cond.methodLink RX2 56 yX2_countPlaces, Cond.instanceMethod yX2_countPlaces, Cond.selects RX2 yX2_countPlaces yX2_countPlaces, Cond.code yX2_countPlaces cX2_countPlaces 4 none, Cond.fieldLink RX2 15 "FaultShrinker$Search" "firstPlaces" "[I", Cond.methodLink RX2 59 yX2_firstSpoiledPart, Cond.instanceMethod yX2_firstSpoiledPart, Cond.selects RX2 yX2_firstSpoiledPart yX2_firstSpoiledPart, Cond.code yX2_firstSpoiledPart cX2_firstSpoiledPart 4 (some .int), Cond.methodLink RX2 63 yX2_partAt, Cond.instanceMethod yX2_partAt, Cond.selects RX2 yX2_partAt yX2_partAt]
def wsL_would_r5 : List Cond := [Cond.code yX2_partAt cX2_partAt 5 (some .int), Cond.methodLink RX2 67 yX2_note, Cond.instanceMethod yX2_note, Cond.selects RX2 yX2_note yX2_note, Cond.code yX2_note cX2_note 6 none, Cond.fieldLink RX2 11 "FaultShrinker$Search" "facts" "[I", Cond.methodLink RX2 71 yX2_firstSparedPart, Cond.instanceMethod yX2_firstSparedPart, Cond.selects RX2 yX2_firstSparedPart yX2_firstSparedPart, Cond.code yX2_firstSparedPart cX2_firstSparedPart 4 (some .int), Cond.methodLink RX2 42 yX3_tastings, Cond.instanceMethod yX3_tastings, Cond.selects RX3 yX3_tastings yX3_tastings, Cond.code yX3_tastings cX3_tastings 1 (some .int), Cond.methodLink RX4 181 yX2_goOneByOne, Cond.instanceMethod yX2_goOneByOne, Cond.selects RX2 yX2_goOneByOne yX2_goOneByOne, Cond.code yX2_goOneByOne cX2_goOneByOne 6 none, Cond.methodLink RX4 142 yX2_list, Cond.instanceMethod yX2_list, Cond.selects RX2 yX2_list yX2_list, Cond.code yX2_list cX2_list 1 (some .int), Cond.methodLink RX4 166 yX2_steps, Cond.instanceMethod yX2_steps]
def wsL_would_r6 : List Cond := [Cond.selects RX2 yX2_steps yX2_steps, Cond.code yX2_steps cX2_steps 1 (some .int), Cond.methodLink RX4 155 yX2_tastings, Cond.instanceMethod yX2_tastings, Cond.selects RX2 yX2_tastings yX2_tastings, Cond.code yX2_tastings cX2_tastings 1 (some .int)]
def wsL_would : List Cond := .codeWith yL_would cL_would 4 (some .int) [(0, 9, 12, 13)] :: ((wsL_would_r1 ++ (wsL_would_r2 ++ (wsL_would_r3 ++ (wsL_would_r4 ++ (wsL_would_r5 ++ wsL_would_r6))))) ++ wsX40 ++ wsX00 ++ wsX20 ++ wsX30 ++ wsX10 ++ (vx_atS RX4 50 "java/lang/IndexOutOfBoundsException" ["java/lang/RuntimeException", "java/lang/Exception"]).filter goodWord)
def wsL_isTight_r1 : List Cond := [Cond.classLink RL 42 "java/lang/IllegalArgumentException", Cond.methodLink RL 56 yX4_isTight, Cond.instanceMethod yX4_isTight, Cond.selects RX4 yX4_isTight yX4_isTight, Cond.initialized RX4, Cond.code yX4_isTight cX4_isTight 3 (some .boolean), Cond.classLink RX4 127 "java/lang/IllegalArgumentException", Cond.initialized "java/lang/IllegalArgumentException", Cond.fieldLink RX4 10 "FaultShrinker" "recipe" "LFaultShrinker$Recipe;", Cond.methodLink RX4 124 yX0_hasDish, Cond.instanceMethod yX0_hasDish, Cond.selects RX0 yX0_hasDish yX0_hasDish, Cond.initialized RX0, Cond.code yX0_hasDish cX0_hasDish 2 (some .boolean), Cond.fieldLink RX0 15 "FaultShrinker$Recipe" "size" "I", Cond.methodLink RX4 132 yX4_isSpoiled, Cond.instanceMethod yX4_isSpoiled, Cond.selects RX4 yX4_isSpoiled yX4_isSpoiled, Cond.code yX4_isSpoiled cX4_isSpoiled 2 (some .boolean), Cond.fieldLink RX4 19 "FaultShrinker" "rules" "LFaultShrinker$RuleBook;", Cond.methodLink RX4 145 yX0_kindsOf, Cond.instanceMethod yX0_kindsOf, Cond.selects RX0 yX0_kindsOf yX0_kindsOf, Cond.code yX0_kindsOf cX0_kindsOf 4 (some .int)]
def wsL_isTight_r2 : List Cond := [Cond.fieldLink RX0 9 "FaultShrinker$Recipe" "kinds" "[I", Cond.methodLink RX4 208 yX1_holding, Cond.instanceMethod yX1_holding, Cond.selects RX1 yX1_holding yX1_holding, Cond.initialized RX1, Cond.code yX1_holding cX1_holding 4 (some .int), Cond.fieldLink RX1 18 "FaultShrinker$RuleBook" "size" "I", Cond.methodLink RX1 30 yX1_holds, Cond.instanceMethod yX1_holds, Cond.selects RX1 yX1_holds yX1_holds, Cond.code yX1_holds cX1_holds 3 (some .boolean), Cond.fieldLink RX1 9 "FaultShrinker$RuleBook" "needed" "[I", Cond.fieldLink RX1 15 "FaultShrinker$RuleBook" "spared" "[I", Cond.methodLink RX4 96 yX4_hasBit, Cond.static yX4_hasBit, Cond.code yX4_hasBit cX4_hasBit 2 (some .boolean), Cond.methodLink RX4 105 yX4_withBit, Cond.static yX4_withBit, Cond.code yX4_withBit cX4_withBit 3 (some .int)]
def wsL_isTight : List Cond := .codeWith yL_isTight cL_isTight 4 (some .int) [(0, 16, 19, 42)] :: ((wsL_isTight_r1 ++ wsL_isTight_r2) ++ wsX40 ++ wsX00 ++ wsX10 ++ (vx_atS RX4 131 "java/lang/IllegalArgumentException" ["java/lang/RuntimeException", "java/lang/Exception"]).filter goodWord)
def wsL_law0_r1 : List Cond := [Cond.classLink RL 8 RX4, Cond.instantiable RX4 7, Cond.initialized RX4, Cond.classLink RL 60 RX5, Cond.instantiable RX5 17, Cond.initialized RX5, Cond.arrayClass .long, Cond.methodLink RL 59 yX4_init, Cond.instanceMethod yX4_init, Cond.code yX4_init cX4_init 1 none, Cond.methodLink RX4 1 objectInit, Cond.instanceMethod objectInit, Cond.code objectInit ⟨#[0xb1]⟩ 1 none, Cond.classLink RX4 7 RX0, Cond.instantiable RX0 2, Cond.initialized RX0, Cond.fieldLink RX4 10 "FaultShrinker" "recipe" "LFaultShrinker$Recipe;", Cond.classLink RX4 16 RX1, Cond.instantiable RX1 3, Cond.initialized RX1, Cond.fieldLink RX4 19 "FaultShrinker" "rules" "LFaultShrinker$RuleBook;", Cond.classLink RX4 23 RX3, Cond.instantiable RX3 5, Cond.initialized RX3]
def wsL_law0_r2 : List Cond := [Cond.fieldLink RX4 28 "FaultShrinker" "taster" "LFaultShrinker$Taster;", Cond.classLink RX4 32 RX2, Cond.instantiable RX2 6, Cond.initialized RX2, Cond.fieldLink RX4 35 "FaultShrinker" "keptSearch" "LFaultShrinker$Search;", Cond.fieldLink RX4 39 "FaultShrinker" "trialSearch" "LFaultShrinker$Search;", Cond.instanceMethod yX0_init, Cond.code yX0_init cX0_init 1 none, Cond.methodLink RX0 3 objectInit, Cond.arrayClass .int, Cond.fieldLink RX0 9 "FaultShrinker$Recipe" "kinds" "[I", Cond.instanceMethod yX1_init, Cond.code yX1_init cX1_init 1 none, Cond.methodLink RX1 3 objectInit, Cond.fieldLink RX1 9 "FaultShrinker$RuleBook" "needed" "[I", Cond.fieldLink RX1 15 "FaultShrinker$RuleBook" "spared" "[I", Cond.methodLink RX4 25 yX3_init, Cond.instanceMethod yX3_init, Cond.code yX3_init cX3_init 3 none, Cond.methodLink RX3 5 objectInit, Cond.fieldLink RX3 11 "FaultShrinker$Taster" "known" "[J", Cond.fieldLink RX3 15 "FaultShrinker$Taster" "recipe" "LFaultShrinker$Recipe;", Cond.fieldLink RX3 19 "FaultShrinker$Taster" "rules" "LFaultShrinker$RuleBook;", Cond.instanceMethod yX2_init]
def wsL_law0_r3 : List Cond := [Cond.code yX2_init cX2_init 1 none, Cond.methodLink RX2 3 objectInit, Cond.fieldLink RX2 11 "FaultShrinker$Search" "facts" "[I", Cond.fieldLink RX2 15 "FaultShrinker$Search" "firstPlaces" "[I", Cond.methodLink RL 62 yX5_init, Cond.instanceMethod yX5_init, Cond.code yX5_init cX5_init 1 none, Cond.methodLink RX5 1 objectInit, Cond.fieldLink RX5 9 "FaultShrinkerModel" "kind" "[I", Cond.fieldLink RX5 13 "FaultShrinkerModel" "needs" "[I", Cond.fieldLink RX5 16 "FaultShrinkerModel" "spares" "[I", Cond.fieldLink RX5 19 "FaultShrinkerModel" "known" "[I", Cond.fieldLink RX5 22 "FaultShrinkerModel" "step" "[I", Cond.fieldLink RX5 25 "FaultShrinkerModel" "keptStep" "[I", Cond.methodLink RL 63 yL_add, Cond.static yL_add, Cond.initialized RL, Cond.codeWith yL_add cL_add 4 (some .int) [(0, 9, 12, 13), (0, 9, 15, 15)], Cond.classLink RL 13 "java/lang/IndexOutOfBoundsException", Cond.classLink RL 15 "java/lang/IllegalStateException", Cond.methodLink RL 7 yX4_add, Cond.instanceMethod yX4_add, Cond.selects RX4 yX4_add yX4_add, Cond.code yX4_add cX4_add 2 (some .int)]
def wsL_law0_r4 : List Cond := [Cond.classLink RX4 46 "java/lang/IndexOutOfBoundsException", Cond.initialized "java/lang/IndexOutOfBoundsException", Cond.classLink RX4 57 "java/lang/IllegalStateException", Cond.initialized "java/lang/IllegalStateException", Cond.methodLink RX4 42 yX4_isKind, Cond.static yX4_isKind, Cond.code yX4_isKind cX4_isKind 1 (some .boolean), Cond.methodLink RX4 53 yX0_isFull, Cond.instanceMethod yX0_isFull, Cond.selects RX0 yX0_isFull yX0_isFull, Cond.code yX0_isFull cX0_isFull 1 (some .boolean), Cond.fieldLink RX0 15 "FaultShrinker$Recipe" "size" "I", Cond.methodLink RX4 62 yX0_append, Cond.instanceMethod yX0_append, Cond.selects RX0 yX0_append yX0_append, Cond.code yX0_append cX0_append 2 none, Cond.methodLink RX0 23 yX0_isFull, Cond.methodLink RX4 66 yX0_size, Cond.instanceMethod yX0_size, Cond.selects RX0 yX0_size yX0_size, Cond.code yX0_size cX0_size 1 (some .int), Cond.methodLink RL 68 yX5_add, Cond.instanceMethod yX5_add, Cond.selects RX5 yX5_add yX5_add]
def wsL_law0_r5 : List Cond := [Cond.code yX5_add cX5_add 2 (some .int), Cond.fieldLink RX5 28 "FaultShrinkerModel" "thrown" "I", Cond.fieldLink RX5 39 "FaultShrinkerModel" "size" "I", Cond.methodLink RX5 35 yX5_isIn, Cond.static yX5_isIn, Cond.code yX5_isIn cX5_isIn 3 (some .boolean), Cond.methodLink RX5 93 yX5_no, Cond.instanceMethod yX5_no, Cond.selects RX5 yX5_no yX5_no, Cond.code yX5_no cX5_no 2 (some .int), Cond.methodLink RL 69 yX5_thrown, Cond.instanceMethod yX5_thrown, Cond.selects RX5 yX5_thrown yX5_thrown, Cond.code yX5_thrown cX5_thrown 1 (some .int), Cond.methodLink RL 72 yL_drop, Cond.static yL_drop, Cond.codeWith yL_drop cL_drop 4 (some .int) [(0, 9, 12, 13)], Cond.methodLink RL 17 yX4_drop, Cond.instanceMethod yX4_drop, Cond.selects RX4 yX4_drop yX4_drop, Cond.code yX4_drop cX4_drop 3 (some .int), Cond.methodLink RX4 70 yX0_hasPlace, Cond.instanceMethod yX0_hasPlace, Cond.selects RX0 yX0_hasPlace yX0_hasPlace]
def wsL_law0_r6 : List Cond := [Cond.code yX0_hasPlace cX0_hasPlace 2 (some .boolean), Cond.methodLink RX4 75 yX0_kindAt, Cond.instanceMethod yX0_kindAt, Cond.selects RX0 yX0_kindAt yX0_kindAt, Cond.code yX0_kindAt cX0_kindAt 2 (some .int), Cond.methodLink RX0 19 yX0_hasPlace, Cond.methodLink RX4 79 yX0_takeOut, Cond.instanceMethod yX0_takeOut, Cond.selects RX0 yX0_takeOut yX0_takeOut, Cond.code yX0_takeOut cX0_takeOut 3 none, Cond.methodLink RL 74 yX5_drop, Cond.instanceMethod yX5_drop, Cond.selects RX5 yX5_drop yX5_drop, Cond.code yX5_drop cX5_drop 2 (some .int), Cond.methodLink RX5 96 yX5_isPlace, Cond.instanceMethod yX5_isPlace, Cond.selects RX5 yX5_isPlace yX5_isPlace, Cond.code yX5_isPlace cX5_isPlace 2 (some .boolean), Cond.methodLink RX5 99 yX5_takeOut, Cond.instanceMethod yX5_takeOut, Cond.selects RX5 yX5_takeOut yX5_takeOut, Cond.code yX5_takeOut cX5_takeOut 4 (some .int), Cond.methodLink RL 75 yL_kind, Cond.static yL_kind]
def wsL_law0_r7 : List Cond := [Cond.codeWith yL_kind cL_kind 4 (some .int) [(0, 9, 12, 13)], Cond.methodLink RL 20 yX4_kind, Cond.instanceMethod yX4_kind, Cond.selects RX4 yX4_kind yX4_kind, Cond.code yX4_kind cX4_kind 2 (some .int), Cond.methodLink RL 77 yX5_kind, Cond.instanceMethod yX5_kind, Cond.selects RX5 yX5_kind yX5_kind, Cond.code yX5_kind cX5_kind 2 (some .int), Cond.methodLink RL 78 yL_rule, Cond.static yL_rule, Cond.codeWith yL_rule cL_rule 3 (some .int) [(0, 8, 11, 15)], Cond.methodLink RL 23 yX4_rule, Cond.instanceMethod yX4_rule, Cond.selects RX4 yX4_rule yX4_rule, Cond.code yX4_rule cX4_rule 1 (some .int), Cond.methodLink RX4 82 yX1_isFull, Cond.instanceMethod yX1_isFull, Cond.selects RX1 yX1_isFull yX1_isFull, Cond.code yX1_isFull cX1_isFull 1 (some .boolean), Cond.fieldLink RX1 18 "FaultShrinker$RuleBook" "size" "I", Cond.methodLink RX4 85 yX1_append, Cond.instanceMethod yX1_append, Cond.selects RX1 yX1_append yX1_append]
def wsL_law0_r8 : List Cond := [Cond.code yX1_append cX1_append 1 none, Cond.methodLink RX1 22 yX1_isFull, Cond.methodLink RX4 87 yX1_size, Cond.instanceMethod yX1_size, Cond.selects RX1 yX1_size yX1_size, Cond.code yX1_size cX1_size 1 (some .int), Cond.methodLink RL 81 yX5_rule, Cond.instanceMethod yX5_rule, Cond.selects RX5 yX5_rule yX5_rule, Cond.code yX5_rule cX5_rule 1 (some .int), Cond.fieldLink RX5 32 "FaultShrinkerModel" "rules" "I", Cond.methodLink RL 82 yL_setNeeds, Cond.static yL_setNeeds, Cond.codeWith yL_setNeeds cL_setNeeds 6 (some .int) [(0, 19, 22, 13), (0, 19, 26, 15)], Cond.methodLink RL 27 yX4_setNeeds, Cond.instanceMethod yX4_setNeeds, Cond.selects RX4 yX4_setNeeds yX4_setNeeds, Cond.code yX4_setNeeds cX4_setNeeds 5 (some .boolean), Cond.methodLink RX4 88 yX1_hasRule, Cond.instanceMethod yX1_hasRule, Cond.selects RX1 yX1_hasRule yX1_hasRule, Cond.code yX1_hasRule cX1_hasRule 2 (some .boolean), Cond.methodLink RX4 93 yX1_sparedBy, Cond.instanceMethod yX1_sparedBy]
def wsL_law0_r9 : List Cond := [Cond.selects RX1 yX1_sparedBy yX1_sparedBy, Cond.code yX1_sparedBy cX1_sparedBy 2 (some .int), Cond.methodLink RX1 26 yX1_hasRule, Cond.methodLink RX4 96 yX4_hasBit, Cond.static yX4_hasBit, Cond.code yX4_hasBit cX4_hasBit 2 (some .boolean), Cond.methodLink RX4 102 yX1_neededBy, Cond.instanceMethod yX1_neededBy, Cond.selects RX1 yX1_neededBy yX1_neededBy, Cond.code yX1_neededBy cX1_neededBy 2 (some .int), Cond.methodLink RX4 105 yX4_withBit, Cond.static yX4_withBit, Cond.code yX4_withBit cX4_withBit 3 (some .int), Cond.methodLink RX4 109 yX1_putNeeded, Cond.instanceMethod yX1_putNeeded, Cond.selects RX1 yX1_putNeeded yX1_putNeeded, Cond.code yX1_putNeeded cX1_putNeeded 3 none, Cond.methodLink RL 85 yX5_setNeeds, Cond.instanceMethod yX5_setNeeds, Cond.selects RX5 yX5_setNeeds yX5_setNeeds, Cond.code yX5_setNeeds cX5_setNeeds 4 (some .boolean), Cond.methodLink RX5 105 yX5_set, Cond.instanceMethod yX5_set, Cond.selects RX5 yX5_set yX5_set]
def wsL_law0_r10 : List Cond := [Cond.code yX5_set cX5_set 7 (some .boolean), Cond.methodLink RX5 102 yX5_isRule, Cond.instanceMethod yX5_isRule, Cond.selects RX5 yX5_isRule yX5_isRule, Cond.code yX5_isRule cX5_isRule 2 (some .boolean), Cond.methodLink RL 86 yL_setSpares, Cond.static yL_setSpares, Cond.codeWith yL_setSpares cL_setSpares 6 (some .int) [(0, 19, 22, 13), (0, 19, 26, 15)], Cond.methodLink RL 31 yX4_setSpares, Cond.instanceMethod yX4_setSpares, Cond.selects RX4 yX4_setSpares yX4_setSpares, Cond.code yX4_setSpares cX4_setSpares 5 (some .boolean), Cond.methodLink RX4 115 yX1_putSpared, Cond.instanceMethod yX1_putSpared, Cond.selects RX1 yX1_putSpared yX1_putSpared, Cond.code yX1_putSpared cX1_putSpared 3 none, Cond.methodLink RL 88 yX5_setSpares, Cond.instanceMethod yX5_setSpares, Cond.selects RX5 yX5_setSpares yX5_setSpares, Cond.code yX5_setSpares cX5_setSpares 4 (some .boolean), Cond.methodLink RL 89 yL_told, Cond.static yL_told, Cond.codeWith yL_told cL_told 5 (some .int) [(0, 10, 13, 13)], Cond.methodLink RL 34 yX4_told]
def wsL_law0_r11 : List Cond := [Cond.instanceMethod yX4_told, Cond.selects RX4 yX4_told yX4_told, Cond.code yX4_told cX4_told 3 (some .int), Cond.methodLink RX4 120 yX4_ruleFact, Cond.instanceMethod yX4_ruleFact, Cond.selects RX4 yX4_ruleFact yX4_ruleFact, Cond.code yX4_ruleFact cX4_ruleFact 3 (some .int), Cond.fieldLink RX4 148 "FaultShrinker" "keptListKinds" "I", Cond.methodLink RX4 187 yJ6_bitCount_0f7a4, Cond.static yJ6_bitCount_0f7a4, Cond.initialized RJ6, Cond.code yJ6_bitCount_0f7a4 cJ6_bitCount_0f7a4 1 (some .int), Cond.constant RJ6 265 (1431655765), Cond.constant RJ6 266 (858993459), Cond.constant RJ6 267 (252645135), Cond.methodLink RX4 135 yX0_wholeDish, Cond.instanceMethod yX0_wholeDish, Cond.selects RX0 yX0_wholeDish yX0_wholeDish, Cond.code yX0_wholeDish cX0_wholeDish 1 (some .int), Cond.methodLink RX4 145 yX0_kindsOf, Cond.instanceMethod yX0_kindsOf, Cond.selects RX0 yX0_kindsOf yX0_kindsOf, Cond.code yX0_kindsOf cX0_kindsOf 4 (some .int), Cond.methodLink RX4 205 yX1_holds]
def wsL_law0_r12 : List Cond := [Cond.instanceMethod yX1_holds, Cond.selects RX1 yX1_holds yX1_holds, Cond.code yX1_holds cX1_holds 3 (some .boolean), Cond.methodLink RL 92 yX5_told, Cond.instanceMethod yX5_told, Cond.selects RX5 yX5_told yX5_told, Cond.code yX5_told cX5_told 3 (some .int), Cond.methodLink RX5 116 yX5_ruleTold, Cond.instanceMethod yX5_ruleTold, Cond.selects RX5 yX5_ruleTold yX5_ruleTold, Cond.code yX5_ruleTold cX5_ruleTold 3 (some .int), Cond.fieldLink RX5 109 "FaultShrinkerModel" "isKept" "Z", Cond.fieldLink RX5 113 "FaultShrinkerModel" "keptKinds" "I", Cond.methodLink RX5 60 yJ6_bitCount_0f7a4, Cond.methodLink RX5 75 yX5_whole, Cond.instanceMethod yX5_whole, Cond.selects RX5 yX5_whole yX5_whole, Cond.code yX5_whole cX5_whole 1 (some .int), Cond.methodLink RX5 42 yX5_kindsOf, Cond.instanceMethod yX5_kindsOf, Cond.selects RX5 yX5_kindsOf yX5_kindsOf, Cond.code yX5_kindsOf cX5_kindsOf 4 (some .int), Cond.methodLink RX5 46 yX5_holds, Cond.instanceMethod yX5_holds]
def wsL_law0_r13 : List Cond := [Cond.selects RX5 yX5_holds yX5_holds, Cond.code yX5_holds cX5_holds 3 (some .boolean), Cond.methodLink RL 93 yL_spoils, Cond.static yL_spoils, Cond.codeWith yL_spoils cL_spoils 4 (some .int) [(0, 16, 19, 42)], Cond.classLink RL 42 "java/lang/IllegalArgumentException", Cond.methodLink RL 38 yX4_spoils, Cond.instanceMethod yX4_spoils, Cond.selects RX4 yX4_spoils yX4_spoils, Cond.code yX4_spoils cX4_spoils 2 (some .boolean), Cond.classLink RX4 127 "java/lang/IllegalArgumentException", Cond.initialized "java/lang/IllegalArgumentException", Cond.methodLink RX4 124 yX0_hasDish, Cond.instanceMethod yX0_hasDish, Cond.selects RX0 yX0_hasDish yX0_hasDish, Cond.code yX0_hasDish cX0_hasDish 2 (some .boolean), Cond.methodLink RX4 132 yX4_isSpoiled, Cond.instanceMethod yX4_isSpoiled, Cond.selects RX4 yX4_isSpoiled yX4_isSpoiled, Cond.code yX4_isSpoiled cX4_isSpoiled 2 (some .boolean), Cond.methodLink RX4 208 yX1_holding, Cond.instanceMethod yX1_holding, Cond.selects RX1 yX1_holding yX1_holding, Cond.code yX1_holding cX1_holding 4 (some .int)]
def wsL_law0_r14 : List Cond := [Cond.methodLink RX1 30 yX1_holds, Cond.methodLink RL 95 yX5_spoils, Cond.instanceMethod yX5_spoils, Cond.selects RX5 yX5_spoils yX5_spoils, Cond.code yX5_spoils cX5_spoils 2 (some .boolean), Cond.methodLink RX5 53 yX5_isSpoilt, Cond.instanceMethod yX5_isSpoilt, Cond.selects RX5 yX5_isSpoilt yX5_isSpoilt, Cond.code yX5_isSpoilt cX5_isSpoilt 4 (some .boolean), Cond.methodLink RL 96 yX4_shrink, Cond.instanceMethod yX4_shrink, Cond.selects RX4 yX4_shrink yX4_shrink, Cond.code yX4_shrink cX4_shrink 1 (some .int), Cond.fieldLink RX4 152 "FaultShrinker" "keptTastings" "I", Cond.methodLink RX4 138 yX2_goByHalves, Cond.instanceMethod yX2_goByHalves, Cond.selects RX2 yX2_goByHalves yX2_goByHalves, Cond.code yX2_goByHalves cX2_goByHalves 5 none, Cond.fieldLink RX2 31 "FaultShrinker$Search" "tastings" "I", Cond.methodLink RX2 34 yX2_begin, Cond.instanceMethod yX2_begin, Cond.selects RX2 yX2_begin yX2_begin, Cond.code yX2_begin cX2_begin 4 (some .boolean), Cond.fieldLink RX2 18 "FaultShrinker$Search" "dish" "I"]
def wsL_law0_r15 : List Cond := [Cond.fieldLink RX2 53 "FaultShrinker$Search" "parts" "I", Cond.fieldLink RX2 28 "FaultShrinker$Search" "steps" "I", Cond.methodLink RX2 51 yX3_begin, Cond.instanceMethod yX3_begin, Cond.selects RX3 yX3_begin yX3_begin, Cond.code yX3_begin cX3_begin 1 none, Cond.fieldLink RX3 23 "FaultShrinker$Taster" "search" "J", Cond.fieldLink RX3 27 "FaultShrinker$Taster" "tastings" "I", Cond.methodLink RX2 47 yX3_looksSpoiled, Cond.instanceMethod yX3_looksSpoiled, Cond.selects RX3 yX3_looksSpoiled yX3_looksSpoiled, Cond.code yX3_looksSpoiled cX3_looksSpoiled 2 (some .boolean), Cond.methodLink RX3 31 yX3_learn, Cond.instanceMethod yX3_learn, Cond.selects RX3 yX3_learn yX3_learn, Cond.code yX3_learn cX3_learn 7 (some .boolean), Cond.constant RX3 46 (-1640531535), Cond.methodLink RX3 35 yX0_kindsOf, Cond.methodLink RX3 41 yX1_holding, Cond.methodLink RX2 38 yX2_makeStep, Cond.instanceMethod yX2_makeStep, Cond.selects RX2 yX2_makeStep yX2_makeStep, Cond.code yX2_makeStep cX2_makeStep 5 (some .boolean), Cond.methodLink RX2 74 Lib.Math.max.name]
def wsL_law0_r16 : List Cond := [Cond.static Lib.Math.max.name, Cond.initialized "java/lang/Math", Cond.code Lib.Math.max.name Lib.Math.max.code 2 (some .int), Cond.methodLink RX2 79 Lib.Math.min.name, Cond.static Lib.Math.min.name, Cond.code Lib.Math.min.name Lib.Math.min.code 2 (some .int), Cond.methodLink RX2 22 yJ6_bitCount_0f7a4, Cond.methodLink RX2 56 yX2_countPlaces, Cond.instanceMethod yX2_countPlaces, Cond.selects RX2 yX2_countPlaces yX2_countPlaces, Cond.code yX2_countPlaces cX2_countPlaces 4 none, Cond.methodLink RX2 59 yX2_firstSpoiledPart, Cond.instanceMethod yX2_firstSpoiledPart, Cond.selects RX2 yX2_firstSpoiledPart yX2_firstSpoiledPart, Cond.code yX2_firstSpoiledPart cX2_firstSpoiledPart 4 (some .int), Cond.methodLink RX2 63 yX2_partAt, Cond.instanceMethod yX2_partAt, Cond.selects RX2 yX2_partAt yX2_partAt, Cond.code yX2_partAt cX2_partAt 5 (some .int), Cond.methodLink RX2 67 yX2_note, Cond.instanceMethod yX2_note, Cond.selects RX2 yX2_note yX2_note, Cond.code yX2_note cX2_note 6 none, Cond.methodLink RX2 71 yX2_firstSparedPart]
def wsL_law0_r17 : List Cond := [Cond.instanceMethod yX2_firstSparedPart, Cond.selects RX2 yX2_firstSparedPart yX2_firstSparedPart, Cond.code yX2_firstSparedPart cX2_firstSparedPart 4 (some .int), Cond.methodLink RX2 42 yX3_tastings, Cond.instanceMethod yX3_tastings, Cond.selects RX3 yX3_tastings yX3_tastings, Cond.code yX3_tastings cX3_tastings 1 (some .int), Cond.methodLink RX4 142 yX2_list, Cond.instanceMethod yX2_list, Cond.selects RX2 yX2_list yX2_list, Cond.code yX2_list cX2_list 1 (some .int), Cond.methodLink RX4 155 yX2_tastings, Cond.instanceMethod yX2_tastings, Cond.selects RX2 yX2_tastings yX2_tastings, Cond.code yX2_tastings cX2_tastings 1 (some .int), Cond.methodLink RL 99 yX5_shrink, Cond.instanceMethod yX5_shrink, Cond.selects RX5 yX5_shrink yX5_shrink, Cond.code yX5_shrink cX5_shrink 1 (some .int), Cond.fieldLink RX5 122 "FaultShrinkerModel" "keptDish" "I", Cond.fieldLink RX5 50 "FaultShrinkerModel" "tasted" "I", Cond.fieldLink RX5 125 "FaultShrinkerModel" "keptTasted" "I", Cond.fieldLink RX5 57 "FaultShrinkerModel" "steps" "I", Cond.fieldLink RX5 128 "FaultShrinkerModel" "keptSteps" "I"]
def wsL_law0_r18 : List Cond := [Cond.methodLink RX5 131 arraycopyName, Cond.native arraycopyName, Cond.static arraycopyName, Cond.initialized "java/lang/System", Cond.fieldLink RX5 137 "FaultShrinkerModel" "all" "I", Cond.methodLink RX5 119 yX5_halve, Cond.instanceMethod yX5_halve, Cond.selects RX5 yX5_halve yX5_halve, Cond.code yX5_halve cX5_halve 5 (some .int), Cond.methodLink RX5 87 Lib.Math.min.name, Cond.methodLink RX5 72 yX5_taste, Cond.instanceMethod yX5_taste, Cond.selects RX5 yX5_taste yX5_taste, Cond.code yX5_taste cX5_taste 4 (some .boolean), Cond.methodLink RX5 79 yX5_first, Cond.instanceMethod yX5_first, Cond.selects RX5 yX5_first yX5_first, Cond.code yX5_first cX5_first 5 (some .int), Cond.methodLink RX5 69 yX5_partOf, Cond.static yX5_partOf, Cond.code yX5_partOf cX5_partOf 4 (some .int), Cond.methodLink RX5 65 yX5_part, Cond.static yX5_part, Cond.code yX5_part cX5_part 6 (some .int)]
def wsL_law0_r19 : List Cond := [Cond.methodLink RX5 83 yX5_note, Cond.instanceMethod yX5_note, Cond.selects RX5 yX5_note yX5_note, Cond.code yX5_note cX5_note 7 none, Cond.methodLink RL 100 yL_kept, Cond.static yL_kept, Cond.codeWith yL_kept cL_kept 4 (some .int) [(0, 9, 12, 13)], Cond.methodLink RL 44 yX4_kept, Cond.instanceMethod yX4_kept, Cond.selects RX4 yX4_kept yX4_kept, Cond.code yX4_kept cX4_kept 2 (some .int), Cond.methodLink RX4 158 yX2_listSize, Cond.instanceMethod yX2_listSize, Cond.selects RX2 yX2_listSize yX2_listSize, Cond.code yX2_listSize cX2_listSize 1 (some .int), Cond.methodLink RX4 163 yX2_listPlace, Cond.instanceMethod yX2_listPlace, Cond.selects RX2 yX2_listPlace yX2_listPlace, Cond.code yX2_listPlace cX2_listPlace 5 (some .int), Cond.methodLink RL 102 yX5_kept, Cond.instanceMethod yX5_kept, Cond.selects RX5 yX5_kept yX5_kept, Cond.code yX5_kept cX5_kept 2 (some .int), Cond.methodLink RX5 143 yX5_keptSize]
def wsL_law0_r20 : List Cond := [Cond.instanceMethod yX5_keptSize, Cond.selects RX5 yX5_keptSize yX5_keptSize, Cond.code yX5_keptSize cX5_keptSize 1 (some .int), Cond.methodLink RX5 146 yX5_keptPlace, Cond.instanceMethod yX5_keptPlace, Cond.selects RX5 yX5_keptPlace yX5_keptPlace, Cond.code yX5_keptPlace cX5_keptPlace 2 (some .int), Cond.methodLink RX5 140 yJ6_numberOfTrailingZeros_0f7a4, Cond.static yJ6_numberOfTrailingZeros_0f7a4, Cond.code yJ6_numberOfTrailingZeros_0f7a4 cJ6_numberOfTrailingZeros_0f7a4 2 (some .int), Cond.constant RJ6 264 (65536), Cond.methodLink RL 103 yL_step, Cond.static yL_step, Cond.codeWith yL_step cL_step 5 (some .int) [(0, 10, 13, 13)], Cond.methodLink RL 47 yX4_step, Cond.instanceMethod yX4_step, Cond.selects RX4 yX4_step yX4_step, Cond.code yX4_step cX4_step 3 (some .int), Cond.methodLink RX4 166 yX2_steps, Cond.instanceMethod yX2_steps, Cond.selects RX2 yX2_steps yX2_steps, Cond.code yX2_steps cX2_steps 1 (some .int), Cond.methodLink RX4 171 yX2_stepFact, Cond.instanceMethod yX2_stepFact]
def wsL_law0_r21 : List Cond := [Cond.selects RX2 yX2_stepFact yX2_stepFact, Cond.code yX2_stepFact cX2_stepFact 4 (some .int), Cond.methodLink RL 105 yX5_step, Cond.instanceMethod yX5_step, Cond.selects RX5 yX5_step yX5_step, Cond.code yX5_step cX5_step 3 (some .int), Cond.methodLink RL 106 yL_count, Cond.static yL_count, Cond.codeWith yL_count cL_count 4 (some .int) [(0, 9, 12, 13)], Cond.methodLink RL 50 yX4_count, Cond.instanceMethod yX4_count, Cond.selects RX4 yX4_count yX4_count, Cond.code yX4_count cX4_count 2 (some .int), Cond.methodLink RX4 176 yX4_countFact, Cond.instanceMethod yX4_countFact, Cond.selects RX4 yX4_countFact yX4_countFact, Cond.code yX4_countFact cX4_countFact 2 (some .int), Cond.methodLink RL 108 yX5_count, Cond.instanceMethod yX5_count, Cond.selects RX5 yX5_count yX5_count, Cond.code yX5_count cX5_count 2 (some .int), Cond.methodLink RX5 152 yX5_counted, Cond.instanceMethod yX5_counted, Cond.selects RX5 yX5_counted yX5_counted]
def wsL_law0_r22 : List Cond := [Cond.code yX5_counted cX5_counted 2 (some .int), Cond.methodLink RX5 149 yX5_hold, Cond.instanceMethod yX5_hold, Cond.selects RX5 yX5_hold yX5_hold, Cond.code yX5_hold cX5_hold 4 (some .int), Cond.methodLink RL 109 yL_would, Cond.static yL_would, Cond.codeWith yL_would cL_would 4 (some .int) [(0, 9, 12, 13)], Cond.methodLink RL 53 yX4_would, Cond.instanceMethod yX4_would, Cond.selects RX4 yX4_would yX4_would, Cond.code yX4_would cX4_would 2 (some .int), Cond.methodLink RX4 181 yX2_goOneByOne, Cond.instanceMethod yX2_goOneByOne, Cond.selects RX2 yX2_goOneByOne yX2_goOneByOne, Cond.code yX2_goOneByOne cX2_goOneByOne 6 none, Cond.methodLink RL 111 yX5_would, Cond.instanceMethod yX5_would, Cond.selects RX5 yX5_would yX5_would, Cond.code yX5_would cX5_would 2 (some .int), Cond.methodLink RX5 158 yX5_wouldBe, Cond.instanceMethod yX5_wouldBe, Cond.selects RX5 yX5_wouldBe yX5_wouldBe, Cond.code yX5_wouldBe cX5_wouldBe 3 (some .int)]
def wsL_law0_r23 : List Cond := [Cond.methodLink RX5 155 yX5_spareEach, Cond.instanceMethod yX5_spareEach, Cond.selects RX5 yX5_spareEach yX5_spareEach, Cond.code yX5_spareEach cX5_spareEach 3 (some .int), Cond.methodLink RL 112 yX4_least, Cond.instanceMethod yX4_least, Cond.selects RX4 yX4_least yX4_least, Cond.code yX4_least cX4_least 1 (some .int), Cond.methodLink RX4 184 yX1_leastNeeded, Cond.instanceMethod yX1_leastNeeded, Cond.selects RX1 yX1_leastNeeded yX1_leastNeeded, Cond.code yX1_leastNeeded cX1_leastNeeded 6 (some .int), Cond.methodLink RX1 34 yJ6_bitCount_0f7a4, Cond.methodLink RL 115 yX5_least, Cond.instanceMethod yX5_least, Cond.selects RX5 yX5_least yX5_least, Cond.code yX5_least cX5_least 1 (some .int), Cond.methodLink RX5 161 yX5_leastDish, Cond.instanceMethod yX5_leastDish, Cond.selects RX5 yX5_leastDish yX5_leastDish, Cond.code yX5_leastDish cX5_leastDish 5 (some .int), Cond.methodLink RL 116 yL_isTight, Cond.static yL_isTight, Cond.codeWith yL_isTight cL_isTight 4 (some .int) [(0, 16, 19, 42)]]
def wsL_law0_r24 : List Cond := [Cond.methodLink RL 56 yX4_isTight, Cond.instanceMethod yX4_isTight, Cond.selects RX4 yX4_isTight yX4_isTight, Cond.code yX4_isTight cX4_isTight 3 (some .boolean), Cond.methodLink RL 118 yX5_isTight, Cond.instanceMethod yX5_isTight, Cond.selects RX5 yX5_isTight yX5_isTight, Cond.code yX5_isTight cX5_isTight 2 (some .boolean), Cond.methodLink RX5 164 yX5_isTightDish, Cond.instanceMethod yX5_isTightDish, Cond.selects RX5 yX5_isTightDish yX5_isTightDish, Cond.code yX5_isTightDish cX5_isTightDish 3 (some .boolean), Cond.methodLink RL 119 yX4_advise, Cond.instanceMethod yX4_advise, Cond.selects RX4 yX4_advise yX4_advise, Cond.code yX4_advise cX4_advise 4 (some .int), Cond.methodLink RL 122 yX5_advise, Cond.instanceMethod yX5_advise, Cond.selects RX5 yX5_advise yX5_advise, Cond.code yX5_advise cX5_advise 5 (some .int), Cond.methodLink RX5 167 yX5_without, Cond.instanceMethod yX5_without, Cond.selects RX5 yX5_without yX5_without, Cond.code yX5_without cX5_without 4 (some .int)]
def wsL_law0_r25 : List Cond := [Cond.methodLink RL 123 yX4_mean, Cond.instanceMethod yX4_mean, Cond.selects RX4 yX4_mean yX4_mean, Cond.code yX4_mean cX4_mean 4 (some .double), Cond.methodLink RL 127 yX5_mean, Cond.instanceMethod yX5_mean, Cond.selects RX5 yX5_mean yX5_mean, Cond.code yX5_mean cX5_mean 3 (some .double), Cond.methodLink RL 128 yX4_digest, Cond.instanceMethod yX4_digest, Cond.selects RX4 yX4_digest yX4_digest, Cond.code yX4_digest cX4_digest 3 (some .long), Cond.constantLong RX4 192 (1499), Cond.methodLink RX4 194 yX4_digestState, Cond.instanceMethod yX4_digestState, Cond.selects RX4 yX4_digestState yX4_digestState, Cond.code yX4_digestState cX4_digestState 7 (some .long), Cond.methodLink RX4 201 yX4_mixed, Cond.static yX4_mixed, Cond.code yX4_mixed cX4_mixed 4 (some .long), Cond.constantLong RX4 211 (31), Cond.methodLink RX4 198 yX4_digestKept, Cond.instanceMethod yX4_digestKept, Cond.selects RX4 yX4_digestKept yX4_digestKept]
def wsL_law0_r26 : List Cond := [Cond.code yX4_digestKept cX4_digestKept 7 (some .long), Cond.methodLink RL 132 yX5_digest, Cond.instanceMethod yX5_digest, Cond.selects RX5 yX5_digest yX5_digest, Cond.code yX5_digest cX5_digest 5 (some .long), Cond.constantLong RX5 170 (1499), Cond.constantLong RX5 172 (31)]
def wsL_law0 : List Cond := (wsL_law0_r1 ++ (wsL_law0_r2 ++ (wsL_law0_r3 ++ (wsL_law0_r4 ++ (wsL_law0_r5 ++ (wsL_law0_r6 ++ (wsL_law0_r7 ++ (wsL_law0_r8 ++ (wsL_law0_r9 ++ (wsL_law0_r10 ++ (wsL_law0_r11 ++ (wsL_law0_r12 ++ (wsL_law0_r13 ++ (wsL_law0_r14 ++ (wsL_law0_r15 ++ (wsL_law0_r16 ++ (wsL_law0_r17 ++ (wsL_law0_r18 ++ (wsL_law0_r19 ++ (wsL_law0_r20 ++ (wsL_law0_r21 ++ (wsL_law0_r22 ++ (wsL_law0_r23 ++ (wsL_law0_r24 ++ (wsL_law0_r25 ++ wsL_law0_r26))))))))))))))))))))))))) ++ wsX40 ++ wsX50 ++ wsX00 ++ wsX10 ++ wsX30 ++ wsX20 ++ ([] : List Cond)
def wsL_law : List Cond := wsL_law0 ++ (vx_atS RX4 50 "java/lang/IndexOutOfBoundsException" ["java/lang/RuntimeException", "java/lang/Exception"]).filter goodWord ++ (vx_atS RX4 61 "java/lang/IllegalStateException" ["java/lang/RuntimeException", "java/lang/Exception"]).filter goodWord ++ (vx_atS RX4 131 "java/lang/IllegalArgumentException" ["java/lang/RuntimeException", "java/lang/Exception"]).filter goodWord
theorem dX0_init_0 : decode cX0_init 0 = .ok (.aload_n 0, 1) := by decide +kernel
theorem dX0_init_1 : decode cX0_init 1 = .ok (.invokespecial 3, 3) := by decide +kernel
theorem dX0_init_4 : decode cX0_init 4 = .ok (.aload_n 0, 1) := by decide +kernel
theorem dX0_init_5 : decode cX0_init 5 = .ok (.bipush 24, 2) := by decide +kernel
theorem dX0_init_7 : decode cX0_init 7 = .ok (.newarray .int, 2) := by decide +kernel
theorem dX0_init_9 : decode cX0_init 9 = .ok (.putfield 9, 3) := by decide +kernel
theorem dX0_init_12 : decode cX0_init 12 = .ok (.return_, 1) := by decide +kernel
theorem dX0_size_0 : decode cX0_size 0 = .ok (.aload_n 0, 1) := by decide +kernel
theorem dX0_size_1 : decode cX0_size 1 = .ok (.getfield 15, 3) := by decide +kernel
theorem dX0_size_4 : decode cX0_size 4 = .ok (.ireturn, 1) := by decide +kernel
theorem dX0_isFull_0 : decode cX0_isFull 0 = .ok (.aload_n 0, 1) := by decide +kernel
theorem dX0_isFull_1 : decode cX0_isFull 1 = .ok (.getfield 15, 3) := by decide +kernel
theorem dX0_isFull_4 : decode cX0_isFull 4 = .ok (.aload_n 0, 1) := by decide +kernel
theorem dX0_isFull_5 : decode cX0_isFull 5 = .ok (.getfield 9, 3) := by decide +kernel
theorem dX0_isFull_8 : decode cX0_isFull 8 = .ok (.arraylength, 1) := by decide +kernel
theorem dX0_isFull_9 : decode cX0_isFull 9 = .ok (.if_icmp .lt 7, 3) := by decide +kernel
theorem dX0_isFull_12 : decode cX0_isFull 12 = .ok (.iconst 1, 1) := by decide +kernel
theorem dX0_isFull_13 : decode cX0_isFull 13 = .ok (.goto 4, 3) := by decide +kernel
theorem dX0_isFull_16 : decode cX0_isFull 16 = .ok (.iconst 0, 1) := by decide +kernel
theorem dX0_isFull_17 : decode cX0_isFull 17 = .ok (.ireturn, 1) := by decide +kernel
theorem dX0_hasPlace_0 : decode cX0_hasPlace 0 = .ok (.iload_n 1, 1) := by decide +kernel
theorem dX0_hasPlace_1 : decode cX0_hasPlace 1 = .ok (.ifCond .lt 15, 3) := by decide +kernel
theorem dX0_hasPlace_4 : decode cX0_hasPlace 4 = .ok (.iload_n 1, 1) := by decide +kernel
theorem dX0_hasPlace_5 : decode cX0_hasPlace 5 = .ok (.aload_n 0, 1) := by decide +kernel
theorem dX0_hasPlace_6 : decode cX0_hasPlace 6 = .ok (.getfield 15, 3) := by decide +kernel
theorem dX0_hasPlace_9 : decode cX0_hasPlace 9 = .ok (.if_icmp .ge 7, 3) := by decide +kernel
theorem dX0_hasPlace_12 : decode cX0_hasPlace 12 = .ok (.iconst 1, 1) := by decide +kernel
theorem dX0_hasPlace_13 : decode cX0_hasPlace 13 = .ok (.goto 4, 3) := by decide +kernel
theorem dX0_hasPlace_16 : decode cX0_hasPlace 16 = .ok (.iconst 0, 1) := by decide +kernel
theorem dX0_hasPlace_17 : decode cX0_hasPlace 17 = .ok (.ireturn, 1) := by decide +kernel
theorem dX0_hasDish_0 : decode cX0_hasDish 0 = .ok (.iload_n 1, 1) := by decide +kernel
theorem dX0_hasDish_1 : decode cX0_hasDish 1 = .ok (.ifCond .lt 16, 3) := by decide +kernel
theorem dX0_hasDish_4 : decode cX0_hasDish 4 = .ok (.iload_n 1, 1) := by decide +kernel
theorem dX0_hasDish_5 : decode cX0_hasDish 5 = .ok (.aload_n 0, 1) := by decide +kernel
theorem dX0_hasDish_6 : decode cX0_hasDish 6 = .ok (.getfield 15, 3) := by decide +kernel
theorem dX0_hasDish_9 : decode cX0_hasDish 9 = .ok (.ishr, 1) := by decide +kernel
theorem dX0_hasDish_10 : decode cX0_hasDish 10 = .ok (.ifCond .ne 7, 3) := by decide +kernel
theorem dX0_hasDish_13 : decode cX0_hasDish 13 = .ok (.iconst 1, 1) := by decide +kernel
theorem dX0_hasDish_14 : decode cX0_hasDish 14 = .ok (.goto 4, 3) := by decide +kernel
theorem dX0_hasDish_17 : decode cX0_hasDish 17 = .ok (.iconst 0, 1) := by decide +kernel
theorem dX0_hasDish_18 : decode cX0_hasDish 18 = .ok (.ireturn, 1) := by decide +kernel
theorem dX0_wholeDish_0 : decode cX0_wholeDish 0 = .ok (.iconst 1, 1) := by decide +kernel
theorem dX0_wholeDish_1 : decode cX0_wholeDish 1 = .ok (.aload_n 0, 1) := by decide +kernel
theorem dX0_wholeDish_2 : decode cX0_wholeDish 2 = .ok (.getfield 15, 3) := by decide +kernel
theorem dX0_wholeDish_5 : decode cX0_wholeDish 5 = .ok (.ishl, 1) := by decide +kernel
theorem dX0_wholeDish_6 : decode cX0_wholeDish 6 = .ok (.iconst 1, 1) := by decide +kernel
theorem dX0_wholeDish_7 : decode cX0_wholeDish 7 = .ok (.isub, 1) := by decide +kernel
theorem dX0_wholeDish_8 : decode cX0_wholeDish 8 = .ok (.ireturn, 1) := by decide +kernel
set_option maxRecDepth 20000 in
theorem ggX0_kindAt_X0_hasPlace : GoodIn wsX0_kindAt wsX0_hasPlace := goodIn_r _ [6, 7, 8, 9] (by decide +kernel) (by decide +kernel)
set_option maxRecDepth 20000 in
theorem gX0_kindAt_X0_hasPlace : GoodIn wsX0_kindAt (wsV RX0 19 RX0 yX0_hasPlace wsX0_hasPlace) := goodIn_app (goodIn_of _ (by decide +kernel)) ggX0_kindAt_X0_hasPlace
theorem dX0_kindAt_0 : decode cX0_kindAt 0 = .ok (.aload_n 0, 1) := by decide +kernel
theorem dX0_kindAt_1 : decode cX0_kindAt 1 = .ok (.iload_n 1, 1) := by decide +kernel
theorem dX0_kindAt_2 : decode cX0_kindAt 2 = .ok (.invokevirtual 19, 3) := by decide +kernel
theorem dX0_kindAt_5 : decode cX0_kindAt 5 = .ok (.ifCond .eq 12, 3) := by decide +kernel
theorem dX0_kindAt_8 : decode cX0_kindAt 8 = .ok (.aload_n 0, 1) := by decide +kernel
theorem dX0_kindAt_9 : decode cX0_kindAt 9 = .ok (.getfield 9, 3) := by decide +kernel
theorem dX0_kindAt_12 : decode cX0_kindAt 12 = .ok (.iload_n 1, 1) := by decide +kernel
theorem dX0_kindAt_13 : decode cX0_kindAt 13 = .ok (.iaload, 1) := by decide +kernel
theorem dX0_kindAt_14 : decode cX0_kindAt 14 = .ok (.goto 4, 3) := by decide +kernel
theorem dX0_kindAt_17 : decode cX0_kindAt 17 = .ok (.iconst (-1), 1) := by decide +kernel
theorem dX0_kindAt_18 : decode cX0_kindAt 18 = .ok (.ireturn, 1) := by decide +kernel
set_option maxRecDepth 20000 in
theorem ggX0_append_X0_isFull : GoodIn wsX0_append wsX0_isFull := goodIn_r _ [7, 2, 1, 8, 9] (by decide +kernel) (by decide +kernel)
set_option maxRecDepth 20000 in
theorem gX0_append_X0_isFull : GoodIn wsX0_append (wsV RX0 23 RX0 yX0_isFull wsX0_isFull) := goodIn_app (goodIn_of _ (by decide +kernel)) ggX0_append_X0_isFull
theorem dX0_append_0 : decode cX0_append 0 = .ok (.aload_n 0, 1) := by decide +kernel
theorem dX0_append_1 : decode cX0_append 1 = .ok (.invokevirtual 23, 3) := by decide +kernel
theorem dX0_append_4 : decode cX0_append 4 = .ok (.ifCond .ne 23, 3) := by decide +kernel
theorem dX0_append_7 : decode cX0_append 7 = .ok (.aload_n 0, 1) := by decide +kernel
theorem dX0_append_8 : decode cX0_append 8 = .ok (.getfield 9, 3) := by decide +kernel
theorem dX0_append_11 : decode cX0_append 11 = .ok (.aload_n 0, 1) := by decide +kernel
theorem dX0_append_12 : decode cX0_append 12 = .ok (.getfield 15, 3) := by decide +kernel
theorem dX0_append_15 : decode cX0_append 15 = .ok (.iload_n 1, 1) := by decide +kernel
theorem dX0_append_16 : decode cX0_append 16 = .ok (.iastore, 1) := by decide +kernel
theorem dX0_append_17 : decode cX0_append 17 = .ok (.aload_n 0, 1) := by decide +kernel
theorem dX0_append_18 : decode cX0_append 18 = .ok (.dup, 1) := by decide +kernel
theorem dX0_append_19 : decode cX0_append 19 = .ok (.getfield 15, 3) := by decide +kernel
theorem dX0_append_22 : decode cX0_append 22 = .ok (.iconst 1, 1) := by decide +kernel
theorem dX0_append_23 : decode cX0_append 23 = .ok (.iadd, 1) := by decide +kernel
theorem dX0_append_24 : decode cX0_append 24 = .ok (.putfield 15, 3) := by decide +kernel
theorem dX0_append_27 : decode cX0_append 27 = .ok (.return_, 1) := by decide +kernel
set_option maxRecDepth 20000 in
theorem ggX0_takeOut_X0_hasPlace : GoodIn wsX0_takeOut wsX0_hasPlace := goodIn_r _ [7, 1, 8, 9] (by decide +kernel) (by decide +kernel)
set_option maxRecDepth 20000 in
theorem gX0_takeOut_X0_hasPlace : GoodIn wsX0_takeOut (wsV RX0 19 RX0 yX0_hasPlace wsX0_hasPlace) := goodIn_app (goodIn_of _ (by decide +kernel)) ggX0_takeOut_X0_hasPlace
theorem dX0_takeOut_0 : decode cX0_takeOut 0 = .ok (.aload_n 0, 1) := by decide +kernel
theorem dX0_takeOut_1 : decode cX0_takeOut 1 = .ok (.iload_n 1, 1) := by decide +kernel
theorem dX0_takeOut_2 : decode cX0_takeOut 2 = .ok (.invokevirtual 19, 3) := by decide +kernel
theorem dX0_takeOut_5 : decode cX0_takeOut 5 = .ok (.ifCond .ne 4, 3) := by decide +kernel
theorem dX0_takeOut_8 : decode cX0_takeOut 8 = .ok (.return_, 1) := by decide +kernel
theorem dX0_takeOut_9 : decode cX0_takeOut 9 = .ok (.iload_n 1, 1) := by decide +kernel
theorem dX0_takeOut_10 : decode cX0_takeOut 10 = .ok (.istore_n 2, 1) := by decide +kernel
theorem dX0_takeOut_11 : decode cX0_takeOut 11 = .ok (.iload_n 2, 1) := by decide +kernel
theorem dX0_takeOut_12 : decode cX0_takeOut 12 = .ok (.iconst 1, 1) := by decide +kernel
theorem dX0_takeOut_13 : decode cX0_takeOut 13 = .ok (.iadd, 1) := by decide +kernel
theorem dX0_takeOut_14 : decode cX0_takeOut 14 = .ok (.aload_n 0, 1) := by decide +kernel
theorem dX0_takeOut_15 : decode cX0_takeOut 15 = .ok (.getfield 15, 3) := by decide +kernel
theorem dX0_takeOut_18 : decode cX0_takeOut 18 = .ok (.if_icmp .ge 23, 3) := by decide +kernel
theorem dX0_takeOut_21 : decode cX0_takeOut 21 = .ok (.aload_n 0, 1) := by decide +kernel
theorem dX0_takeOut_22 : decode cX0_takeOut 22 = .ok (.getfield 9, 3) := by decide +kernel
theorem dX0_takeOut_25 : decode cX0_takeOut 25 = .ok (.iload_n 2, 1) := by decide +kernel
theorem dX0_takeOut_26 : decode cX0_takeOut 26 = .ok (.aload_n 0, 1) := by decide +kernel
theorem dX0_takeOut_27 : decode cX0_takeOut 27 = .ok (.getfield 9, 3) := by decide +kernel
theorem dX0_takeOut_30 : decode cX0_takeOut 30 = .ok (.iload_n 2, 1) := by decide +kernel
theorem dX0_takeOut_31 : decode cX0_takeOut 31 = .ok (.iconst 1, 1) := by decide +kernel
theorem dX0_takeOut_32 : decode cX0_takeOut 32 = .ok (.iadd, 1) := by decide +kernel
theorem dX0_takeOut_33 : decode cX0_takeOut 33 = .ok (.iaload, 1) := by decide +kernel
theorem dX0_takeOut_34 : decode cX0_takeOut 34 = .ok (.iastore, 1) := by decide +kernel
theorem dX0_takeOut_35 : decode cX0_takeOut 35 = .ok (.iinc 2 1, 3) := by decide +kernel
theorem dX0_takeOut_38 : decode cX0_takeOut 38 = .ok (.goto (-27), 3) := by decide +kernel
theorem dX0_takeOut_41 : decode cX0_takeOut 41 = .ok (.aload_n 0, 1) := by decide +kernel
theorem dX0_takeOut_42 : decode cX0_takeOut 42 = .ok (.dup, 1) := by decide +kernel
theorem dX0_takeOut_43 : decode cX0_takeOut 43 = .ok (.getfield 15, 3) := by decide +kernel
theorem dX0_takeOut_46 : decode cX0_takeOut 46 = .ok (.iconst 1, 1) := by decide +kernel
theorem dX0_takeOut_47 : decode cX0_takeOut 47 = .ok (.isub, 1) := by decide +kernel
theorem dX0_takeOut_48 : decode cX0_takeOut 48 = .ok (.putfield 15, 3) := by decide +kernel
theorem dX0_takeOut_51 : decode cX0_takeOut 51 = .ok (.return_, 1) := by decide +kernel
theorem dX0_kindsOf_0 : decode cX0_kindsOf 0 = .ok (.iconst 0, 1) := by decide +kernel
theorem dX0_kindsOf_1 : decode cX0_kindsOf 1 = .ok (.istore_n 2, 1) := by decide +kernel
theorem dX0_kindsOf_2 : decode cX0_kindsOf 2 = .ok (.iconst 0, 1) := by decide +kernel
theorem dX0_kindsOf_3 : decode cX0_kindsOf 3 = .ok (.istore_n 3, 1) := by decide +kernel
theorem dX0_kindsOf_4 : decode cX0_kindsOf 4 = .ok (.iload_n 3, 1) := by decide +kernel
theorem dX0_kindsOf_5 : decode cX0_kindsOf 5 = .ok (.aload_n 0, 1) := by decide +kernel
theorem dX0_kindsOf_6 : decode cX0_kindsOf 6 = .ok (.getfield 15, 3) := by decide +kernel
theorem dX0_kindsOf_9 : decode cX0_kindsOf 9 = .ok (.if_icmp .ge 28, 3) := by decide +kernel
theorem dX0_kindsOf_12 : decode cX0_kindsOf 12 = .ok (.iload_n 1, 1) := by decide +kernel
theorem dX0_kindsOf_13 : decode cX0_kindsOf 13 = .ok (.iload_n 3, 1) := by decide +kernel
theorem dX0_kindsOf_14 : decode cX0_kindsOf 14 = .ok (.ishr, 1) := by decide +kernel
theorem dX0_kindsOf_15 : decode cX0_kindsOf 15 = .ok (.iconst 1, 1) := by decide +kernel
theorem dX0_kindsOf_16 : decode cX0_kindsOf 16 = .ok (.iand, 1) := by decide +kernel
theorem dX0_kindsOf_17 : decode cX0_kindsOf 17 = .ok (.ifCond .eq 14, 3) := by decide +kernel
theorem dX0_kindsOf_20 : decode cX0_kindsOf 20 = .ok (.iload_n 2, 1) := by decide +kernel
theorem dX0_kindsOf_21 : decode cX0_kindsOf 21 = .ok (.iconst 1, 1) := by decide +kernel
theorem dX0_kindsOf_22 : decode cX0_kindsOf 22 = .ok (.aload_n 0, 1) := by decide +kernel
theorem dX0_kindsOf_23 : decode cX0_kindsOf 23 = .ok (.getfield 9, 3) := by decide +kernel
theorem dX0_kindsOf_26 : decode cX0_kindsOf 26 = .ok (.iload_n 3, 1) := by decide +kernel
theorem dX0_kindsOf_27 : decode cX0_kindsOf 27 = .ok (.iaload, 1) := by decide +kernel
theorem dX0_kindsOf_28 : decode cX0_kindsOf 28 = .ok (.ishl, 1) := by decide +kernel
theorem dX0_kindsOf_29 : decode cX0_kindsOf 29 = .ok (.ior, 1) := by decide +kernel
theorem dX0_kindsOf_30 : decode cX0_kindsOf 30 = .ok (.istore_n 2, 1) := by decide +kernel
theorem dX0_kindsOf_31 : decode cX0_kindsOf 31 = .ok (.iinc 3 1, 3) := by decide +kernel
theorem dX0_kindsOf_34 : decode cX0_kindsOf 34 = .ok (.goto (-30), 3) := by decide +kernel
theorem dX0_kindsOf_37 : decode cX0_kindsOf 37 = .ok (.iload_n 2, 1) := by decide +kernel
theorem dX0_kindsOf_38 : decode cX0_kindsOf 38 = .ok (.ireturn, 1) := by decide +kernel
theorem dX1_init_0 : decode cX1_init 0 = .ok (.aload_n 0, 1) := by decide +kernel
theorem dX1_init_1 : decode cX1_init 1 = .ok (.invokespecial 3, 3) := by decide +kernel
theorem dX1_init_4 : decode cX1_init 4 = .ok (.aload_n 0, 1) := by decide +kernel
theorem dX1_init_5 : decode cX1_init 5 = .ok (.bipush 6, 2) := by decide +kernel
theorem dX1_init_7 : decode cX1_init 7 = .ok (.newarray .int, 2) := by decide +kernel
theorem dX1_init_9 : decode cX1_init 9 = .ok (.putfield 9, 3) := by decide +kernel
theorem dX1_init_12 : decode cX1_init 12 = .ok (.aload_n 0, 1) := by decide +kernel
theorem dX1_init_13 : decode cX1_init 13 = .ok (.bipush 6, 2) := by decide +kernel
theorem dX1_init_15 : decode cX1_init 15 = .ok (.newarray .int, 2) := by decide +kernel
theorem dX1_init_17 : decode cX1_init 17 = .ok (.putfield 15, 3) := by decide +kernel
theorem dX1_init_20 : decode cX1_init 20 = .ok (.return_, 1) := by decide +kernel
theorem dX1_size_0 : decode cX1_size 0 = .ok (.aload_n 0, 1) := by decide +kernel
theorem dX1_size_1 : decode cX1_size 1 = .ok (.getfield 18, 3) := by decide +kernel
theorem dX1_size_4 : decode cX1_size 4 = .ok (.ireturn, 1) := by decide +kernel
theorem dX1_isFull_0 : decode cX1_isFull 0 = .ok (.aload_n 0, 1) := by decide +kernel
theorem dX1_isFull_1 : decode cX1_isFull 1 = .ok (.getfield 18, 3) := by decide +kernel
theorem dX1_isFull_4 : decode cX1_isFull 4 = .ok (.bipush 6, 2) := by decide +kernel
theorem dX1_isFull_6 : decode cX1_isFull 6 = .ok (.if_icmp .lt 7, 3) := by decide +kernel
theorem dX1_isFull_9 : decode cX1_isFull 9 = .ok (.iconst 1, 1) := by decide +kernel
theorem dX1_isFull_10 : decode cX1_isFull 10 = .ok (.goto 4, 3) := by decide +kernel
theorem dX1_isFull_13 : decode cX1_isFull 13 = .ok (.iconst 0, 1) := by decide +kernel
theorem dX1_isFull_14 : decode cX1_isFull 14 = .ok (.ireturn, 1) := by decide +kernel
theorem dX1_hasRule_0 : decode cX1_hasRule 0 = .ok (.iload_n 1, 1) := by decide +kernel
theorem dX1_hasRule_1 : decode cX1_hasRule 1 = .ok (.ifCond .lt 15, 3) := by decide +kernel
theorem dX1_hasRule_4 : decode cX1_hasRule 4 = .ok (.iload_n 1, 1) := by decide +kernel
theorem dX1_hasRule_5 : decode cX1_hasRule 5 = .ok (.aload_n 0, 1) := by decide +kernel
theorem dX1_hasRule_6 : decode cX1_hasRule 6 = .ok (.getfield 18, 3) := by decide +kernel
theorem dX1_hasRule_9 : decode cX1_hasRule 9 = .ok (.if_icmp .ge 7, 3) := by decide +kernel
theorem dX1_hasRule_12 : decode cX1_hasRule 12 = .ok (.iconst 1, 1) := by decide +kernel
theorem dX1_hasRule_13 : decode cX1_hasRule 13 = .ok (.goto 4, 3) := by decide +kernel
theorem dX1_hasRule_16 : decode cX1_hasRule 16 = .ok (.iconst 0, 1) := by decide +kernel
theorem dX1_hasRule_17 : decode cX1_hasRule 17 = .ok (.ireturn, 1) := by decide +kernel
set_option maxRecDepth 20000 in
theorem ggX1_append_X1_isFull : GoodIn wsX1_append wsX1_isFull := goodIn_r _ [6, 1, 7, 8, 9] (by decide +kernel) (by decide +kernel)
set_option maxRecDepth 20000 in
theorem gX1_append_X1_isFull : GoodIn wsX1_append (wsV RX1 22 RX1 yX1_isFull wsX1_isFull) := goodIn_app (goodIn_of _ (by decide +kernel)) ggX1_append_X1_isFull
theorem dX1_append_0 : decode cX1_append 0 = .ok (.aload_n 0, 1) := by decide +kernel
theorem dX1_append_1 : decode cX1_append 1 = .ok (.invokevirtual 22, 3) := by decide +kernel
theorem dX1_append_4 : decode cX1_append 4 = .ok (.ifCond .ne 13, 3) := by decide +kernel
theorem dX1_append_7 : decode cX1_append 7 = .ok (.aload_n 0, 1) := by decide +kernel
theorem dX1_append_8 : decode cX1_append 8 = .ok (.dup, 1) := by decide +kernel
theorem dX1_append_9 : decode cX1_append 9 = .ok (.getfield 18, 3) := by decide +kernel
theorem dX1_append_12 : decode cX1_append 12 = .ok (.iconst 1, 1) := by decide +kernel
theorem dX1_append_13 : decode cX1_append 13 = .ok (.iadd, 1) := by decide +kernel
theorem dX1_append_14 : decode cX1_append 14 = .ok (.putfield 18, 3) := by decide +kernel
theorem dX1_append_17 : decode cX1_append 17 = .ok (.return_, 1) := by decide +kernel
set_option maxRecDepth 20000 in
theorem ggX1_neededBy_X1_hasRule : GoodIn wsX1_neededBy wsX1_hasRule := goodIn_r _ [6, 7, 8, 9, 10] (by decide +kernel) (by decide +kernel)
set_option maxRecDepth 20000 in
theorem gX1_neededBy_X1_hasRule : GoodIn wsX1_neededBy (wsV RX1 26 RX1 yX1_hasRule wsX1_hasRule) := goodIn_app (goodIn_of _ (by decide +kernel)) ggX1_neededBy_X1_hasRule
theorem dX1_neededBy_0 : decode cX1_neededBy 0 = .ok (.aload_n 0, 1) := by decide +kernel
theorem dX1_neededBy_1 : decode cX1_neededBy 1 = .ok (.iload_n 1, 1) := by decide +kernel
theorem dX1_neededBy_2 : decode cX1_neededBy 2 = .ok (.invokevirtual 26, 3) := by decide +kernel
theorem dX1_neededBy_5 : decode cX1_neededBy 5 = .ok (.ifCond .eq 12, 3) := by decide +kernel
theorem dX1_neededBy_8 : decode cX1_neededBy 8 = .ok (.aload_n 0, 1) := by decide +kernel
theorem dX1_neededBy_9 : decode cX1_neededBy 9 = .ok (.getfield 9, 3) := by decide +kernel
theorem dX1_neededBy_12 : decode cX1_neededBy 12 = .ok (.iload_n 1, 1) := by decide +kernel
theorem dX1_neededBy_13 : decode cX1_neededBy 13 = .ok (.iaload, 1) := by decide +kernel
theorem dX1_neededBy_14 : decode cX1_neededBy 14 = .ok (.goto 4, 3) := by decide +kernel
theorem dX1_neededBy_17 : decode cX1_neededBy 17 = .ok (.iconst 0, 1) := by decide +kernel
theorem dX1_neededBy_18 : decode cX1_neededBy 18 = .ok (.ireturn, 1) := by decide +kernel
set_option maxRecDepth 20000 in
theorem ggX1_sparedBy_X1_hasRule : GoodIn wsX1_sparedBy wsX1_hasRule := goodIn_r _ [6, 7, 8, 9, 10] (by decide +kernel) (by decide +kernel)
set_option maxRecDepth 20000 in
theorem gX1_sparedBy_X1_hasRule : GoodIn wsX1_sparedBy (wsV RX1 26 RX1 yX1_hasRule wsX1_hasRule) := goodIn_app (goodIn_of _ (by decide +kernel)) ggX1_sparedBy_X1_hasRule
theorem dX1_sparedBy_0 : decode cX1_sparedBy 0 = .ok (.aload_n 0, 1) := by decide +kernel
theorem dX1_sparedBy_1 : decode cX1_sparedBy 1 = .ok (.iload_n 1, 1) := by decide +kernel
theorem dX1_sparedBy_2 : decode cX1_sparedBy 2 = .ok (.invokevirtual 26, 3) := by decide +kernel
theorem dX1_sparedBy_5 : decode cX1_sparedBy 5 = .ok (.ifCond .eq 12, 3) := by decide +kernel
theorem dX1_sparedBy_8 : decode cX1_sparedBy 8 = .ok (.aload_n 0, 1) := by decide +kernel
theorem dX1_sparedBy_9 : decode cX1_sparedBy 9 = .ok (.getfield 15, 3) := by decide +kernel
theorem dX1_sparedBy_12 : decode cX1_sparedBy 12 = .ok (.iload_n 1, 1) := by decide +kernel
theorem dX1_sparedBy_13 : decode cX1_sparedBy 13 = .ok (.iaload, 1) := by decide +kernel
theorem dX1_sparedBy_14 : decode cX1_sparedBy 14 = .ok (.goto 4, 3) := by decide +kernel
theorem dX1_sparedBy_17 : decode cX1_sparedBy 17 = .ok (.iconst 0, 1) := by decide +kernel
theorem dX1_sparedBy_18 : decode cX1_sparedBy 18 = .ok (.ireturn, 1) := by decide +kernel
set_option maxRecDepth 20000 in
theorem ggX1_putNeeded_X1_hasRule : GoodIn wsX1_putNeeded wsX1_hasRule := goodIn_r _ [6, 7, 8, 9, 10] (by decide +kernel) (by decide +kernel)
set_option maxRecDepth 20000 in
theorem gX1_putNeeded_X1_hasRule : GoodIn wsX1_putNeeded (wsV RX1 26 RX1 yX1_hasRule wsX1_hasRule) := goodIn_app (goodIn_of _ (by decide +kernel)) ggX1_putNeeded_X1_hasRule
theorem dX1_putNeeded_0 : decode cX1_putNeeded 0 = .ok (.aload_n 0, 1) := by decide +kernel
theorem dX1_putNeeded_1 : decode cX1_putNeeded 1 = .ok (.iload_n 1, 1) := by decide +kernel
theorem dX1_putNeeded_2 : decode cX1_putNeeded 2 = .ok (.invokevirtual 26, 3) := by decide +kernel
theorem dX1_putNeeded_5 : decode cX1_putNeeded 5 = .ok (.ifCond .eq 10, 3) := by decide +kernel
theorem dX1_putNeeded_8 : decode cX1_putNeeded 8 = .ok (.aload_n 0, 1) := by decide +kernel
theorem dX1_putNeeded_9 : decode cX1_putNeeded 9 = .ok (.getfield 9, 3) := by decide +kernel
theorem dX1_putNeeded_12 : decode cX1_putNeeded 12 = .ok (.iload_n 1, 1) := by decide +kernel
theorem dX1_putNeeded_13 : decode cX1_putNeeded 13 = .ok (.iload_n 2, 1) := by decide +kernel
theorem dX1_putNeeded_14 : decode cX1_putNeeded 14 = .ok (.iastore, 1) := by decide +kernel
theorem dX1_putNeeded_15 : decode cX1_putNeeded 15 = .ok (.return_, 1) := by decide +kernel
set_option maxRecDepth 20000 in
theorem ggX1_putSpared_X1_hasRule : GoodIn wsX1_putSpared wsX1_hasRule := goodIn_r _ [6, 7, 8, 9, 10] (by decide +kernel) (by decide +kernel)
set_option maxRecDepth 20000 in
theorem gX1_putSpared_X1_hasRule : GoodIn wsX1_putSpared (wsV RX1 26 RX1 yX1_hasRule wsX1_hasRule) := goodIn_app (goodIn_of _ (by decide +kernel)) ggX1_putSpared_X1_hasRule
theorem dX1_putSpared_0 : decode cX1_putSpared 0 = .ok (.aload_n 0, 1) := by decide +kernel
theorem dX1_putSpared_1 : decode cX1_putSpared 1 = .ok (.iload_n 1, 1) := by decide +kernel
theorem dX1_putSpared_2 : decode cX1_putSpared 2 = .ok (.invokevirtual 26, 3) := by decide +kernel
theorem dX1_putSpared_5 : decode cX1_putSpared 5 = .ok (.ifCond .eq 10, 3) := by decide +kernel
theorem dX1_putSpared_8 : decode cX1_putSpared 8 = .ok (.aload_n 0, 1) := by decide +kernel
theorem dX1_putSpared_9 : decode cX1_putSpared 9 = .ok (.getfield 15, 3) := by decide +kernel
theorem dX1_putSpared_12 : decode cX1_putSpared 12 = .ok (.iload_n 1, 1) := by decide +kernel
theorem dX1_putSpared_13 : decode cX1_putSpared 13 = .ok (.iload_n 2, 1) := by decide +kernel
theorem dX1_putSpared_14 : decode cX1_putSpared 14 = .ok (.iastore, 1) := by decide +kernel
theorem dX1_putSpared_15 : decode cX1_putSpared 15 = .ok (.return_, 1) := by decide +kernel
theorem dX1_holds_0 : decode cX1_holds 0 = .ok (.iload_n 1, 1) := by decide +kernel
theorem dX1_holds_1 : decode cX1_holds 1 = .ok (.ifCond .lt 52, 3) := by decide +kernel
theorem dX1_holds_4 : decode cX1_holds 4 = .ok (.iload_n 1, 1) := by decide +kernel
theorem dX1_holds_5 : decode cX1_holds 5 = .ok (.aload_n 0, 1) := by decide +kernel
theorem dX1_holds_6 : decode cX1_holds 6 = .ok (.getfield 18, 3) := by decide +kernel
theorem dX1_holds_9 : decode cX1_holds 9 = .ok (.if_icmp .ge 44, 3) := by decide +kernel
theorem dX1_holds_12 : decode cX1_holds 12 = .ok (.aload_n 0, 1) := by decide +kernel
theorem dX1_holds_13 : decode cX1_holds 13 = .ok (.getfield 9, 3) := by decide +kernel
theorem dX1_holds_16 : decode cX1_holds 16 = .ok (.iload_n 1, 1) := by decide +kernel
theorem dX1_holds_17 : decode cX1_holds 17 = .ok (.iaload, 1) := by decide +kernel
theorem dX1_holds_18 : decode cX1_holds 18 = .ok (.ifCond .eq 35, 3) := by decide +kernel
theorem dX1_holds_21 : decode cX1_holds 21 = .ok (.iload_n 2, 1) := by decide +kernel
theorem dX1_holds_22 : decode cX1_holds 22 = .ok (.aload_n 0, 1) := by decide +kernel
theorem dX1_holds_23 : decode cX1_holds 23 = .ok (.getfield 9, 3) := by decide +kernel
theorem dX1_holds_26 : decode cX1_holds 26 = .ok (.iload_n 1, 1) := by decide +kernel
theorem dX1_holds_27 : decode cX1_holds 27 = .ok (.iaload, 1) := by decide +kernel
theorem dX1_holds_28 : decode cX1_holds 28 = .ok (.iand, 1) := by decide +kernel
theorem dX1_holds_29 : decode cX1_holds 29 = .ok (.aload_n 0, 1) := by decide +kernel
theorem dX1_holds_30 : decode cX1_holds 30 = .ok (.getfield 9, 3) := by decide +kernel
theorem dX1_holds_33 : decode cX1_holds 33 = .ok (.iload_n 1, 1) := by decide +kernel
theorem dX1_holds_34 : decode cX1_holds 34 = .ok (.iaload, 1) := by decide +kernel
theorem dX1_holds_35 : decode cX1_holds 35 = .ok (.if_icmp .ne 18, 3) := by decide +kernel
theorem dX1_holds_38 : decode cX1_holds 38 = .ok (.iload_n 2, 1) := by decide +kernel
theorem dX1_holds_39 : decode cX1_holds 39 = .ok (.aload_n 0, 1) := by decide +kernel
theorem dX1_holds_40 : decode cX1_holds 40 = .ok (.getfield 15, 3) := by decide +kernel
theorem dX1_holds_43 : decode cX1_holds 43 = .ok (.iload_n 1, 1) := by decide +kernel
theorem dX1_holds_44 : decode cX1_holds 44 = .ok (.iaload, 1) := by decide +kernel
theorem dX1_holds_45 : decode cX1_holds 45 = .ok (.iand, 1) := by decide +kernel
theorem dX1_holds_46 : decode cX1_holds 46 = .ok (.ifCond .ne 7, 3) := by decide +kernel
theorem dX1_holds_49 : decode cX1_holds 49 = .ok (.iconst 1, 1) := by decide +kernel
theorem dX1_holds_50 : decode cX1_holds 50 = .ok (.goto 4, 3) := by decide +kernel
theorem dX1_holds_53 : decode cX1_holds 53 = .ok (.iconst 0, 1) := by decide +kernel
theorem dX1_holds_54 : decode cX1_holds 54 = .ok (.ireturn, 1) := by decide +kernel
set_option maxRecDepth 20000 in
theorem ggX1_holding_X1_holds : GoodIn wsX1_holding wsX1_holds := goodIn_r _ [6, 1, 7, 8, 9, 10, 11] (by decide +kernel) (by decide +kernel)
set_option maxRecDepth 20000 in
theorem gX1_holding_X1_holds : GoodIn wsX1_holding (wsV RX1 30 RX1 yX1_holds wsX1_holds) := goodIn_app (goodIn_of _ (by decide +kernel)) ggX1_holding_X1_holds
theorem dX1_holding_0 : decode cX1_holding 0 = .ok (.iconst 0, 1) := by decide +kernel
theorem dX1_holding_1 : decode cX1_holding 1 = .ok (.istore_n 2, 1) := by decide +kernel
theorem dX1_holding_2 : decode cX1_holding 2 = .ok (.iconst 0, 1) := by decide +kernel
theorem dX1_holding_3 : decode cX1_holding 3 = .ok (.istore_n 3, 1) := by decide +kernel
theorem dX1_holding_4 : decode cX1_holding 4 = .ok (.iload_n 3, 1) := by decide +kernel
theorem dX1_holding_5 : decode cX1_holding 5 = .ok (.aload_n 0, 1) := by decide +kernel
theorem dX1_holding_6 : decode cX1_holding 6 = .ok (.getfield 18, 3) := by decide +kernel
theorem dX1_holding_9 : decode cX1_holding 9 = .ok (.if_icmp .ge 21, 3) := by decide +kernel
theorem dX1_holding_12 : decode cX1_holding 12 = .ok (.aload_n 0, 1) := by decide +kernel
theorem dX1_holding_13 : decode cX1_holding 13 = .ok (.iload_n 3, 1) := by decide +kernel
theorem dX1_holding_14 : decode cX1_holding 14 = .ok (.iload_n 1, 1) := by decide +kernel
theorem dX1_holding_15 : decode cX1_holding 15 = .ok (.invokevirtual 30, 3) := by decide +kernel
theorem dX1_holding_18 : decode cX1_holding 18 = .ok (.ifCond .eq 6, 3) := by decide +kernel
theorem dX1_holding_21 : decode cX1_holding 21 = .ok (.iinc 2 1, 3) := by decide +kernel
theorem dX1_holding_24 : decode cX1_holding 24 = .ok (.iinc 3 1, 3) := by decide +kernel
theorem dX1_holding_27 : decode cX1_holding 27 = .ok (.goto (-23), 3) := by decide +kernel
theorem dX1_holding_30 : decode cX1_holding 30 = .ok (.iload_n 2, 1) := by decide +kernel
theorem dX1_holding_31 : decode cX1_holding 31 = .ok (.ireturn, 1) := by decide +kernel
set_option maxRecDepth 20000 in
theorem ggX1_leastNeeded_J6_bitCount_0f7a4 : GoodIn wsX1_leastNeeded wsJ6_bitCount_0f7a4 := goodIn_r _ [6, 7, 8, 9] (by decide +kernel) (by decide +kernel)
set_option maxRecDepth 20000 in
theorem gX1_leastNeeded_J6_bitCount_0f7a4 : GoodIn wsX1_leastNeeded (va_wsS RX1 34 yJ6_bitCount_0f7a4 wsJ6_bitCount_0f7a4) := goodIn_app (goodIn_of _ (by decide +kernel)) ggX1_leastNeeded_J6_bitCount_0f7a4
theorem dX1_leastNeeded_0 : decode cX1_leastNeeded 0 = .ok (.iconst 0, 1) := by decide +kernel
theorem dX1_leastNeeded_1 : decode cX1_leastNeeded 1 = .ok (.istore_n 2, 1) := by decide +kernel
theorem dX1_leastNeeded_2 : decode cX1_leastNeeded 2 = .ok (.iconst 0, 1) := by decide +kernel
theorem dX1_leastNeeded_3 : decode cX1_leastNeeded 3 = .ok (.istore_n 3, 1) := by decide +kernel
theorem dX1_leastNeeded_4 : decode cX1_leastNeeded 4 = .ok (.iload_n 3, 1) := by decide +kernel
theorem dX1_leastNeeded_5 : decode cX1_leastNeeded 5 = .ok (.aload_n 0, 1) := by decide +kernel
theorem dX1_leastNeeded_6 : decode cX1_leastNeeded 6 = .ok (.getfield 18, 3) := by decide +kernel
theorem dX1_leastNeeded_9 : decode cX1_leastNeeded 9 = .ok (.if_icmp .ge 67, 3) := by decide +kernel
theorem dX1_leastNeeded_12 : decode cX1_leastNeeded 12 = .ok (.aload_n 0, 1) := by decide +kernel
theorem dX1_leastNeeded_13 : decode cX1_leastNeeded 13 = .ok (.getfield 9, 3) := by decide +kernel
theorem dX1_leastNeeded_16 : decode cX1_leastNeeded 16 = .ok (.iload_n 3, 1) := by decide +kernel
theorem dX1_leastNeeded_17 : decode cX1_leastNeeded 17 = .ok (.iaload, 1) := by decide +kernel
theorem dX1_leastNeeded_18 : decode cX1_leastNeeded 18 = .ok (.invokestatic 34, 3) := by decide +kernel
theorem dX1_leastNeeded_21 : decode cX1_leastNeeded 21 = .ok (.istore 4, 2) := by decide +kernel
theorem dX1_leastNeeded_23 : decode cX1_leastNeeded 23 = .ok (.iload 4, 2) := by decide +kernel
theorem dX1_leastNeeded_25 : decode cX1_leastNeeded 25 = .ok (.ifCond .le 24, 3) := by decide +kernel
theorem dX1_leastNeeded_28 : decode cX1_leastNeeded 28 = .ok (.iload_n 1, 1) := by decide +kernel
theorem dX1_leastNeeded_29 : decode cX1_leastNeeded 29 = .ok (.aload_n 0, 1) := by decide +kernel
theorem dX1_leastNeeded_30 : decode cX1_leastNeeded 30 = .ok (.getfield 9, 3) := by decide +kernel
theorem dX1_leastNeeded_33 : decode cX1_leastNeeded 33 = .ok (.iload_n 3, 1) := by decide +kernel
theorem dX1_leastNeeded_34 : decode cX1_leastNeeded 34 = .ok (.iaload, 1) := by decide +kernel
theorem dX1_leastNeeded_35 : decode cX1_leastNeeded 35 = .ok (.iand, 1) := by decide +kernel
theorem dX1_leastNeeded_36 : decode cX1_leastNeeded 36 = .ok (.aload_n 0, 1) := by decide +kernel
theorem dX1_leastNeeded_37 : decode cX1_leastNeeded 37 = .ok (.getfield 9, 3) := by decide +kernel
theorem dX1_leastNeeded_40 : decode cX1_leastNeeded 40 = .ok (.iload_n 3, 1) := by decide +kernel
theorem dX1_leastNeeded_41 : decode cX1_leastNeeded 41 = .ok (.iaload, 1) := by decide +kernel
theorem dX1_leastNeeded_42 : decode cX1_leastNeeded 42 = .ok (.if_icmp .ne 7, 3) := by decide +kernel
theorem dX1_leastNeeded_45 : decode cX1_leastNeeded 45 = .ok (.iconst 1, 1) := by decide +kernel
theorem dX1_leastNeeded_46 : decode cX1_leastNeeded 46 = .ok (.goto 4, 3) := by decide +kernel
theorem dX1_leastNeeded_49 : decode cX1_leastNeeded 49 = .ok (.iconst 0, 1) := by decide +kernel
theorem dX1_leastNeeded_50 : decode cX1_leastNeeded 50 = .ok (.istore 5, 2) := by decide +kernel
theorem dX1_leastNeeded_52 : decode cX1_leastNeeded 52 = .ok (.iload 5, 2) := by decide +kernel
theorem dX1_leastNeeded_54 : decode cX1_leastNeeded 54 = .ok (.ifCond .eq 16, 3) := by decide +kernel
theorem dX1_leastNeeded_57 : decode cX1_leastNeeded 57 = .ok (.iload_n 2, 1) := by decide +kernel
theorem dX1_leastNeeded_58 : decode cX1_leastNeeded 58 = .ok (.ifCond .eq 9, 3) := by decide +kernel
theorem dX1_leastNeeded_61 : decode cX1_leastNeeded 61 = .ok (.iload 4, 2) := by decide +kernel
theorem dX1_leastNeeded_63 : decode cX1_leastNeeded 63 = .ok (.iload_n 2, 1) := by decide +kernel
theorem dX1_leastNeeded_64 : decode cX1_leastNeeded 64 = .ok (.if_icmp .ge 6, 3) := by decide +kernel
theorem dX1_leastNeeded_67 : decode cX1_leastNeeded 67 = .ok (.iload 4, 2) := by decide +kernel
theorem dX1_leastNeeded_69 : decode cX1_leastNeeded 69 = .ok (.istore_n 2, 1) := by decide +kernel
theorem dX1_leastNeeded_70 : decode cX1_leastNeeded 70 = .ok (.iinc 3 1, 3) := by decide +kernel
theorem dX1_leastNeeded_73 : decode cX1_leastNeeded 73 = .ok (.goto (-69), 3) := by decide +kernel
theorem dX1_leastNeeded_76 : decode cX1_leastNeeded 76 = .ok (.iload_n 2, 1) := by decide +kernel
theorem dX1_leastNeeded_77 : decode cX1_leastNeeded 77 = .ok (.ireturn, 1) := by decide +kernel
theorem dX2_init_0 : decode cX2_init 0 = .ok (.aload_n 0, 1) := by decide +kernel
theorem dX2_init_1 : decode cX2_init 1 = .ok (.invokespecial 3, 3) := by decide +kernel
theorem dX2_init_4 : decode cX2_init 4 = .ok (.aload_n 0, 1) := by decide +kernel
theorem dX2_init_5 : decode cX2_init 5 = .ok (.sipush 640, 3) := by decide +kernel
theorem dX2_init_8 : decode cX2_init 8 = .ok (.newarray .int, 2) := by decide +kernel
theorem dX2_init_10 : decode cX2_init 10 = .ok (.putfield 11, 3) := by decide +kernel
theorem dX2_init_13 : decode cX2_init 13 = .ok (.aload_n 0, 1) := by decide +kernel
theorem dX2_init_14 : decode cX2_init 14 = .ok (.bipush 25, 2) := by decide +kernel
theorem dX2_init_16 : decode cX2_init 16 = .ok (.newarray .int, 2) := by decide +kernel
theorem dX2_init_18 : decode cX2_init 18 = .ok (.putfield 15, 3) := by decide +kernel
theorem dX2_init_21 : decode cX2_init 21 = .ok (.return_, 1) := by decide +kernel
theorem dX2_list_0 : decode cX2_list 0 = .ok (.aload_n 0, 1) := by decide +kernel
theorem dX2_list_1 : decode cX2_list 1 = .ok (.getfield 18, 3) := by decide +kernel
theorem dX2_list_4 : decode cX2_list 4 = .ok (.ireturn, 1) := by decide +kernel
set_option maxRecDepth 20000 in
theorem ggX2_listSize_J6_bitCount_0f7a4 : GoodIn wsX2_listSize wsJ6_bitCount_0f7a4 := goodIn_r _ [5, 6, 7, 8] (by decide +kernel) (by decide +kernel)
set_option maxRecDepth 20000 in
theorem gX2_listSize_J6_bitCount_0f7a4 : GoodIn wsX2_listSize (va_wsS RX2 22 yJ6_bitCount_0f7a4 wsJ6_bitCount_0f7a4) := goodIn_app (goodIn_of _ (by decide +kernel)) ggX2_listSize_J6_bitCount_0f7a4
theorem dX2_listSize_0 : decode cX2_listSize 0 = .ok (.aload_n 0, 1) := by decide +kernel
theorem dX2_listSize_1 : decode cX2_listSize 1 = .ok (.getfield 18, 3) := by decide +kernel
theorem dX2_listSize_4 : decode cX2_listSize 4 = .ok (.invokestatic 22, 3) := by decide +kernel
theorem dX2_listSize_7 : decode cX2_listSize 7 = .ok (.ireturn, 1) := by decide +kernel
theorem dX2_steps_0 : decode cX2_steps 0 = .ok (.aload_n 0, 1) := by decide +kernel
theorem dX2_steps_1 : decode cX2_steps 1 = .ok (.getfield 28, 3) := by decide +kernel
theorem dX2_steps_4 : decode cX2_steps 4 = .ok (.ireturn, 1) := by decide +kernel
theorem dX2_tastings_0 : decode cX2_tastings 0 = .ok (.aload_n 0, 1) := by decide +kernel
theorem dX2_tastings_1 : decode cX2_tastings 1 = .ok (.getfield 31, 3) := by decide +kernel
theorem dX2_tastings_4 : decode cX2_tastings 4 = .ok (.ireturn, 1) := by decide +kernel
theorem dX2_listPlace_0 : decode cX2_listPlace 0 = .ok (.iconst 0, 1) := by decide +kernel
theorem dX2_listPlace_1 : decode cX2_listPlace 1 = .ok (.istore_n 2, 1) := by decide +kernel
theorem dX2_listPlace_2 : decode cX2_listPlace 2 = .ok (.iconst 0, 1) := by decide +kernel
theorem dX2_listPlace_3 : decode cX2_listPlace 3 = .ok (.istore_n 3, 1) := by decide +kernel
theorem dX2_listPlace_4 : decode cX2_listPlace 4 = .ok (.iload_n 3, 1) := by decide +kernel
theorem dX2_listPlace_5 : decode cX2_listPlace 5 = .ok (.bipush 24, 2) := by decide +kernel
theorem dX2_listPlace_7 : decode cX2_listPlace 7 = .ok (.if_icmp .ge 52, 3) := by decide +kernel
theorem dX2_listPlace_10 : decode cX2_listPlace 10 = .ok (.aload_n 0, 1) := by decide +kernel
theorem dX2_listPlace_11 : decode cX2_listPlace 11 = .ok (.getfield 18, 3) := by decide +kernel
theorem dX2_listPlace_14 : decode cX2_listPlace 14 = .ok (.iload_n 3, 1) := by decide +kernel
theorem dX2_listPlace_15 : decode cX2_listPlace 15 = .ok (.ishr, 1) := by decide +kernel
theorem dX2_listPlace_16 : decode cX2_listPlace 16 = .ok (.iconst 1, 1) := by decide +kernel
theorem dX2_listPlace_17 : decode cX2_listPlace 17 = .ok (.iand, 1) := by decide +kernel
theorem dX2_listPlace_18 : decode cX2_listPlace 18 = .ok (.ifCond .eq 7, 3) := by decide +kernel
theorem dX2_listPlace_21 : decode cX2_listPlace 21 = .ok (.iconst 1, 1) := by decide +kernel
theorem dX2_listPlace_22 : decode cX2_listPlace 22 = .ok (.goto 4, 3) := by decide +kernel
theorem dX2_listPlace_25 : decode cX2_listPlace 25 = .ok (.iconst 0, 1) := by decide +kernel
theorem dX2_listPlace_26 : decode cX2_listPlace 26 = .ok (.istore 4, 2) := by decide +kernel
theorem dX2_listPlace_28 : decode cX2_listPlace 28 = .ok (.iload 4, 2) := by decide +kernel
theorem dX2_listPlace_30 : decode cX2_listPlace 30 = .ok (.ifCond .eq 10, 3) := by decide +kernel
theorem dX2_listPlace_33 : decode cX2_listPlace 33 = .ok (.iload_n 2, 1) := by decide +kernel
theorem dX2_listPlace_34 : decode cX2_listPlace 34 = .ok (.iload_n 1, 1) := by decide +kernel
theorem dX2_listPlace_35 : decode cX2_listPlace 35 = .ok (.if_icmp .ne 5, 3) := by decide +kernel
theorem dX2_listPlace_38 : decode cX2_listPlace 38 = .ok (.iload_n 3, 1) := by decide +kernel
theorem dX2_listPlace_39 : decode cX2_listPlace 39 = .ok (.ireturn, 1) := by decide +kernel
theorem dX2_listPlace_40 : decode cX2_listPlace 40 = .ok (.iload_n 2, 1) := by decide +kernel
theorem dX2_listPlace_41 : decode cX2_listPlace 41 = .ok (.iload 4, 2) := by decide +kernel
theorem dX2_listPlace_43 : decode cX2_listPlace 43 = .ok (.ifCond .eq 7, 3) := by decide +kernel
theorem dX2_listPlace_46 : decode cX2_listPlace 46 = .ok (.iconst 1, 1) := by decide +kernel
theorem dX2_listPlace_47 : decode cX2_listPlace 47 = .ok (.goto 4, 3) := by decide +kernel
theorem dX2_listPlace_50 : decode cX2_listPlace 50 = .ok (.iconst 0, 1) := by decide +kernel
theorem dX2_listPlace_51 : decode cX2_listPlace 51 = .ok (.iadd, 1) := by decide +kernel
theorem dX2_listPlace_52 : decode cX2_listPlace 52 = .ok (.istore_n 2, 1) := by decide +kernel
theorem dX2_listPlace_53 : decode cX2_listPlace 53 = .ok (.iinc 3 1, 3) := by decide +kernel
theorem dX2_listPlace_56 : decode cX2_listPlace 56 = .ok (.goto (-52), 3) := by decide +kernel
theorem dX2_listPlace_59 : decode cX2_listPlace 59 = .ok (.iconst (-1), 1) := by decide +kernel
theorem dX2_listPlace_60 : decode cX2_listPlace 60 = .ok (.ireturn, 1) := by decide +kernel
theorem dX2_stepFact_0 : decode cX2_stepFact 0 = .ok (.iload_n 1, 1) := by decide +kernel
theorem dX2_stepFact_1 : decode cX2_stepFact 1 = .ok (.ifCond .lt 24, 3) := by decide +kernel
theorem dX2_stepFact_4 : decode cX2_stepFact 4 = .ok (.iload_n 1, 1) := by decide +kernel
theorem dX2_stepFact_5 : decode cX2_stepFact 5 = .ok (.aload_n 0, 1) := by decide +kernel
theorem dX2_stepFact_6 : decode cX2_stepFact 6 = .ok (.getfield 28, 3) := by decide +kernel
theorem dX2_stepFact_9 : decode cX2_stepFact 9 = .ok (.if_icmp .ge 16, 3) := by decide +kernel
theorem dX2_stepFact_12 : decode cX2_stepFact 12 = .ok (.iload_n 2, 1) := by decide +kernel
theorem dX2_stepFact_13 : decode cX2_stepFact 13 = .ok (.ifCond .lt 12, 3) := by decide +kernel
theorem dX2_stepFact_16 : decode cX2_stepFact 16 = .ok (.iload_n 2, 1) := by decide +kernel
theorem dX2_stepFact_17 : decode cX2_stepFact 17 = .ok (.iconst 5, 1) := by decide +kernel
theorem dX2_stepFact_18 : decode cX2_stepFact 18 = .ok (.if_icmp .ge 7, 3) := by decide +kernel
theorem dX2_stepFact_21 : decode cX2_stepFact 21 = .ok (.iconst 1, 1) := by decide +kernel
theorem dX2_stepFact_22 : decode cX2_stepFact 22 = .ok (.goto 4, 3) := by decide +kernel
theorem dX2_stepFact_25 : decode cX2_stepFact 25 = .ok (.iconst 0, 1) := by decide +kernel
theorem dX2_stepFact_26 : decode cX2_stepFact 26 = .ok (.istore_n 3, 1) := by decide +kernel
theorem dX2_stepFact_27 : decode cX2_stepFact 27 = .ok (.iload_n 3, 1) := by decide +kernel
theorem dX2_stepFact_28 : decode cX2_stepFact 28 = .ok (.ifCond .eq 16, 3) := by decide +kernel
theorem dX2_stepFact_31 : decode cX2_stepFact 31 = .ok (.aload_n 0, 1) := by decide +kernel
theorem dX2_stepFact_32 : decode cX2_stepFact 32 = .ok (.getfield 11, 3) := by decide +kernel
theorem dX2_stepFact_35 : decode cX2_stepFact 35 = .ok (.iload_n 1, 1) := by decide +kernel
theorem dX2_stepFact_36 : decode cX2_stepFact 36 = .ok (.iconst 5, 1) := by decide +kernel
theorem dX2_stepFact_37 : decode cX2_stepFact 37 = .ok (.imul, 1) := by decide +kernel
theorem dX2_stepFact_38 : decode cX2_stepFact 38 = .ok (.iload_n 2, 1) := by decide +kernel
theorem dX2_stepFact_39 : decode cX2_stepFact 39 = .ok (.iadd, 1) := by decide +kernel
theorem dX2_stepFact_40 : decode cX2_stepFact 40 = .ok (.iaload, 1) := by decide +kernel
theorem dX2_stepFact_41 : decode cX2_stepFact 41 = .ok (.goto 4, 3) := by decide +kernel
theorem dX2_stepFact_44 : decode cX2_stepFact 44 = .ok (.iconst 0, 1) := by decide +kernel
theorem dX2_stepFact_45 : decode cX2_stepFact 45 = .ok (.ireturn, 1) := by decide +kernel
set_option maxRecDepth 20000 in
theorem ggX2_goByHalves_X2_begin : GoodIn wsX2_goByHalves wsX2_begin := goodIn_r _ [6, 7, 8, 9, 10, 11, 12, 13, 14, 15, 16, 17, 18, 19, 20, 21, 22, 23, 24, 25, 26, 27, 28, 29, 30, 31, 32, 33, 34, 35, 36, 37, 38, 39, 40, 41, 42, 43, 44, 45, 46, 47, 92, 93, 94, 95, 96, 97, 98, 99, 100, 101, 102, 103, 104, 105, 106, 107] (by decide +kernel) (by decide +kernel)
set_option maxRecDepth 20000 in
theorem gX2_goByHalves_X2_begin : GoodIn wsX2_goByHalves (wsV RX2 34 RX2 yX2_begin wsX2_begin) := goodIn_app (goodIn_of _ (by decide +kernel)) ggX2_goByHalves_X2_begin
set_option maxRecDepth 20000 in
theorem ggX2_goByHalves_X2_makeStep : GoodIn wsX2_goByHalves wsX2_makeStep := goodIn_r _ [51, 7, 8, 52, 53, 54, 55, 56, 57, 58, 59, 60, 61, 62, 63, 64, 65, 66, 67, 68, 5, 69, 70, 71, 72, 73, 74, 75, 76, 77, 78, 17, 18, 19, 13, 20, 16, 21, 22, 23, 24, 25, 26, 15, 27, 28, 29, 30, 31, 32, 33, 34, 35, 36, 37, 38, 39, 40, 41, 42, 43, 44, 45, 46, 47, 79, 80, 81, 82, 9, 83, 84, 85, 86, 87, 92, 93, 94, 95, 96, 97, 98, 99, 100, 101, 102, 103, 104, 105, 106, 107] (by decide +kernel) (by decide +kernel)
set_option maxRecDepth 20000 in
theorem gX2_goByHalves_X2_makeStep : GoodIn wsX2_goByHalves (wsV RX2 38 RX2 yX2_makeStep wsX2_makeStep) := goodIn_app (goodIn_of _ (by decide +kernel)) ggX2_goByHalves_X2_makeStep
set_option maxRecDepth 20000 in
theorem ggX2_goByHalves_X3_tastings : GoodIn wsX2_goByHalves wsX3_tastings := goodIn_r _ [91, 16, 98, 99, 100, 101, 102] (by decide +kernel) (by decide +kernel)
set_option maxRecDepth 20000 in
theorem gX2_goByHalves_X3_tastings : GoodIn wsX2_goByHalves (wsV RX2 42 RX3 yX3_tastings wsX3_tastings) := goodIn_app (goodIn_of _ (by decide +kernel)) ggX2_goByHalves_X3_tastings
theorem dX2_goByHalves_0 : decode cX2_goByHalves 0 = .ok (.aload_n 0, 1) := by decide +kernel
theorem dX2_goByHalves_1 : decode cX2_goByHalves 1 = .ok (.aload_n 1, 1) := by decide +kernel
theorem dX2_goByHalves_2 : decode cX2_goByHalves 2 = .ok (.iload_n 2, 1) := by decide +kernel
theorem dX2_goByHalves_3 : decode cX2_goByHalves 3 = .ok (.invokevirtual 34, 3) := by decide +kernel
theorem dX2_goByHalves_6 : decode cX2_goByHalves 6 = .ok (.istore_n 3, 1) := by decide +kernel
theorem dX2_goByHalves_7 : decode cX2_goByHalves 7 = .ok (.iconst 0, 1) := by decide +kernel
theorem dX2_goByHalves_8 : decode cX2_goByHalves 8 = .ok (.istore 4, 2) := by decide +kernel
theorem dX2_goByHalves_10 : decode cX2_goByHalves 10 = .ok (.iload_n 3, 1) := by decide +kernel
theorem dX2_goByHalves_11 : decode cX2_goByHalves 11 = .ok (.ifCond .eq 23, 3) := by decide +kernel
theorem dX2_goByHalves_14 : decode cX2_goByHalves 14 = .ok (.iload 4, 2) := by decide +kernel
theorem dX2_goByHalves_16 : decode cX2_goByHalves 16 = .ok (.sipush 128, 3) := by decide +kernel
theorem dX2_goByHalves_19 : decode cX2_goByHalves 19 = .ok (.if_icmp .ge 15, 3) := by decide +kernel
theorem dX2_goByHalves_22 : decode cX2_goByHalves 22 = .ok (.aload_n 0, 1) := by decide +kernel
theorem dX2_goByHalves_23 : decode cX2_goByHalves 23 = .ok (.aload_n 1, 1) := by decide +kernel
theorem dX2_goByHalves_24 : decode cX2_goByHalves 24 = .ok (.invokevirtual 38, 3) := by decide +kernel
theorem dX2_goByHalves_27 : decode cX2_goByHalves 27 = .ok (.istore_n 3, 1) := by decide +kernel
theorem dX2_goByHalves_28 : decode cX2_goByHalves 28 = .ok (.iinc 4 1, 3) := by decide +kernel
theorem dX2_goByHalves_31 : decode cX2_goByHalves 31 = .ok (.goto (-21), 3) := by decide +kernel
theorem dX2_goByHalves_34 : decode cX2_goByHalves 34 = .ok (.aload_n 0, 1) := by decide +kernel
theorem dX2_goByHalves_35 : decode cX2_goByHalves 35 = .ok (.aload_n 1, 1) := by decide +kernel
theorem dX2_goByHalves_36 : decode cX2_goByHalves 36 = .ok (.invokevirtual 42, 3) := by decide +kernel
theorem dX2_goByHalves_39 : decode cX2_goByHalves 39 = .ok (.putfield 31, 3) := by decide +kernel
theorem dX2_goByHalves_42 : decode cX2_goByHalves 42 = .ok (.return_, 1) := by decide +kernel
set_option maxRecDepth 20000 in
theorem ggX2_goOneByOne_X2_begin : GoodIn wsX2_goOneByOne wsX2_begin := goodIn_r _ [7, 1, 8, 9, 10, 11, 12, 13, 14, 15, 16, 17, 18, 19, 20, 21, 22, 23, 24, 25, 26, 27, 28, 29, 30, 31, 32, 33, 34, 35, 36, 37, 38, 39, 40, 41, 42, 43, 44, 45, 46, 47, 52, 53, 54, 55, 56, 57, 58, 59, 60, 61, 62, 63, 64, 65, 66, 67] (by decide +kernel) (by decide +kernel)
set_option maxRecDepth 20000 in
theorem gX2_goOneByOne_X2_begin : GoodIn wsX2_goOneByOne (wsV RX2 34 RX2 yX2_begin wsX2_begin) := goodIn_app (goodIn_of _ (by decide +kernel)) ggX2_goOneByOne_X2_begin
set_option maxRecDepth 20000 in
theorem ggX2_goOneByOne_X3_looksSpoiled : GoodIn wsX2_goOneByOne wsX3_looksSpoiled := goodIn_r _ [20, 16, 21, 22, 23, 24, 25, 13, 26, 15, 27, 28, 29, 30, 31, 32, 33, 34, 35, 36, 37, 38, 39, 40, 41, 42, 43, 44, 45, 46, 47, 58, 59, 60, 61, 62, 63, 64, 65, 66, 67] (by decide +kernel) (by decide +kernel)
set_option maxRecDepth 20000 in
theorem gX2_goOneByOne_X3_looksSpoiled : GoodIn wsX2_goOneByOne (wsV RX2 47 RX3 yX3_looksSpoiled wsX3_looksSpoiled) := goodIn_app (goodIn_of _ (by decide +kernel)) ggX2_goOneByOne_X3_looksSpoiled
set_option maxRecDepth 20000 in
theorem ggX2_goOneByOne_X3_tastings : GoodIn wsX2_goOneByOne wsX3_tastings := goodIn_r _ [51, 16, 58, 59, 60, 61, 62] (by decide +kernel) (by decide +kernel)
set_option maxRecDepth 20000 in
theorem gX2_goOneByOne_X3_tastings : GoodIn wsX2_goOneByOne (wsV RX2 42 RX3 yX3_tastings wsX3_tastings) := goodIn_app (goodIn_of _ (by decide +kernel)) ggX2_goOneByOne_X3_tastings
theorem dX2_goOneByOne_0 : decode cX2_goOneByOne 0 = .ok (.aload_n 0, 1) := by decide +kernel
theorem dX2_goOneByOne_1 : decode cX2_goOneByOne 1 = .ok (.aload_n 1, 1) := by decide +kernel
theorem dX2_goOneByOne_2 : decode cX2_goOneByOne 2 = .ok (.iload_n 2, 1) := by decide +kernel
theorem dX2_goOneByOne_3 : decode cX2_goOneByOne 3 = .ok (.invokevirtual 34, 3) := by decide +kernel
theorem dX2_goOneByOne_6 : decode cX2_goOneByOne 6 = .ok (.istore_n 3, 1) := by decide +kernel
theorem dX2_goOneByOne_7 : decode cX2_goOneByOne 7 = .ok (.bipush 23, 2) := by decide +kernel
theorem dX2_goOneByOne_9 : decode cX2_goOneByOne 9 = .ok (.istore 4, 2) := by decide +kernel
theorem dX2_goOneByOne_11 : decode cX2_goOneByOne 11 = .ok (.iload_n 3, 1) := by decide +kernel
theorem dX2_goOneByOne_12 : decode cX2_goOneByOne 12 = .ok (.ifCond .eq 56, 3) := by decide +kernel
theorem dX2_goOneByOne_15 : decode cX2_goOneByOne 15 = .ok (.iload 4, 2) := by decide +kernel
theorem dX2_goOneByOne_17 : decode cX2_goOneByOne 17 = .ok (.ifCond .lt 51, 3) := by decide +kernel
theorem dX2_goOneByOne_20 : decode cX2_goOneByOne 20 = .ok (.aload_n 0, 1) := by decide +kernel
theorem dX2_goOneByOne_21 : decode cX2_goOneByOne 21 = .ok (.getfield 18, 3) := by decide +kernel
theorem dX2_goOneByOne_24 : decode cX2_goOneByOne 24 = .ok (.iconst 1, 1) := by decide +kernel
theorem dX2_goOneByOne_25 : decode cX2_goOneByOne 25 = .ok (.iload 4, 2) := by decide +kernel
theorem dX2_goOneByOne_27 : decode cX2_goOneByOne 27 = .ok (.ishl, 1) := by decide +kernel
theorem dX2_goOneByOne_28 : decode cX2_goOneByOne 28 = .ok (.iconst (-1), 1) := by decide +kernel
theorem dX2_goOneByOne_29 : decode cX2_goOneByOne 29 = .ok (.ixor, 1) := by decide +kernel
theorem dX2_goOneByOne_30 : decode cX2_goOneByOne 30 = .ok (.iand, 1) := by decide +kernel
theorem dX2_goOneByOne_31 : decode cX2_goOneByOne 31 = .ok (.istore 5, 2) := by decide +kernel
theorem dX2_goOneByOne_33 : decode cX2_goOneByOne 33 = .ok (.iload 5, 2) := by decide +kernel
theorem dX2_goOneByOne_35 : decode cX2_goOneByOne 35 = .ok (.aload_n 0, 1) := by decide +kernel
theorem dX2_goOneByOne_36 : decode cX2_goOneByOne 36 = .ok (.getfield 18, 3) := by decide +kernel
theorem dX2_goOneByOne_39 : decode cX2_goOneByOne 39 = .ok (.if_icmp .eq 23, 3) := by decide +kernel
theorem dX2_goOneByOne_42 : decode cX2_goOneByOne 42 = .ok (.iload 5, 2) := by decide +kernel
theorem dX2_goOneByOne_44 : decode cX2_goOneByOne 44 = .ok (.ifCond .eq 18, 3) := by decide +kernel
theorem dX2_goOneByOne_47 : decode cX2_goOneByOne 47 = .ok (.aload_n 1, 1) := by decide +kernel
theorem dX2_goOneByOne_48 : decode cX2_goOneByOne 48 = .ok (.iload 5, 2) := by decide +kernel
theorem dX2_goOneByOne_50 : decode cX2_goOneByOne 50 = .ok (.invokevirtual 47, 3) := by decide +kernel
theorem dX2_goOneByOne_53 : decode cX2_goOneByOne 53 = .ok (.ifCond .eq 9, 3) := by decide +kernel
theorem dX2_goOneByOne_56 : decode cX2_goOneByOne 56 = .ok (.aload_n 0, 1) := by decide +kernel
theorem dX2_goOneByOne_57 : decode cX2_goOneByOne 57 = .ok (.iload 5, 2) := by decide +kernel
theorem dX2_goOneByOne_59 : decode cX2_goOneByOne 59 = .ok (.putfield 18, 3) := by decide +kernel
theorem dX2_goOneByOne_62 : decode cX2_goOneByOne 62 = .ok (.iinc 4 (-1), 3) := by decide +kernel
theorem dX2_goOneByOne_65 : decode cX2_goOneByOne 65 = .ok (.goto (-54), 3) := by decide +kernel
theorem dX2_goOneByOne_68 : decode cX2_goOneByOne 68 = .ok (.aload_n 0, 1) := by decide +kernel
theorem dX2_goOneByOne_69 : decode cX2_goOneByOne 69 = .ok (.aload_n 1, 1) := by decide +kernel
theorem dX2_goOneByOne_70 : decode cX2_goOneByOne 70 = .ok (.invokevirtual 42, 3) := by decide +kernel
theorem dX2_goOneByOne_73 : decode cX2_goOneByOne 73 = .ok (.putfield 31, 3) := by decide +kernel
theorem dX2_goOneByOne_76 : decode cX2_goOneByOne 76 = .ok (.return_, 1) := by decide +kernel
set_option maxRecDepth 20000 in
theorem ggX2_begin_X3_begin : GoodIn wsX2_begin wsX3_begin := goodIn_r _ [8, 9, 10, 48, 49, 50, 51, 52] (by decide +kernel) (by decide +kernel)
set_option maxRecDepth 20000 in
theorem gX2_begin_X3_begin : GoodIn wsX2_begin (wsV RX2 51 RX3 yX3_begin wsX3_begin) := goodIn_app (goodIn_of _ (by decide +kernel)) ggX2_begin_X3_begin
set_option maxRecDepth 20000 in
theorem ggX2_begin_X3_looksSpoiled : GoodIn wsX2_begin wsX3_looksSpoiled := goodIn_r _ [14, 10, 15, 16, 17, 18, 19, 7, 20, 9, 21, 22, 23, 24, 25, 26, 27, 28, 29, 30, 31, 32, 33, 34, 35, 36, 37, 38, 39, 40, 41, 48, 49, 50, 51, 52, 53, 54, 55, 56, 57] (by decide +kernel) (by decide +kernel)
set_option maxRecDepth 20000 in
theorem gX2_begin_X3_looksSpoiled : GoodIn wsX2_begin (wsV RX2 47 RX3 yX3_looksSpoiled wsX3_looksSpoiled) := goodIn_app (goodIn_of _ (by decide +kernel)) ggX2_begin_X3_looksSpoiled
theorem dX2_begin_0 : decode cX2_begin 0 = .ok (.aload_n 1, 1) := by decide +kernel
theorem dX2_begin_1 : decode cX2_begin 1 = .ok (.invokevirtual 51, 3) := by decide +kernel
theorem dX2_begin_4 : decode cX2_begin 4 = .ok (.aload_n 1, 1) := by decide +kernel
theorem dX2_begin_5 : decode cX2_begin 5 = .ok (.iload_n 2, 1) := by decide +kernel
theorem dX2_begin_6 : decode cX2_begin 6 = .ok (.invokevirtual 47, 3) := by decide +kernel
theorem dX2_begin_9 : decode cX2_begin 9 = .ok (.istore_n 3, 1) := by decide +kernel
theorem dX2_begin_10 : decode cX2_begin 10 = .ok (.aload_n 0, 1) := by decide +kernel
theorem dX2_begin_11 : decode cX2_begin 11 = .ok (.iload_n 3, 1) := by decide +kernel
theorem dX2_begin_12 : decode cX2_begin 12 = .ok (.ifCond .eq 7, 3) := by decide +kernel
theorem dX2_begin_15 : decode cX2_begin 15 = .ok (.iload_n 2, 1) := by decide +kernel
theorem dX2_begin_16 : decode cX2_begin 16 = .ok (.goto 4, 3) := by decide +kernel
theorem dX2_begin_19 : decode cX2_begin 19 = .ok (.iconst 0, 1) := by decide +kernel
theorem dX2_begin_20 : decode cX2_begin 20 = .ok (.putfield 18, 3) := by decide +kernel
theorem dX2_begin_23 : decode cX2_begin 23 = .ok (.aload_n 0, 1) := by decide +kernel
theorem dX2_begin_24 : decode cX2_begin 24 = .ok (.iconst 2, 1) := by decide +kernel
theorem dX2_begin_25 : decode cX2_begin 25 = .ok (.putfield 53, 3) := by decide +kernel
theorem dX2_begin_28 : decode cX2_begin 28 = .ok (.aload_n 0, 1) := by decide +kernel
theorem dX2_begin_29 : decode cX2_begin 29 = .ok (.iconst 0, 1) := by decide +kernel
theorem dX2_begin_30 : decode cX2_begin 30 = .ok (.putfield 28, 3) := by decide +kernel
theorem dX2_begin_33 : decode cX2_begin 33 = .ok (.iload_n 3, 1) := by decide +kernel
theorem dX2_begin_34 : decode cX2_begin 34 = .ok (.ireturn, 1) := by decide +kernel
set_option maxRecDepth 20000 in
theorem ggX2_makeStep_J6_bitCount_0f7a4 : GoodIn wsX2_makeStep wsJ6_bitCount_0f7a4 := goodIn_r _ [13, 14, 15, 16] (by decide +kernel) (by decide +kernel)
set_option maxRecDepth 20000 in
theorem gX2_makeStep_J6_bitCount_0f7a4 : GoodIn wsX2_makeStep (va_wsS RX2 22 yJ6_bitCount_0f7a4 wsJ6_bitCount_0f7a4) := goodIn_app (goodIn_of _ (by decide +kernel)) ggX2_makeStep_J6_bitCount_0f7a4
set_option maxRecDepth 20000 in
theorem ggX2_makeStep_X2_countPlaces : GoodIn wsX2_makeStep wsX2_countPlaces := goodIn_r _ [21, 1, 22, 75, 76, 77, 78, 79, 80] (by decide +kernel) (by decide +kernel)
set_option maxRecDepth 20000 in
theorem gX2_makeStep_X2_countPlaces : GoodIn wsX2_makeStep (wsV RX2 56 RX2 yX2_countPlaces wsX2_countPlaces) := goodIn_app (goodIn_of _ (by decide +kernel)) ggX2_makeStep_X2_countPlaces
set_option maxRecDepth 20000 in
theorem ggX2_makeStep_X2_firstSpoiledPart : GoodIn wsX2_makeStep wsX2_firstSpoiledPart := goodIn_r _ [26, 2, 27, 28, 29, 20, 30, 22, 31, 32, 33, 34, 35, 36, 37, 38, 39, 40, 41, 42, 43, 44, 45, 46, 47, 48, 49, 50, 51, 52, 53, 54, 55, 56, 57, 58, 59, 60, 61, 62, 63, 64, 75, 76, 77, 78, 79, 80, 81, 82, 83, 84, 85, 86, 87, 88, 89, 90] (by decide +kernel) (by decide +kernel)
set_option maxRecDepth 20000 in
theorem gX2_makeStep_X2_firstSpoiledPart : GoodIn wsX2_makeStep (wsV RX2 59 RX2 yX2_firstSpoiledPart wsX2_firstSpoiledPart) := goodIn_app (goodIn_of _ (by decide +kernel)) ggX2_makeStep_X2_firstSpoiledPart
set_option maxRecDepth 20000 in
theorem ggX2_makeStep_X2_partAt : GoodIn wsX2_makeStep wsX2_partAt := goodIn_r _ [30, 2, 22, 75, 76, 77, 78, 79, 80] (by decide +kernel) (by decide +kernel)
set_option maxRecDepth 20000 in
theorem gX2_makeStep_X2_partAt : GoodIn wsX2_makeStep (wsV RX2 63 RX2 yX2_partAt wsX2_partAt) := goodIn_app (goodIn_of _ (by decide +kernel)) ggX2_makeStep_X2_partAt
set_option maxRecDepth 20000 in
theorem ggX2_makeStep_X2_note : GoodIn wsX2_makeStep wsX2_note := goodIn_r _ [68, 69, 70, 2, 1, 75, 76, 77, 78, 79, 80] (by decide +kernel) (by decide +kernel)
set_option maxRecDepth 20000 in
theorem gX2_makeStep_X2_note : GoodIn wsX2_makeStep (wsV RX2 67 RX2 yX2_note wsX2_note) := goodIn_app (goodIn_of _ (by decide +kernel)) ggX2_makeStep_X2_note
set_option maxRecDepth 20000 in
theorem ggX2_makeStep_X2_firstSparedPart : GoodIn wsX2_makeStep wsX2_firstSparedPart := goodIn_r _ [74, 2, 1, 27, 28, 29, 20, 30, 22, 31, 32, 33, 34, 35, 36, 37, 38, 39, 40, 41, 42, 43, 44, 45, 46, 47, 48, 49, 50, 51, 52, 53, 54, 55, 56, 57, 58, 59, 60, 61, 62, 63, 64, 75, 76, 77, 78, 79, 80, 81, 82, 83, 84, 85, 86, 87, 88, 89, 90] (by decide +kernel) (by decide +kernel)
set_option maxRecDepth 20000 in
theorem gX2_makeStep_X2_firstSparedPart : GoodIn wsX2_makeStep (wsV RX2 71 RX2 yX2_firstSparedPart wsX2_firstSparedPart) := goodIn_app (goodIn_of _ (by decide +kernel)) ggX2_makeStep_X2_firstSparedPart
theorem dX2_makeStep_0 : decode cX2_makeStep 0 = .ok (.aload_n 0, 1) := by decide +kernel
theorem dX2_makeStep_1 : decode cX2_makeStep 1 = .ok (.getfield 18, 3) := by decide +kernel
theorem dX2_makeStep_4 : decode cX2_makeStep 4 = .ok (.invokestatic 22, 3) := by decide +kernel
theorem dX2_makeStep_7 : decode cX2_makeStep 7 = .ok (.istore_n 2, 1) := by decide +kernel
theorem dX2_makeStep_8 : decode cX2_makeStep 8 = .ok (.iload_n 2, 1) := by decide +kernel
theorem dX2_makeStep_9 : decode cX2_makeStep 9 = .ok (.iconst 1, 1) := by decide +kernel
theorem dX2_makeStep_10 : decode cX2_makeStep 10 = .ok (.if_icmp .gt 5, 3) := by decide +kernel
theorem dX2_makeStep_13 : decode cX2_makeStep 13 = .ok (.iconst 0, 1) := by decide +kernel
theorem dX2_makeStep_14 : decode cX2_makeStep 14 = .ok (.ireturn, 1) := by decide +kernel
theorem dX2_makeStep_15 : decode cX2_makeStep 15 = .ok (.aload_n 0, 1) := by decide +kernel
theorem dX2_makeStep_16 : decode cX2_makeStep 16 = .ok (.invokevirtual 56, 3) := by decide +kernel
theorem dX2_makeStep_19 : decode cX2_makeStep 19 = .ok (.aload_n 0, 1) := by decide +kernel
theorem dX2_makeStep_20 : decode cX2_makeStep 20 = .ok (.aload_n 1, 1) := by decide +kernel
theorem dX2_makeStep_21 : decode cX2_makeStep 21 = .ok (.iload_n 2, 1) := by decide +kernel
theorem dX2_makeStep_22 : decode cX2_makeStep 22 = .ok (.invokevirtual 59, 3) := by decide +kernel
theorem dX2_makeStep_25 : decode cX2_makeStep 25 = .ok (.istore_n 3, 1) := by decide +kernel
theorem dX2_makeStep_26 : decode cX2_makeStep 26 = .ok (.iload_n 3, 1) := by decide +kernel
theorem dX2_makeStep_27 : decode cX2_makeStep 27 = .ok (.ifCond .lt 23, 3) := by decide +kernel
theorem dX2_makeStep_30 : decode cX2_makeStep 30 = .ok (.aload_n 0, 1) := by decide +kernel
theorem dX2_makeStep_31 : decode cX2_makeStep 31 = .ok (.iload_n 2, 1) := by decide +kernel
theorem dX2_makeStep_32 : decode cX2_makeStep 32 = .ok (.iconst 1, 1) := by decide +kernel
theorem dX2_makeStep_33 : decode cX2_makeStep 33 = .ok (.iload_n 3, 1) := by decide +kernel
theorem dX2_makeStep_34 : decode cX2_makeStep 34 = .ok (.aload_n 0, 1) := by decide +kernel
theorem dX2_makeStep_35 : decode cX2_makeStep 35 = .ok (.iload_n 3, 1) := by decide +kernel
theorem dX2_makeStep_36 : decode cX2_makeStep 36 = .ok (.iload_n 2, 1) := by decide +kernel
theorem dX2_makeStep_37 : decode cX2_makeStep 37 = .ok (.invokevirtual 63, 3) := by decide +kernel
theorem dX2_makeStep_40 : decode cX2_makeStep 40 = .ok (.invokevirtual 67, 3) := by decide +kernel
theorem dX2_makeStep_43 : decode cX2_makeStep 43 = .ok (.aload_n 0, 1) := by decide +kernel
theorem dX2_makeStep_44 : decode cX2_makeStep 44 = .ok (.iconst 2, 1) := by decide +kernel
theorem dX2_makeStep_45 : decode cX2_makeStep 45 = .ok (.putfield 53, 3) := by decide +kernel
theorem dX2_makeStep_48 : decode cX2_makeStep 48 = .ok (.iconst 1, 1) := by decide +kernel
theorem dX2_makeStep_49 : decode cX2_makeStep 49 = .ok (.ireturn, 1) := by decide +kernel
theorem dX2_makeStep_50 : decode cX2_makeStep 50 = .ok (.aload_n 0, 1) := by decide +kernel
theorem dX2_makeStep_51 : decode cX2_makeStep 51 = .ok (.getfield 53, 3) := by decide +kernel
theorem dX2_makeStep_54 : decode cX2_makeStep 54 = .ok (.iconst 2, 1) := by decide +kernel
theorem dX2_makeStep_55 : decode cX2_makeStep 55 = .ok (.if_icmp .le 12, 3) := by decide +kernel
theorem dX2_makeStep_58 : decode cX2_makeStep 58 = .ok (.aload_n 0, 1) := by decide +kernel
theorem dX2_makeStep_59 : decode cX2_makeStep 59 = .ok (.aload_n 1, 1) := by decide +kernel
theorem dX2_makeStep_60 : decode cX2_makeStep 60 = .ok (.iload_n 2, 1) := by decide +kernel
theorem dX2_makeStep_61 : decode cX2_makeStep 61 = .ok (.invokevirtual 71, 3) := by decide +kernel
theorem dX2_makeStep_64 : decode cX2_makeStep 64 = .ok (.goto 4, 3) := by decide +kernel
theorem dX2_makeStep_67 : decode cX2_makeStep 67 = .ok (.iconst (-1), 1) := by decide +kernel
theorem dX2_makeStep_68 : decode cX2_makeStep 68 = .ok (.istore 4, 2) := by decide +kernel
theorem dX2_makeStep_70 : decode cX2_makeStep 70 = .ok (.iload 4, 2) := by decide +kernel
theorem dX2_makeStep_72 : decode cX2_makeStep 72 = .ok (.ifCond .lt 41, 3) := by decide +kernel
theorem dX2_makeStep_75 : decode cX2_makeStep 75 = .ok (.aload_n 0, 1) := by decide +kernel
theorem dX2_makeStep_76 : decode cX2_makeStep 76 = .ok (.iload_n 2, 1) := by decide +kernel
theorem dX2_makeStep_77 : decode cX2_makeStep 77 = .ok (.iconst 2, 1) := by decide +kernel
theorem dX2_makeStep_78 : decode cX2_makeStep 78 = .ok (.iload 4, 2) := by decide +kernel
theorem dX2_makeStep_80 : decode cX2_makeStep 80 = .ok (.aload_n 0, 1) := by decide +kernel
theorem dX2_makeStep_81 : decode cX2_makeStep 81 = .ok (.getfield 18, 3) := by decide +kernel
theorem dX2_makeStep_84 : decode cX2_makeStep 84 = .ok (.aload_n 0, 1) := by decide +kernel
theorem dX2_makeStep_85 : decode cX2_makeStep 85 = .ok (.iload 4, 2) := by decide +kernel
theorem dX2_makeStep_87 : decode cX2_makeStep 87 = .ok (.iload_n 2, 1) := by decide +kernel
theorem dX2_makeStep_88 : decode cX2_makeStep 88 = .ok (.invokevirtual 63, 3) := by decide +kernel
theorem dX2_makeStep_91 : decode cX2_makeStep 91 = .ok (.iconst (-1), 1) := by decide +kernel
theorem dX2_makeStep_92 : decode cX2_makeStep 92 = .ok (.ixor, 1) := by decide +kernel
theorem dX2_makeStep_93 : decode cX2_makeStep 93 = .ok (.iand, 1) := by decide +kernel
theorem dX2_makeStep_94 : decode cX2_makeStep 94 = .ok (.invokevirtual 67, 3) := by decide +kernel
theorem dX2_makeStep_97 : decode cX2_makeStep 97 = .ok (.aload_n 0, 1) := by decide +kernel
theorem dX2_makeStep_98 : decode cX2_makeStep 98 = .ok (.aload_n 0, 1) := by decide +kernel
theorem dX2_makeStep_99 : decode cX2_makeStep 99 = .ok (.getfield 53, 3) := by decide +kernel
theorem dX2_makeStep_102 : decode cX2_makeStep 102 = .ok (.iconst 1, 1) := by decide +kernel
theorem dX2_makeStep_103 : decode cX2_makeStep 103 = .ok (.isub, 1) := by decide +kernel
theorem dX2_makeStep_104 : decode cX2_makeStep 104 = .ok (.iconst 2, 1) := by decide +kernel
theorem dX2_makeStep_105 : decode cX2_makeStep 105 = .ok (.invokestatic 74, 3) := by decide +kernel
theorem dX2_makeStep_108 : decode cX2_makeStep 108 = .ok (.putfield 53, 3) := by decide +kernel
theorem dX2_makeStep_111 : decode cX2_makeStep 111 = .ok (.iconst 1, 1) := by decide +kernel
theorem dX2_makeStep_112 : decode cX2_makeStep 112 = .ok (.ireturn, 1) := by decide +kernel
theorem dX2_makeStep_113 : decode cX2_makeStep 113 = .ok (.aload_n 0, 1) := by decide +kernel
theorem dX2_makeStep_114 : decode cX2_makeStep 114 = .ok (.getfield 53, 3) := by decide +kernel
theorem dX2_makeStep_117 : decode cX2_makeStep 117 = .ok (.iload_n 2, 1) := by decide +kernel
theorem dX2_makeStep_118 : decode cX2_makeStep 118 = .ok (.if_icmp .ge 30, 3) := by decide +kernel
theorem dX2_makeStep_121 : decode cX2_makeStep 121 = .ok (.aload_n 0, 1) := by decide +kernel
theorem dX2_makeStep_122 : decode cX2_makeStep 122 = .ok (.iload_n 2, 1) := by decide +kernel
theorem dX2_makeStep_123 : decode cX2_makeStep 123 = .ok (.iconst 3, 1) := by decide +kernel
theorem dX2_makeStep_124 : decode cX2_makeStep 124 = .ok (.iconst (-1), 1) := by decide +kernel
theorem dX2_makeStep_125 : decode cX2_makeStep 125 = .ok (.aload_n 0, 1) := by decide +kernel
theorem dX2_makeStep_126 : decode cX2_makeStep 126 = .ok (.getfield 18, 3) := by decide +kernel
theorem dX2_makeStep_129 : decode cX2_makeStep 129 = .ok (.invokevirtual 67, 3) := by decide +kernel
theorem dX2_makeStep_132 : decode cX2_makeStep 132 = .ok (.aload_n 0, 1) := by decide +kernel
theorem dX2_makeStep_133 : decode cX2_makeStep 133 = .ok (.aload_n 0, 1) := by decide +kernel
theorem dX2_makeStep_134 : decode cX2_makeStep 134 = .ok (.getfield 53, 3) := by decide +kernel
theorem dX2_makeStep_137 : decode cX2_makeStep 137 = .ok (.iconst 2, 1) := by decide +kernel
theorem dX2_makeStep_138 : decode cX2_makeStep 138 = .ok (.imul, 1) := by decide +kernel
theorem dX2_makeStep_139 : decode cX2_makeStep 139 = .ok (.iload_n 2, 1) := by decide +kernel
theorem dX2_makeStep_140 : decode cX2_makeStep 140 = .ok (.invokestatic 79, 3) := by decide +kernel
theorem dX2_makeStep_143 : decode cX2_makeStep 143 = .ok (.putfield 53, 3) := by decide +kernel
theorem dX2_makeStep_146 : decode cX2_makeStep 146 = .ok (.iconst 1, 1) := by decide +kernel
theorem dX2_makeStep_147 : decode cX2_makeStep 147 = .ok (.ireturn, 1) := by decide +kernel
theorem dX2_makeStep_148 : decode cX2_makeStep 148 = .ok (.iconst 0, 1) := by decide +kernel
theorem dX2_makeStep_149 : decode cX2_makeStep 149 = .ok (.ireturn, 1) := by decide +kernel
theorem dX2_countPlaces_0 : decode cX2_countPlaces 0 = .ok (.iconst 0, 1) := by decide +kernel
theorem dX2_countPlaces_1 : decode cX2_countPlaces 1 = .ok (.istore_n 1, 1) := by decide +kernel
theorem dX2_countPlaces_2 : decode cX2_countPlaces 2 = .ok (.iconst 0, 1) := by decide +kernel
theorem dX2_countPlaces_3 : decode cX2_countPlaces 3 = .ok (.istore_n 2, 1) := by decide +kernel
theorem dX2_countPlaces_4 : decode cX2_countPlaces 4 = .ok (.iconst 0, 1) := by decide +kernel
theorem dX2_countPlaces_5 : decode cX2_countPlaces 5 = .ok (.istore_n 3, 1) := by decide +kernel
theorem dX2_countPlaces_6 : decode cX2_countPlaces 6 = .ok (.iload_n 3, 1) := by decide +kernel
theorem dX2_countPlaces_7 : decode cX2_countPlaces 7 = .ok (.bipush 24, 2) := by decide +kernel
theorem dX2_countPlaces_9 : decode cX2_countPlaces 9 = .ok (.if_icmp .ge 36, 3) := by decide +kernel
theorem dX2_countPlaces_12 : decode cX2_countPlaces 12 = .ok (.aload_n 0, 1) := by decide +kernel
theorem dX2_countPlaces_13 : decode cX2_countPlaces 13 = .ok (.getfield 18, 3) := by decide +kernel
theorem dX2_countPlaces_16 : decode cX2_countPlaces 16 = .ok (.iload_n 3, 1) := by decide +kernel
theorem dX2_countPlaces_17 : decode cX2_countPlaces 17 = .ok (.ishr, 1) := by decide +kernel
theorem dX2_countPlaces_18 : decode cX2_countPlaces 18 = .ok (.iconst 1, 1) := by decide +kernel
theorem dX2_countPlaces_19 : decode cX2_countPlaces 19 = .ok (.iand, 1) := by decide +kernel
theorem dX2_countPlaces_20 : decode cX2_countPlaces 20 = .ok (.ifCond .eq 19, 3) := by decide +kernel
theorem dX2_countPlaces_23 : decode cX2_countPlaces 23 = .ok (.iload_n 2, 1) := by decide +kernel
theorem dX2_countPlaces_24 : decode cX2_countPlaces 24 = .ok (.iconst 1, 1) := by decide +kernel
theorem dX2_countPlaces_25 : decode cX2_countPlaces 25 = .ok (.iload_n 3, 1) := by decide +kernel
theorem dX2_countPlaces_26 : decode cX2_countPlaces 26 = .ok (.ishl, 1) := by decide +kernel
theorem dX2_countPlaces_27 : decode cX2_countPlaces 27 = .ok (.ior, 1) := by decide +kernel
theorem dX2_countPlaces_28 : decode cX2_countPlaces 28 = .ok (.istore_n 2, 1) := by decide +kernel
theorem dX2_countPlaces_29 : decode cX2_countPlaces 29 = .ok (.iinc 1 1, 3) := by decide +kernel
theorem dX2_countPlaces_32 : decode cX2_countPlaces 32 = .ok (.aload_n 0, 1) := by decide +kernel
theorem dX2_countPlaces_33 : decode cX2_countPlaces 33 = .ok (.getfield 15, 3) := by decide +kernel
theorem dX2_countPlaces_36 : decode cX2_countPlaces 36 = .ok (.iload_n 1, 1) := by decide +kernel
theorem dX2_countPlaces_37 : decode cX2_countPlaces 37 = .ok (.iload_n 2, 1) := by decide +kernel
theorem dX2_countPlaces_38 : decode cX2_countPlaces 38 = .ok (.iastore, 1) := by decide +kernel
theorem dX2_countPlaces_39 : decode cX2_countPlaces 39 = .ok (.iinc 3 1, 3) := by decide +kernel
theorem dX2_countPlaces_42 : decode cX2_countPlaces 42 = .ok (.goto (-36), 3) := by decide +kernel
theorem dX2_countPlaces_45 : decode cX2_countPlaces 45 = .ok (.return_, 1) := by decide +kernel
set_option maxRecDepth 20000 in
theorem ggX2_firstSpoiledPart_X2_partAt : GoodIn wsX2_firstSpoiledPart wsX2_partAt := goodIn_r _ [6, 1, 7, 42, 43, 44, 45, 46, 47] (by decide +kernel) (by decide +kernel)
set_option maxRecDepth 20000 in
theorem gX2_firstSpoiledPart_X2_partAt : GoodIn wsX2_firstSpoiledPart (wsV RX2 63 RX2 yX2_partAt wsX2_partAt) := goodIn_app (goodIn_of _ (by decide +kernel)) ggX2_firstSpoiledPart_X2_partAt
set_option maxRecDepth 20000 in
theorem ggX2_firstSpoiledPart_X3_looksSpoiled : GoodIn wsX2_firstSpoiledPart wsX3_looksSpoiled := goodIn_r _ [12, 13, 14, 15, 16, 17, 18, 11, 19, 20, 21, 22, 23, 24, 25, 26, 27, 28, 29, 30, 31, 32, 33, 34, 35, 36, 37, 38, 39, 40, 41, 48, 49, 50, 51, 52, 53, 54, 55, 56, 57] (by decide +kernel) (by decide +kernel)
set_option maxRecDepth 20000 in
theorem gX2_firstSpoiledPart_X3_looksSpoiled : GoodIn wsX2_firstSpoiledPart (wsV RX2 47 RX3 yX3_looksSpoiled wsX3_looksSpoiled) := goodIn_app (goodIn_of _ (by decide +kernel)) ggX2_firstSpoiledPart_X3_looksSpoiled
theorem dX2_firstSpoiledPart_0 : decode cX2_firstSpoiledPart 0 = .ok (.iconst 0, 1) := by decide +kernel
theorem dX2_firstSpoiledPart_1 : decode cX2_firstSpoiledPart 1 = .ok (.istore_n 3, 1) := by decide +kernel
theorem dX2_firstSpoiledPart_2 : decode cX2_firstSpoiledPart 2 = .ok (.iload_n 3, 1) := by decide +kernel
theorem dX2_firstSpoiledPart_3 : decode cX2_firstSpoiledPart 3 = .ok (.aload_n 0, 1) := by decide +kernel
theorem dX2_firstSpoiledPart_4 : decode cX2_firstSpoiledPart 4 = .ok (.getfield 53, 3) := by decide +kernel
theorem dX2_firstSpoiledPart_7 : decode cX2_firstSpoiledPart 7 = .ok (.if_icmp .ge 24, 3) := by decide +kernel
theorem dX2_firstSpoiledPart_10 : decode cX2_firstSpoiledPart 10 = .ok (.aload_n 1, 1) := by decide +kernel
theorem dX2_firstSpoiledPart_11 : decode cX2_firstSpoiledPart 11 = .ok (.aload_n 0, 1) := by decide +kernel
theorem dX2_firstSpoiledPart_12 : decode cX2_firstSpoiledPart 12 = .ok (.iload_n 3, 1) := by decide +kernel
theorem dX2_firstSpoiledPart_13 : decode cX2_firstSpoiledPart 13 = .ok (.iload_n 2, 1) := by decide +kernel
theorem dX2_firstSpoiledPart_14 : decode cX2_firstSpoiledPart 14 = .ok (.invokevirtual 63, 3) := by decide +kernel
theorem dX2_firstSpoiledPart_17 : decode cX2_firstSpoiledPart 17 = .ok (.invokevirtual 47, 3) := by decide +kernel
theorem dX2_firstSpoiledPart_20 : decode cX2_firstSpoiledPart 20 = .ok (.ifCond .eq 5, 3) := by decide +kernel
theorem dX2_firstSpoiledPart_23 : decode cX2_firstSpoiledPart 23 = .ok (.iload_n 3, 1) := by decide +kernel
theorem dX2_firstSpoiledPart_24 : decode cX2_firstSpoiledPart 24 = .ok (.ireturn, 1) := by decide +kernel
theorem dX2_firstSpoiledPart_25 : decode cX2_firstSpoiledPart 25 = .ok (.iinc 3 1, 3) := by decide +kernel
theorem dX2_firstSpoiledPart_28 : decode cX2_firstSpoiledPart 28 = .ok (.goto (-26), 3) := by decide +kernel
theorem dX2_firstSpoiledPart_31 : decode cX2_firstSpoiledPart 31 = .ok (.iconst (-1), 1) := by decide +kernel
theorem dX2_firstSpoiledPart_32 : decode cX2_firstSpoiledPart 32 = .ok (.ireturn, 1) := by decide +kernel
set_option maxRecDepth 20000 in
theorem ggX2_firstSparedPart_X2_partAt : GoodIn wsX2_firstSparedPart wsX2_partAt := goodIn_r _ [7, 1, 8, 43, 44, 45, 46, 47, 48] (by decide +kernel) (by decide +kernel)
set_option maxRecDepth 20000 in
theorem gX2_firstSparedPart_X2_partAt : GoodIn wsX2_firstSparedPart (wsV RX2 63 RX2 yX2_partAt wsX2_partAt) := goodIn_app (goodIn_of _ (by decide +kernel)) ggX2_firstSparedPart_X2_partAt
set_option maxRecDepth 20000 in
theorem ggX2_firstSparedPart_X3_looksSpoiled : GoodIn wsX2_firstSparedPart wsX3_looksSpoiled := goodIn_r _ [13, 14, 15, 16, 17, 18, 19, 12, 20, 21, 22, 23, 24, 25, 26, 27, 28, 29, 30, 31, 32, 33, 34, 35, 36, 37, 38, 39, 40, 41, 42, 49, 50, 51, 52, 53, 54, 55, 56, 57, 58] (by decide +kernel) (by decide +kernel)
set_option maxRecDepth 20000 in
theorem gX2_firstSparedPart_X3_looksSpoiled : GoodIn wsX2_firstSparedPart (wsV RX2 47 RX3 yX3_looksSpoiled wsX3_looksSpoiled) := goodIn_app (goodIn_of _ (by decide +kernel)) ggX2_firstSparedPart_X3_looksSpoiled
theorem dX2_firstSparedPart_0 : decode cX2_firstSparedPart 0 = .ok (.iconst 0, 1) := by decide +kernel
theorem dX2_firstSparedPart_1 : decode cX2_firstSparedPart 1 = .ok (.istore_n 3, 1) := by decide +kernel
theorem dX2_firstSparedPart_2 : decode cX2_firstSparedPart 2 = .ok (.iload_n 3, 1) := by decide +kernel
theorem dX2_firstSparedPart_3 : decode cX2_firstSparedPart 3 = .ok (.aload_n 0, 1) := by decide +kernel
theorem dX2_firstSparedPart_4 : decode cX2_firstSparedPart 4 = .ok (.getfield 53, 3) := by decide +kernel
theorem dX2_firstSparedPart_7 : decode cX2_firstSparedPart 7 = .ok (.if_icmp .ge 31, 3) := by decide +kernel
theorem dX2_firstSparedPart_10 : decode cX2_firstSparedPart 10 = .ok (.aload_n 1, 1) := by decide +kernel
theorem dX2_firstSparedPart_11 : decode cX2_firstSparedPart 11 = .ok (.aload_n 0, 1) := by decide +kernel
theorem dX2_firstSparedPart_12 : decode cX2_firstSparedPart 12 = .ok (.getfield 18, 3) := by decide +kernel
theorem dX2_firstSparedPart_15 : decode cX2_firstSparedPart 15 = .ok (.aload_n 0, 1) := by decide +kernel
theorem dX2_firstSparedPart_16 : decode cX2_firstSparedPart 16 = .ok (.iload_n 3, 1) := by decide +kernel
theorem dX2_firstSparedPart_17 : decode cX2_firstSparedPart 17 = .ok (.iload_n 2, 1) := by decide +kernel
theorem dX2_firstSparedPart_18 : decode cX2_firstSparedPart 18 = .ok (.invokevirtual 63, 3) := by decide +kernel
theorem dX2_firstSparedPart_21 : decode cX2_firstSparedPart 21 = .ok (.iconst (-1), 1) := by decide +kernel
theorem dX2_firstSparedPart_22 : decode cX2_firstSparedPart 22 = .ok (.ixor, 1) := by decide +kernel
theorem dX2_firstSparedPart_23 : decode cX2_firstSparedPart 23 = .ok (.iand, 1) := by decide +kernel
theorem dX2_firstSparedPart_24 : decode cX2_firstSparedPart 24 = .ok (.invokevirtual 47, 3) := by decide +kernel
theorem dX2_firstSparedPart_27 : decode cX2_firstSparedPart 27 = .ok (.ifCond .eq 5, 3) := by decide +kernel
theorem dX2_firstSparedPart_30 : decode cX2_firstSparedPart 30 = .ok (.iload_n 3, 1) := by decide +kernel
theorem dX2_firstSparedPart_31 : decode cX2_firstSparedPart 31 = .ok (.ireturn, 1) := by decide +kernel
theorem dX2_firstSparedPart_32 : decode cX2_firstSparedPart 32 = .ok (.iinc 3 1, 3) := by decide +kernel
theorem dX2_firstSparedPart_35 : decode cX2_firstSparedPart 35 = .ok (.goto (-33), 3) := by decide +kernel
theorem dX2_firstSparedPart_38 : decode cX2_firstSparedPart 38 = .ok (.iconst (-1), 1) := by decide +kernel
theorem dX2_firstSparedPart_39 : decode cX2_firstSparedPart 39 = .ok (.ireturn, 1) := by decide +kernel
theorem dX2_partAt_0 : decode cX2_partAt 0 = .ok (.iload_n 1, 1) := by decide +kernel
theorem dX2_partAt_1 : decode cX2_partAt 1 = .ok (.ifCond .lt 21, 3) := by decide +kernel
theorem dX2_partAt_4 : decode cX2_partAt 4 = .ok (.iload_n 1, 1) := by decide +kernel
theorem dX2_partAt_5 : decode cX2_partAt 5 = .ok (.aload_n 0, 1) := by decide +kernel
theorem dX2_partAt_6 : decode cX2_partAt 6 = .ok (.getfield 53, 3) := by decide +kernel
theorem dX2_partAt_9 : decode cX2_partAt 9 = .ok (.if_icmp .ge 13, 3) := by decide +kernel
theorem dX2_partAt_12 : decode cX2_partAt 12 = .ok (.iload_n 2, 1) := by decide +kernel
theorem dX2_partAt_13 : decode cX2_partAt 13 = .ok (.ifCond .lt 9, 3) := by decide +kernel
theorem dX2_partAt_16 : decode cX2_partAt 16 = .ok (.iload_n 2, 1) := by decide +kernel
theorem dX2_partAt_17 : decode cX2_partAt 17 = .ok (.bipush 24, 2) := by decide +kernel
theorem dX2_partAt_19 : decode cX2_partAt 19 = .ok (.if_icmp .le 5, 3) := by decide +kernel
theorem dX2_partAt_22 : decode cX2_partAt 22 = .ok (.iconst 0, 1) := by decide +kernel
theorem dX2_partAt_23 : decode cX2_partAt 23 = .ok (.ireturn, 1) := by decide +kernel
theorem dX2_partAt_24 : decode cX2_partAt 24 = .ok (.iload_n 1, 1) := by decide +kernel
theorem dX2_partAt_25 : decode cX2_partAt 25 = .ok (.iload_n 2, 1) := by decide +kernel
theorem dX2_partAt_26 : decode cX2_partAt 26 = .ok (.imul, 1) := by decide +kernel
theorem dX2_partAt_27 : decode cX2_partAt 27 = .ok (.aload_n 0, 1) := by decide +kernel
theorem dX2_partAt_28 : decode cX2_partAt 28 = .ok (.getfield 53, 3) := by decide +kernel
theorem dX2_partAt_31 : decode cX2_partAt 31 = .ok (.idiv, 1) := by decide +kernel
theorem dX2_partAt_32 : decode cX2_partAt 32 = .ok (.istore_n 3, 1) := by decide +kernel
theorem dX2_partAt_33 : decode cX2_partAt 33 = .ok (.iload_n 1, 1) := by decide +kernel
theorem dX2_partAt_34 : decode cX2_partAt 34 = .ok (.iconst 1, 1) := by decide +kernel
theorem dX2_partAt_35 : decode cX2_partAt 35 = .ok (.iadd, 1) := by decide +kernel
theorem dX2_partAt_36 : decode cX2_partAt 36 = .ok (.iload_n 2, 1) := by decide +kernel
theorem dX2_partAt_37 : decode cX2_partAt 37 = .ok (.imul, 1) := by decide +kernel
theorem dX2_partAt_38 : decode cX2_partAt 38 = .ok (.aload_n 0, 1) := by decide +kernel
theorem dX2_partAt_39 : decode cX2_partAt 39 = .ok (.getfield 53, 3) := by decide +kernel
theorem dX2_partAt_42 : decode cX2_partAt 42 = .ok (.idiv, 1) := by decide +kernel
theorem dX2_partAt_43 : decode cX2_partAt 43 = .ok (.istore 4, 2) := by decide +kernel
theorem dX2_partAt_45 : decode cX2_partAt 45 = .ok (.aload_n 0, 1) := by decide +kernel
theorem dX2_partAt_46 : decode cX2_partAt 46 = .ok (.getfield 15, 3) := by decide +kernel
theorem dX2_partAt_49 : decode cX2_partAt 49 = .ok (.iload 4, 2) := by decide +kernel
theorem dX2_partAt_51 : decode cX2_partAt 51 = .ok (.iaload, 1) := by decide +kernel
theorem dX2_partAt_52 : decode cX2_partAt 52 = .ok (.aload_n 0, 1) := by decide +kernel
theorem dX2_partAt_53 : decode cX2_partAt 53 = .ok (.getfield 15, 3) := by decide +kernel
theorem dX2_partAt_56 : decode cX2_partAt 56 = .ok (.iload_n 3, 1) := by decide +kernel
theorem dX2_partAt_57 : decode cX2_partAt 57 = .ok (.iaload, 1) := by decide +kernel
theorem dX2_partAt_58 : decode cX2_partAt 58 = .ok (.iconst (-1), 1) := by decide +kernel
theorem dX2_partAt_59 : decode cX2_partAt 59 = .ok (.ixor, 1) := by decide +kernel
theorem dX2_partAt_60 : decode cX2_partAt 60 = .ok (.iand, 1) := by decide +kernel
theorem dX2_partAt_61 : decode cX2_partAt 61 = .ok (.ireturn, 1) := by decide +kernel
theorem dX2_note_0 : decode cX2_note 0 = .ok (.aload_n 0, 1) := by decide +kernel
theorem dX2_note_1 : decode cX2_note 1 = .ok (.getfield 28, 3) := by decide +kernel
theorem dX2_note_4 : decode cX2_note 4 = .ok (.sipush 128, 3) := by decide +kernel
theorem dX2_note_7 : decode cX2_note 7 = .ok (.if_icmp .ge 73, 3) := by decide +kernel
theorem dX2_note_10 : decode cX2_note 10 = .ok (.aload_n 0, 1) := by decide +kernel
theorem dX2_note_11 : decode cX2_note 11 = .ok (.getfield 28, 3) := by decide +kernel
theorem dX2_note_14 : decode cX2_note 14 = .ok (.iconst 5, 1) := by decide +kernel
theorem dX2_note_15 : decode cX2_note 15 = .ok (.imul, 1) := by decide +kernel
theorem dX2_note_16 : decode cX2_note 16 = .ok (.istore 5, 2) := by decide +kernel
theorem dX2_note_18 : decode cX2_note 18 = .ok (.aload_n 0, 1) := by decide +kernel
theorem dX2_note_19 : decode cX2_note 19 = .ok (.getfield 11, 3) := by decide +kernel
theorem dX2_note_22 : decode cX2_note 22 = .ok (.iload 5, 2) := by decide +kernel
theorem dX2_note_24 : decode cX2_note 24 = .ok (.iload_n 1, 1) := by decide +kernel
theorem dX2_note_25 : decode cX2_note 25 = .ok (.iastore, 1) := by decide +kernel
theorem dX2_note_26 : decode cX2_note 26 = .ok (.aload_n 0, 1) := by decide +kernel
theorem dX2_note_27 : decode cX2_note 27 = .ok (.getfield 11, 3) := by decide +kernel
theorem dX2_note_30 : decode cX2_note 30 = .ok (.iload 5, 2) := by decide +kernel
theorem dX2_note_32 : decode cX2_note 32 = .ok (.iconst 1, 1) := by decide +kernel
theorem dX2_note_33 : decode cX2_note 33 = .ok (.iadd, 1) := by decide +kernel
theorem dX2_note_34 : decode cX2_note 34 = .ok (.aload_n 0, 1) := by decide +kernel
theorem dX2_note_35 : decode cX2_note 35 = .ok (.getfield 53, 3) := by decide +kernel
theorem dX2_note_38 : decode cX2_note 38 = .ok (.iastore, 1) := by decide +kernel
theorem dX2_note_39 : decode cX2_note 39 = .ok (.aload_n 0, 1) := by decide +kernel
theorem dX2_note_40 : decode cX2_note 40 = .ok (.getfield 11, 3) := by decide +kernel
theorem dX2_note_43 : decode cX2_note 43 = .ok (.iload 5, 2) := by decide +kernel
theorem dX2_note_45 : decode cX2_note 45 = .ok (.iconst 2, 1) := by decide +kernel
theorem dX2_note_46 : decode cX2_note 46 = .ok (.iadd, 1) := by decide +kernel
theorem dX2_note_47 : decode cX2_note 47 = .ok (.iload_n 2, 1) := by decide +kernel
theorem dX2_note_48 : decode cX2_note 48 = .ok (.iastore, 1) := by decide +kernel
theorem dX2_note_49 : decode cX2_note 49 = .ok (.aload_n 0, 1) := by decide +kernel
theorem dX2_note_50 : decode cX2_note 50 = .ok (.getfield 11, 3) := by decide +kernel
theorem dX2_note_53 : decode cX2_note 53 = .ok (.iload 5, 2) := by decide +kernel
theorem dX2_note_55 : decode cX2_note 55 = .ok (.iconst 3, 1) := by decide +kernel
theorem dX2_note_56 : decode cX2_note 56 = .ok (.iadd, 1) := by decide +kernel
theorem dX2_note_57 : decode cX2_note 57 = .ok (.iload_n 3, 1) := by decide +kernel
theorem dX2_note_58 : decode cX2_note 58 = .ok (.iastore, 1) := by decide +kernel
theorem dX2_note_59 : decode cX2_note 59 = .ok (.aload_n 0, 1) := by decide +kernel
theorem dX2_note_60 : decode cX2_note 60 = .ok (.getfield 11, 3) := by decide +kernel
theorem dX2_note_63 : decode cX2_note 63 = .ok (.iload 5, 2) := by decide +kernel
theorem dX2_note_65 : decode cX2_note 65 = .ok (.iconst 4, 1) := by decide +kernel
theorem dX2_note_66 : decode cX2_note 66 = .ok (.iadd, 1) := by decide +kernel
theorem dX2_note_67 : decode cX2_note 67 = .ok (.iload 4, 2) := by decide +kernel
theorem dX2_note_69 : decode cX2_note 69 = .ok (.iastore, 1) := by decide +kernel
theorem dX2_note_70 : decode cX2_note 70 = .ok (.aload_n 0, 1) := by decide +kernel
theorem dX2_note_71 : decode cX2_note 71 = .ok (.dup, 1) := by decide +kernel
theorem dX2_note_72 : decode cX2_note 72 = .ok (.getfield 28, 3) := by decide +kernel
theorem dX2_note_75 : decode cX2_note 75 = .ok (.iconst 1, 1) := by decide +kernel
theorem dX2_note_76 : decode cX2_note 76 = .ok (.iadd, 1) := by decide +kernel
theorem dX2_note_77 : decode cX2_note 77 = .ok (.putfield 28, 3) := by decide +kernel
theorem dX2_note_80 : decode cX2_note 80 = .ok (.aload_n 0, 1) := by decide +kernel
theorem dX2_note_81 : decode cX2_note 81 = .ok (.iload 4, 2) := by decide +kernel
theorem dX2_note_83 : decode cX2_note 83 = .ok (.putfield 18, 3) := by decide +kernel
theorem dX2_note_86 : decode cX2_note 86 = .ok (.return_, 1) := by decide +kernel
theorem dX3_init_0 : decode cX3_init 0 = .ok (.aload_n 0, 1) := by decide +kernel
theorem dX3_init_1 : decode cX3_init 1 = .ok (.invokespecial 5, 3) := by decide +kernel
theorem dX3_init_4 : decode cX3_init 4 = .ok (.aload_n 0, 1) := by decide +kernel
theorem dX3_init_5 : decode cX3_init 5 = .ok (.sipush 4096, 3) := by decide +kernel
theorem dX3_init_8 : decode cX3_init 8 = .ok (.newarray .long, 2) := by decide +kernel
theorem dX3_init_10 : decode cX3_init 10 = .ok (.putfield 11, 3) := by decide +kernel
theorem dX3_init_13 : decode cX3_init 13 = .ok (.aload_n 0, 1) := by decide +kernel
theorem dX3_init_14 : decode cX3_init 14 = .ok (.aload_n 1, 1) := by decide +kernel
theorem dX3_init_15 : decode cX3_init 15 = .ok (.putfield 15, 3) := by decide +kernel
theorem dX3_init_18 : decode cX3_init 18 = .ok (.aload_n 0, 1) := by decide +kernel
theorem dX3_init_19 : decode cX3_init 19 = .ok (.aload_n 2, 1) := by decide +kernel
theorem dX3_init_20 : decode cX3_init 20 = .ok (.putfield 19, 3) := by decide +kernel
theorem dX3_init_23 : decode cX3_init 23 = .ok (.return_, 1) := by decide +kernel
theorem dX3_begin_0 : decode cX3_begin 0 = .ok (.aload_n 0, 1) := by decide +kernel
theorem dX3_begin_1 : decode cX3_begin 1 = .ok (.dup, 1) := by decide +kernel
theorem dX3_begin_2 : decode cX3_begin 2 = .ok (.getfield 23, 3) := by decide +kernel
theorem dX3_begin_5 : decode cX3_begin 5 = .ok (.lconst 1, 1) := by decide +kernel
theorem dX3_begin_6 : decode cX3_begin 6 = .ok (.ladd, 1) := by decide +kernel
theorem dX3_begin_7 : decode cX3_begin 7 = .ok (.putfield 23, 3) := by decide +kernel
theorem dX3_begin_10 : decode cX3_begin 10 = .ok (.aload_n 0, 1) := by decide +kernel
theorem dX3_begin_11 : decode cX3_begin 11 = .ok (.iconst 0, 1) := by decide +kernel
theorem dX3_begin_12 : decode cX3_begin 12 = .ok (.putfield 27, 3) := by decide +kernel
theorem dX3_begin_15 : decode cX3_begin 15 = .ok (.return_, 1) := by decide +kernel
theorem dX3_tastings_0 : decode cX3_tastings 0 = .ok (.aload_n 0, 1) := by decide +kernel
theorem dX3_tastings_1 : decode cX3_tastings 1 = .ok (.getfield 27, 3) := by decide +kernel
theorem dX3_tastings_4 : decode cX3_tastings 4 = .ok (.ireturn, 1) := by decide +kernel
set_option maxRecDepth 20000 in
theorem ggX3_looksSpoiled_X3_learn : GoodIn wsX3_looksSpoiled wsX3_learn := goodIn_r _ [8, 9, 10, 11, 31, 32, 33, 34, 35] (by decide +kernel) (by decide +kernel)
set_option maxRecDepth 20000 in
theorem gX3_looksSpoiled_X3_learn : GoodIn wsX3_looksSpoiled (wsV RX3 31 RX3 yX3_learn wsX3_learn) := goodIn_app (goodIn_of _ (by decide +kernel)) ggX3_looksSpoiled_X3_learn
set_option maxRecDepth 20000 in
theorem ggX3_looksSpoiled_X0_kindsOf : GoodIn wsX3_looksSpoiled wsX0_kindsOf := goodIn_r _ [16, 17, 18, 36, 37] (by decide +kernel) (by decide +kernel)
set_option maxRecDepth 20000 in
theorem gX3_looksSpoiled_X0_kindsOf : GoodIn wsX3_looksSpoiled (wsV RX3 35 RX0 yX0_kindsOf wsX0_kindsOf) := goodIn_app (goodIn_of _ (by decide +kernel)) ggX3_looksSpoiled_X0_kindsOf
set_option maxRecDepth 20000 in
theorem ggX3_looksSpoiled_X1_holding : GoodIn wsX3_looksSpoiled wsX1_holding := goodIn_r _ [23, 24, 25, 26, 27, 22, 28, 29, 30, 38, 39, 40] (by decide +kernel) (by decide +kernel)
set_option maxRecDepth 20000 in
theorem gX3_looksSpoiled_X1_holding : GoodIn wsX3_looksSpoiled (wsV RX3 41 RX1 yX1_holding wsX1_holding) := goodIn_app (goodIn_of _ (by decide +kernel)) ggX3_looksSpoiled_X1_holding
theorem dX3_looksSpoiled_0 : decode cX3_looksSpoiled 0 = .ok (.aload_n 0, 1) := by decide +kernel
theorem dX3_looksSpoiled_1 : decode cX3_looksSpoiled 1 = .ok (.iload_n 1, 1) := by decide +kernel
theorem dX3_looksSpoiled_2 : decode cX3_looksSpoiled 2 = .ok (.invokevirtual 31, 3) := by decide +kernel
theorem dX3_looksSpoiled_5 : decode cX3_looksSpoiled 5 = .ok (.ifCond .eq 13, 3) := by decide +kernel
theorem dX3_looksSpoiled_8 : decode cX3_looksSpoiled 8 = .ok (.aload_n 0, 1) := by decide +kernel
theorem dX3_looksSpoiled_9 : decode cX3_looksSpoiled 9 = .ok (.dup, 1) := by decide +kernel
theorem dX3_looksSpoiled_10 : decode cX3_looksSpoiled 10 = .ok (.getfield 27, 3) := by decide +kernel
theorem dX3_looksSpoiled_13 : decode cX3_looksSpoiled 13 = .ok (.iconst 1, 1) := by decide +kernel
theorem dX3_looksSpoiled_14 : decode cX3_looksSpoiled 14 = .ok (.iadd, 1) := by decide +kernel
theorem dX3_looksSpoiled_15 : decode cX3_looksSpoiled 15 = .ok (.putfield 27, 3) := by decide +kernel
theorem dX3_looksSpoiled_18 : decode cX3_looksSpoiled 18 = .ok (.aload_n 0, 1) := by decide +kernel
theorem dX3_looksSpoiled_19 : decode cX3_looksSpoiled 19 = .ok (.getfield 19, 3) := by decide +kernel
theorem dX3_looksSpoiled_22 : decode cX3_looksSpoiled 22 = .ok (.aload_n 0, 1) := by decide +kernel
theorem dX3_looksSpoiled_23 : decode cX3_looksSpoiled 23 = .ok (.getfield 15, 3) := by decide +kernel
theorem dX3_looksSpoiled_26 : decode cX3_looksSpoiled 26 = .ok (.iload_n 1, 1) := by decide +kernel
theorem dX3_looksSpoiled_27 : decode cX3_looksSpoiled 27 = .ok (.invokevirtual 35, 3) := by decide +kernel
theorem dX3_looksSpoiled_30 : decode cX3_looksSpoiled 30 = .ok (.invokevirtual 41, 3) := by decide +kernel
theorem dX3_looksSpoiled_33 : decode cX3_looksSpoiled 33 = .ok (.ifCond .le 7, 3) := by decide +kernel
theorem dX3_looksSpoiled_36 : decode cX3_looksSpoiled 36 = .ok (.iconst 1, 1) := by decide +kernel
theorem dX3_looksSpoiled_37 : decode cX3_looksSpoiled 37 = .ok (.goto 4, 3) := by decide +kernel
theorem dX3_looksSpoiled_40 : decode cX3_looksSpoiled 40 = .ok (.iconst 0, 1) := by decide +kernel
theorem dX3_looksSpoiled_41 : decode cX3_looksSpoiled 41 = .ok (.ireturn, 1) := by decide +kernel
theorem dX3_learn_0 : decode cX3_learn 0 = .ok (.aload_n 0, 1) := by decide +kernel
theorem dX3_learn_1 : decode cX3_learn 1 = .ok (.getfield 23, 3) := by decide +kernel
theorem dX3_learn_4 : decode cX3_learn 4 = .ok (.bipush 24, 2) := by decide +kernel
theorem dX3_learn_6 : decode cX3_learn 6 = .ok (.lshl, 1) := by decide +kernel
theorem dX3_learn_7 : decode cX3_learn 7 = .ok (.iload_n 1, 1) := by decide +kernel
theorem dX3_learn_8 : decode cX3_learn 8 = .ok (.i2l, 1) := by decide +kernel
theorem dX3_learn_9 : decode cX3_learn 9 = .ok (.lor, 1) := by decide +kernel
theorem dX3_learn_10 : decode cX3_learn 10 = .ok (.lstore_n 2, 1) := by decide +kernel
theorem dX3_learn_11 : decode cX3_learn 11 = .ok (.iload_n 1, 1) := by decide +kernel
theorem dX3_learn_12 : decode cX3_learn 12 = .ok (.ldc 46, 2) := by decide +kernel
theorem dX3_learn_14 : decode cX3_learn 14 = .ok (.imul, 1) := by decide +kernel
theorem dX3_learn_15 : decode cX3_learn 15 = .ok (.bipush 20, 2) := by decide +kernel
theorem dX3_learn_17 : decode cX3_learn 17 = .ok (.iushr, 1) := by decide +kernel
theorem dX3_learn_18 : decode cX3_learn 18 = .ok (.istore 4, 2) := by decide +kernel
theorem dX3_learn_20 : decode cX3_learn 20 = .ok (.iconst 0, 1) := by decide +kernel
theorem dX3_learn_21 : decode cX3_learn 21 = .ok (.istore 5, 2) := by decide +kernel
theorem dX3_learn_23 : decode cX3_learn 23 = .ok (.iload 5, 2) := by decide +kernel
theorem dX3_learn_25 : decode cX3_learn 25 = .ok (.sipush 4096, 3) := by decide +kernel
theorem dX3_learn_28 : decode cX3_learn 28 = .ok (.if_icmp .ge 62, 3) := by decide +kernel
theorem dX3_learn_31 : decode cX3_learn 31 = .ok (.iload 4, 2) := by decide +kernel
theorem dX3_learn_33 : decode cX3_learn 33 = .ok (.iload 5, 2) := by decide +kernel
theorem dX3_learn_35 : decode cX3_learn 35 = .ok (.iadd, 1) := by decide +kernel
theorem dX3_learn_36 : decode cX3_learn 36 = .ok (.sipush 4095, 3) := by decide +kernel
theorem dX3_learn_39 : decode cX3_learn 39 = .ok (.iand, 1) := by decide +kernel
theorem dX3_learn_40 : decode cX3_learn 40 = .ok (.istore 6, 2) := by decide +kernel
theorem dX3_learn_42 : decode cX3_learn 42 = .ok (.aload_n 0, 1) := by decide +kernel
theorem dX3_learn_43 : decode cX3_learn 43 = .ok (.getfield 11, 3) := by decide +kernel
theorem dX3_learn_46 : decode cX3_learn 46 = .ok (.iload 6, 2) := by decide +kernel
theorem dX3_learn_48 : decode cX3_learn 48 = .ok (.laload, 1) := by decide +kernel
theorem dX3_learn_49 : decode cX3_learn 49 = .ok (.lload_n 2, 1) := by decide +kernel
theorem dX3_learn_50 : decode cX3_learn 50 = .ok (.lcmp, 1) := by decide +kernel
theorem dX3_learn_51 : decode cX3_learn 51 = .ok (.ifCond .ne 5, 3) := by decide +kernel
theorem dX3_learn_54 : decode cX3_learn 54 = .ok (.iconst 0, 1) := by decide +kernel
theorem dX3_learn_55 : decode cX3_learn 55 = .ok (.ireturn, 1) := by decide +kernel
theorem dX3_learn_56 : decode cX3_learn 56 = .ok (.aload_n 0, 1) := by decide +kernel
theorem dX3_learn_57 : decode cX3_learn 57 = .ok (.getfield 11, 3) := by decide +kernel
theorem dX3_learn_60 : decode cX3_learn 60 = .ok (.iload 6, 2) := by decide +kernel
theorem dX3_learn_62 : decode cX3_learn 62 = .ok (.laload, 1) := by decide +kernel
theorem dX3_learn_63 : decode cX3_learn 63 = .ok (.bipush 24, 2) := by decide +kernel
theorem dX3_learn_65 : decode cX3_learn 65 = .ok (.lshr, 1) := by decide +kernel
theorem dX3_learn_66 : decode cX3_learn 66 = .ok (.aload_n 0, 1) := by decide +kernel
theorem dX3_learn_67 : decode cX3_learn 67 = .ok (.getfield 23, 3) := by decide +kernel
theorem dX3_learn_70 : decode cX3_learn 70 = .ok (.lcmp, 1) := by decide +kernel
theorem dX3_learn_71 : decode cX3_learn 71 = .ok (.ifCond .eq 13, 3) := by decide +kernel
theorem dX3_learn_74 : decode cX3_learn 74 = .ok (.aload_n 0, 1) := by decide +kernel
theorem dX3_learn_75 : decode cX3_learn 75 = .ok (.getfield 11, 3) := by decide +kernel
theorem dX3_learn_78 : decode cX3_learn 78 = .ok (.iload 6, 2) := by decide +kernel
theorem dX3_learn_80 : decode cX3_learn 80 = .ok (.lload_n 2, 1) := by decide +kernel
theorem dX3_learn_81 : decode cX3_learn 81 = .ok (.lastore, 1) := by decide +kernel
theorem dX3_learn_82 : decode cX3_learn 82 = .ok (.iconst 1, 1) := by decide +kernel
theorem dX3_learn_83 : decode cX3_learn 83 = .ok (.ireturn, 1) := by decide +kernel
theorem dX3_learn_84 : decode cX3_learn 84 = .ok (.iinc 5 1, 3) := by decide +kernel
theorem dX3_learn_87 : decode cX3_learn 87 = .ok (.goto (-64), 3) := by decide +kernel
theorem dX3_learn_90 : decode cX3_learn 90 = .ok (.iconst 0, 1) := by decide +kernel
theorem dX3_learn_91 : decode cX3_learn 91 = .ok (.ireturn, 1) := by decide +kernel
set_option maxRecDepth 20000 in
theorem ggX4_init_X0_init : GoodIn wsX4_init wsX0_init := goodIn_r _ [22, 23, 2, 3, 24, 25, 44, 45] (by decide +kernel) (by decide +kernel)
set_option maxRecDepth 20000 in
theorem gX4_init_X0_init_n9 : GoodIn wsX4_init (wsX0_init) := ggX4_init_X0_init
set_option maxRecDepth 20000 in
theorem ggX4_init_X1_init : GoodIn wsX4_init wsX1_init := goodIn_r _ [27, 28, 2, 3, 24, 29, 30, 53, 54, 55] (by decide +kernel) (by decide +kernel)
set_option maxRecDepth 20000 in
theorem gX4_init_X1_init_n18 : GoodIn wsX4_init (wsX1_init) := ggX4_init_X1_init
set_option maxRecDepth 20000 in
theorem ggX4_init_X3_init : GoodIn wsX4_init wsX3_init := goodIn_r _ [33, 34, 2, 3, 35, 36, 37, 38, 56, 57, 58, 59, 60] (by decide +kernel) (by decide +kernel)
set_option maxRecDepth 20000 in
theorem gX4_init_X3_init : GoodIn wsX4_init (wsX3_init) := ggX4_init_X3_init
set_option maxRecDepth 20000 in
theorem ggX4_init_X2_init : GoodIn wsX4_init wsX2_init := goodIn_r _ [40, 41, 2, 3, 24, 42, 43, 61, 62, 63, 64, 65, 66] (by decide +kernel) (by decide +kernel)
set_option maxRecDepth 20000 in
theorem gX4_init_X2_init_n34 : GoodIn wsX4_init (wsX2_init) := ggX4_init_X2_init
theorem dX4_init_0 : decode cX4_init 0 = .ok (.aload_n 0, 1) := by decide +kernel
theorem dX4_init_1 : decode cX4_init 1 = .ok (.invokespecial 1, 3) := by decide +kernel
theorem dX4_init_4 : decode cX4_init 4 = .ok (.aload_n 0, 1) := by decide +kernel
theorem dX4_init_5 : decode cX4_init 5 = .ok (.new 7, 3) := by decide +kernel
theorem dX4_init_8 : decode cX4_init 8 = .ok (.dup, 1) := by decide +kernel
theorem dX4_init_9 : decode cX4_init 9 = .ok (.invokespecial 9, 3) := by decide +kernel
theorem dX4_init_12 : decode cX4_init 12 = .ok (.putfield 10, 3) := by decide +kernel
theorem dX4_init_15 : decode cX4_init 15 = .ok (.aload_n 0, 1) := by decide +kernel
theorem dX4_init_16 : decode cX4_init 16 = .ok (.new 16, 3) := by decide +kernel
theorem dX4_init_19 : decode cX4_init 19 = .ok (.dup, 1) := by decide +kernel
theorem dX4_init_20 : decode cX4_init 20 = .ok (.invokespecial 18, 3) := by decide +kernel
theorem dX4_init_23 : decode cX4_init 23 = .ok (.putfield 19, 3) := by decide +kernel
theorem dX4_init_26 : decode cX4_init 26 = .ok (.aload_n 0, 1) := by decide +kernel
theorem dX4_init_27 : decode cX4_init 27 = .ok (.new 23, 3) := by decide +kernel
theorem dX4_init_30 : decode cX4_init 30 = .ok (.dup, 1) := by decide +kernel
theorem dX4_init_31 : decode cX4_init 31 = .ok (.aload_n 0, 1) := by decide +kernel
theorem dX4_init_32 : decode cX4_init 32 = .ok (.getfield 10, 3) := by decide +kernel
theorem dX4_init_35 : decode cX4_init 35 = .ok (.aload_n 0, 1) := by decide +kernel
theorem dX4_init_36 : decode cX4_init 36 = .ok (.getfield 19, 3) := by decide +kernel
theorem dX4_init_39 : decode cX4_init 39 = .ok (.invokespecial 25, 3) := by decide +kernel
theorem dX4_init_42 : decode cX4_init 42 = .ok (.putfield 28, 3) := by decide +kernel
theorem dX4_init_45 : decode cX4_init 45 = .ok (.aload_n 0, 1) := by decide +kernel
theorem dX4_init_46 : decode cX4_init 46 = .ok (.new 32, 3) := by decide +kernel
theorem dX4_init_49 : decode cX4_init 49 = .ok (.dup, 1) := by decide +kernel
theorem dX4_init_50 : decode cX4_init 50 = .ok (.invokespecial 34, 3) := by decide +kernel
theorem dX4_init_53 : decode cX4_init 53 = .ok (.putfield 35, 3) := by decide +kernel
theorem dX4_init_56 : decode cX4_init 56 = .ok (.aload_n 0, 1) := by decide +kernel
theorem dX4_init_57 : decode cX4_init 57 = .ok (.new 32, 3) := by decide +kernel
theorem dX4_init_60 : decode cX4_init 60 = .ok (.dup, 1) := by decide +kernel
theorem dX4_init_61 : decode cX4_init 61 = .ok (.invokespecial 34, 3) := by decide +kernel
theorem dX4_init_64 : decode cX4_init 64 = .ok (.putfield 39, 3) := by decide +kernel
theorem dX4_init_67 : decode cX4_init 67 = .ok (.return_, 1) := by decide +kernel
set_option maxRecDepth 20000 in
theorem ggX4_add_X4_isKind : GoodIn wsX4_add wsX4_isKind := goodIn_r _ [9] (by decide +kernel) (by decide +kernel)
set_option maxRecDepth 20000 in
theorem gX4_add_X4_isKind : GoodIn wsX4_add (va_wsS RX4 42 yX4_isKind wsX4_isKind) := goodIn_app (goodIn_of _ (by decide +kernel)) ggX4_add_X4_isKind
set_option maxRecDepth 20000 in
theorem ggX4_add_X0_isFull : GoodIn wsX4_add wsX0_isFull := goodIn_r _ [14, 15, 16, 33, 34] (by decide +kernel) (by decide +kernel)
set_option maxRecDepth 20000 in
theorem gX4_add_X0_isFull : GoodIn wsX4_add (wsV RX4 53 RX0 yX0_isFull wsX0_isFull) := goodIn_app (goodIn_of _ (by decide +kernel)) ggX4_add_X0_isFull
set_option maxRecDepth 20000 in
theorem ggX4_add_X0_append : GoodIn wsX4_add wsX0_append := goodIn_r _ [20, 16, 15, 21, 11, 12, 13, 14, 33, 34] (by decide +kernel) (by decide +kernel)
set_option maxRecDepth 20000 in
theorem gX4_add_X0_append : GoodIn wsX4_add (wsV RX4 62 RX0 yX0_append wsX0_append) := goodIn_app (goodIn_of _ (by decide +kernel)) ggX4_add_X0_append
set_option maxRecDepth 20000 in
theorem ggX4_add_X0_size : GoodIn wsX4_add wsX0_size := goodIn_r _ [25, 15, 33, 34] (by decide +kernel) (by decide +kernel)
set_option maxRecDepth 20000 in
theorem gX4_add_X0_size : GoodIn wsX4_add (wsV RX4 66 RX0 yX0_size wsX0_size) := goodIn_app (goodIn_of _ (by decide +kernel)) ggX4_add_X0_size
theorem dX4_add_0 : decode cX4_add 0 = .ok (.iload_n 1, 1) := by decide +kernel
theorem dX4_add_1 : decode cX4_add 1 = .ok (.invokestatic 42, 3) := by decide +kernel
theorem dX4_add_4 : decode cX4_add 4 = .ok (.ifCond .ne 13, 3) := by decide +kernel
theorem dX4_add_7 : decode cX4_add 7 = .ok (.new 46, 3) := by decide +kernel
theorem dX4_add_10 : decode cX4_add 10 = .ok (.dup, 1) := by decide +kernel
theorem dX4_add_11 : decode cX4_add 11 = .ok (.ldc 48, 2) := by decide +kernel
theorem dX4_add_13 : decode cX4_add 13 = .ok (.invokespecial 50, 3) := by decide +kernel
theorem dX4_add_16 : decode cX4_add 16 = .ok (.athrow, 1) := by decide +kernel
theorem dX4_add_17 : decode cX4_add 17 = .ok (.aload_n 0, 1) := by decide +kernel
theorem dX4_add_18 : decode cX4_add 18 = .ok (.getfield 10, 3) := by decide +kernel
theorem dX4_add_21 : decode cX4_add 21 = .ok (.invokevirtual 53, 3) := by decide +kernel
theorem dX4_add_24 : decode cX4_add 24 = .ok (.ifCond .eq 13, 3) := by decide +kernel
theorem dX4_add_27 : decode cX4_add 27 = .ok (.new 57, 3) := by decide +kernel
theorem dX4_add_30 : decode cX4_add 30 = .ok (.dup, 1) := by decide +kernel
theorem dX4_add_31 : decode cX4_add 31 = .ok (.ldc 59, 2) := by decide +kernel
theorem dX4_add_33 : decode cX4_add 33 = .ok (.invokespecial 61, 3) := by decide +kernel
theorem dX4_add_36 : decode cX4_add 36 = .ok (.athrow, 1) := by decide +kernel
theorem dX4_add_37 : decode cX4_add 37 = .ok (.aload_n 0, 1) := by decide +kernel
theorem dX4_add_38 : decode cX4_add 38 = .ok (.getfield 10, 3) := by decide +kernel
theorem dX4_add_41 : decode cX4_add 41 = .ok (.iload_n 1, 1) := by decide +kernel
theorem dX4_add_42 : decode cX4_add 42 = .ok (.invokevirtual 62, 3) := by decide +kernel
theorem dX4_add_45 : decode cX4_add 45 = .ok (.aload_n 0, 1) := by decide +kernel
theorem dX4_add_46 : decode cX4_add 46 = .ok (.getfield 10, 3) := by decide +kernel
theorem dX4_add_49 : decode cX4_add 49 = .ok (.invokevirtual 66, 3) := by decide +kernel
theorem dX4_add_52 : decode cX4_add 52 = .ok (.ireturn, 1) := by decide +kernel
set_option maxRecDepth 20000 in
theorem ggX4_drop_X0_hasPlace : GoodIn wsX4_drop wsX0_hasPlace := goodIn_r _ [8, 9, 27, 28] (by decide +kernel) (by decide +kernel)
set_option maxRecDepth 20000 in
theorem gX4_drop_X0_hasPlace : GoodIn wsX4_drop (wsV RX4 70 RX0 yX0_hasPlace wsX0_hasPlace) := goodIn_app (goodIn_of _ (by decide +kernel)) ggX4_drop_X0_hasPlace
set_option maxRecDepth 20000 in
theorem ggX4_drop_X0_kindAt : GoodIn wsX4_drop wsX0_kindAt := goodIn_r _ [13, 14, 15, 5, 6, 7, 8, 9, 27, 28] (by decide +kernel) (by decide +kernel)
set_option maxRecDepth 20000 in
theorem gX4_drop_X0_kindAt : GoodIn wsX4_drop (wsV RX4 75 RX0 yX0_kindAt wsX0_kindAt) := goodIn_app (goodIn_of _ (by decide +kernel)) ggX4_drop_X0_kindAt
set_option maxRecDepth 20000 in
theorem ggX4_drop_X0_takeOut : GoodIn wsX4_drop wsX0_takeOut := goodIn_r _ [19, 9, 14, 15, 5, 6, 7, 8, 27, 28] (by decide +kernel) (by decide +kernel)
set_option maxRecDepth 20000 in
theorem gX4_drop_X0_takeOut : GoodIn wsX4_drop (wsV RX4 79 RX0 yX0_takeOut wsX0_takeOut) := goodIn_app (goodIn_of _ (by decide +kernel)) ggX4_drop_X0_takeOut
theorem dX4_drop_0 : decode cX4_drop 0 = .ok (.aload_n 0, 1) := by decide +kernel
theorem dX4_drop_1 : decode cX4_drop 1 = .ok (.getfield 10, 3) := by decide +kernel
theorem dX4_drop_4 : decode cX4_drop 4 = .ok (.iload_n 1, 1) := by decide +kernel
theorem dX4_drop_5 : decode cX4_drop 5 = .ok (.invokevirtual 70, 3) := by decide +kernel
theorem dX4_drop_8 : decode cX4_drop 8 = .ok (.ifCond .ne 13, 3) := by decide +kernel
theorem dX4_drop_11 : decode cX4_drop 11 = .ok (.new 46, 3) := by decide +kernel
theorem dX4_drop_14 : decode cX4_drop 14 = .ok (.dup, 1) := by decide +kernel
theorem dX4_drop_15 : decode cX4_drop 15 = .ok (.ldc 73, 2) := by decide +kernel
theorem dX4_drop_17 : decode cX4_drop 17 = .ok (.invokespecial 50, 3) := by decide +kernel
theorem dX4_drop_20 : decode cX4_drop 20 = .ok (.athrow, 1) := by decide +kernel
theorem dX4_drop_21 : decode cX4_drop 21 = .ok (.aload_n 0, 1) := by decide +kernel
theorem dX4_drop_22 : decode cX4_drop 22 = .ok (.getfield 10, 3) := by decide +kernel
theorem dX4_drop_25 : decode cX4_drop 25 = .ok (.iload_n 1, 1) := by decide +kernel
theorem dX4_drop_26 : decode cX4_drop 26 = .ok (.invokevirtual 75, 3) := by decide +kernel
theorem dX4_drop_29 : decode cX4_drop 29 = .ok (.istore_n 2, 1) := by decide +kernel
theorem dX4_drop_30 : decode cX4_drop 30 = .ok (.aload_n 0, 1) := by decide +kernel
theorem dX4_drop_31 : decode cX4_drop 31 = .ok (.getfield 10, 3) := by decide +kernel
theorem dX4_drop_34 : decode cX4_drop 34 = .ok (.iload_n 1, 1) := by decide +kernel
theorem dX4_drop_35 : decode cX4_drop 35 = .ok (.invokevirtual 79, 3) := by decide +kernel
theorem dX4_drop_38 : decode cX4_drop 38 = .ok (.iload_n 2, 1) := by decide +kernel
theorem dX4_drop_39 : decode cX4_drop 39 = .ok (.ireturn, 1) := by decide +kernel
set_option maxRecDepth 20000 in
theorem ggX4_kind_X0_hasPlace : GoodIn wsX4_kind wsX0_hasPlace := goodIn_r _ [8, 9, 23, 24] (by decide +kernel) (by decide +kernel)
set_option maxRecDepth 20000 in
theorem gX4_kind_X0_hasPlace : GoodIn wsX4_kind (wsV RX4 70 RX0 yX0_hasPlace wsX0_hasPlace) := goodIn_app (goodIn_of _ (by decide +kernel)) ggX4_kind_X0_hasPlace
set_option maxRecDepth 20000 in
theorem ggX4_kind_X0_kindAt : GoodIn wsX4_kind wsX0_kindAt := goodIn_r _ [13, 14, 15, 5, 6, 7, 8, 9, 23, 24] (by decide +kernel) (by decide +kernel)
set_option maxRecDepth 20000 in
theorem gX4_kind_X0_kindAt : GoodIn wsX4_kind (wsV RX4 75 RX0 yX0_kindAt wsX0_kindAt) := goodIn_app (goodIn_of _ (by decide +kernel)) ggX4_kind_X0_kindAt
theorem dX4_kind_0 : decode cX4_kind 0 = .ok (.aload_n 0, 1) := by decide +kernel
theorem dX4_kind_1 : decode cX4_kind 1 = .ok (.getfield 10, 3) := by decide +kernel
theorem dX4_kind_4 : decode cX4_kind 4 = .ok (.iload_n 1, 1) := by decide +kernel
theorem dX4_kind_5 : decode cX4_kind 5 = .ok (.invokevirtual 70, 3) := by decide +kernel
theorem dX4_kind_8 : decode cX4_kind 8 = .ok (.ifCond .ne 13, 3) := by decide +kernel
theorem dX4_kind_11 : decode cX4_kind 11 = .ok (.new 46, 3) := by decide +kernel
theorem dX4_kind_14 : decode cX4_kind 14 = .ok (.dup, 1) := by decide +kernel
theorem dX4_kind_15 : decode cX4_kind 15 = .ok (.ldc 73, 2) := by decide +kernel
theorem dX4_kind_17 : decode cX4_kind 17 = .ok (.invokespecial 50, 3) := by decide +kernel
theorem dX4_kind_20 : decode cX4_kind 20 = .ok (.athrow, 1) := by decide +kernel
theorem dX4_kind_21 : decode cX4_kind 21 = .ok (.aload_n 0, 1) := by decide +kernel
theorem dX4_kind_22 : decode cX4_kind 22 = .ok (.getfield 10, 3) := by decide +kernel
theorem dX4_kind_25 : decode cX4_kind 25 = .ok (.iload_n 1, 1) := by decide +kernel
theorem dX4_kind_26 : decode cX4_kind 26 = .ok (.invokevirtual 75, 3) := by decide +kernel
theorem dX4_kind_29 : decode cX4_kind 29 = .ok (.ireturn, 1) := by decide +kernel
set_option maxRecDepth 20000 in
theorem ggX4_rule_X1_isFull : GoodIn wsX4_rule wsX1_isFull := goodIn_r _ [8, 9, 26, 27, 28] (by decide +kernel) (by decide +kernel)
set_option maxRecDepth 20000 in
theorem gX4_rule_X1_isFull : GoodIn wsX4_rule (wsV RX4 82 RX1 yX1_isFull wsX1_isFull) := goodIn_app (goodIn_of _ (by decide +kernel)) ggX4_rule_X1_isFull
set_option maxRecDepth 20000 in
theorem ggX4_rule_X1_append : GoodIn wsX4_rule wsX1_append := goodIn_r _ [13, 9, 14, 5, 6, 7, 8, 26, 27, 28] (by decide +kernel) (by decide +kernel)
set_option maxRecDepth 20000 in
theorem gX4_rule_X1_append : GoodIn wsX4_rule (wsV RX4 85 RX1 yX1_append wsX1_append) := goodIn_app (goodIn_of _ (by decide +kernel)) ggX4_rule_X1_append
set_option maxRecDepth 20000 in
theorem ggX4_rule_X1_size : GoodIn wsX4_rule wsX1_size := goodIn_r _ [18, 9, 26, 27, 28] (by decide +kernel) (by decide +kernel)
set_option maxRecDepth 20000 in
theorem gX4_rule_X1_size : GoodIn wsX4_rule (wsV RX4 87 RX1 yX1_size wsX1_size) := goodIn_app (goodIn_of _ (by decide +kernel)) ggX4_rule_X1_size
theorem dX4_rule_0 : decode cX4_rule 0 = .ok (.aload_n 0, 1) := by decide +kernel
theorem dX4_rule_1 : decode cX4_rule 1 = .ok (.getfield 19, 3) := by decide +kernel
theorem dX4_rule_4 : decode cX4_rule 4 = .ok (.invokevirtual 82, 3) := by decide +kernel
theorem dX4_rule_7 : decode cX4_rule 7 = .ok (.ifCond .eq 13, 3) := by decide +kernel
theorem dX4_rule_10 : decode cX4_rule 10 = .ok (.new 57, 3) := by decide +kernel
theorem dX4_rule_13 : decode cX4_rule 13 = .ok (.dup, 1) := by decide +kernel
theorem dX4_rule_14 : decode cX4_rule 14 = .ok (.ldc 83, 2) := by decide +kernel
theorem dX4_rule_16 : decode cX4_rule 16 = .ok (.invokespecial 61, 3) := by decide +kernel
theorem dX4_rule_19 : decode cX4_rule 19 = .ok (.athrow, 1) := by decide +kernel
theorem dX4_rule_20 : decode cX4_rule 20 = .ok (.aload_n 0, 1) := by decide +kernel
theorem dX4_rule_21 : decode cX4_rule 21 = .ok (.getfield 19, 3) := by decide +kernel
theorem dX4_rule_24 : decode cX4_rule 24 = .ok (.invokevirtual 85, 3) := by decide +kernel
theorem dX4_rule_27 : decode cX4_rule 27 = .ok (.aload_n 0, 1) := by decide +kernel
theorem dX4_rule_28 : decode cX4_rule 28 = .ok (.getfield 19, 3) := by decide +kernel
theorem dX4_rule_31 : decode cX4_rule 31 = .ok (.invokevirtual 87, 3) := by decide +kernel
theorem dX4_rule_34 : decode cX4_rule 34 = .ok (.iconst 1, 1) := by decide +kernel
theorem dX4_rule_35 : decode cX4_rule 35 = .ok (.isub, 1) := by decide +kernel
theorem dX4_rule_36 : decode cX4_rule 36 = .ok (.ireturn, 1) := by decide +kernel
set_option maxRecDepth 20000 in
theorem ggX4_setNeeds_X1_hasRule : GoodIn wsX4_setNeeds wsX1_hasRule := goodIn_r _ [10, 11, 44, 45, 46] (by decide +kernel) (by decide +kernel)
set_option maxRecDepth 20000 in
theorem gX4_setNeeds_X1_hasRule : GoodIn wsX4_setNeeds (wsV RX4 88 RX1 yX1_hasRule wsX1_hasRule) := goodIn_app (goodIn_of _ (by decide +kernel)) ggX4_setNeeds_X1_hasRule
set_option maxRecDepth 20000 in
theorem ggX4_setNeeds_X4_isKind : GoodIn wsX4_setNeeds wsX4_isKind := goodIn_r _ [15] (by decide +kernel) (by decide +kernel)
set_option maxRecDepth 20000 in
theorem gX4_setNeeds_X4_isKind : GoodIn wsX4_setNeeds (va_wsS RX4 42 yX4_isKind wsX4_isKind) := goodIn_app (goodIn_of _ (by decide +kernel)) ggX4_setNeeds_X4_isKind
set_option maxRecDepth 20000 in
theorem ggX4_setNeeds_X1_sparedBy : GoodIn wsX4_setNeeds wsX1_sparedBy := goodIn_r _ [19, 20, 21, 7, 8, 9, 10, 11, 44, 45, 46] (by decide +kernel) (by decide +kernel)
set_option maxRecDepth 20000 in
theorem gX4_setNeeds_X1_sparedBy : GoodIn wsX4_setNeeds (wsV RX4 93 RX1 yX1_sparedBy wsX1_sparedBy) := goodIn_app (goodIn_of _ (by decide +kernel)) ggX4_setNeeds_X1_sparedBy
set_option maxRecDepth 20000 in
theorem ggX4_setNeeds_X4_hasBit : GoodIn wsX4_setNeeds wsX4_hasBit := goodIn_r _ [24] (by decide +kernel) (by decide +kernel)
set_option maxRecDepth 20000 in
theorem gX4_setNeeds_X4_hasBit : GoodIn wsX4_setNeeds (va_wsS RX4 96 yX4_hasBit wsX4_hasBit) := goodIn_app (goodIn_of _ (by decide +kernel)) ggX4_setNeeds_X4_hasBit
set_option maxRecDepth 20000 in
theorem ggX4_setNeeds_X1_neededBy : GoodIn wsX4_setNeeds wsX1_neededBy := goodIn_r _ [28, 29, 21, 7, 8, 9, 10, 11, 44, 45, 46] (by decide +kernel) (by decide +kernel)
set_option maxRecDepth 20000 in
theorem gX4_setNeeds_X1_neededBy : GoodIn wsX4_setNeeds (wsV RX4 102 RX1 yX1_neededBy wsX1_neededBy) := goodIn_app (goodIn_of _ (by decide +kernel)) ggX4_setNeeds_X1_neededBy
set_option maxRecDepth 20000 in
theorem ggX4_setNeeds_X4_withBit : GoodIn wsX4_setNeeds wsX4_withBit := goodIn_r _ [32] (by decide +kernel) (by decide +kernel)
set_option maxRecDepth 20000 in
theorem gX4_setNeeds_X4_withBit : GoodIn wsX4_setNeeds (va_wsS RX4 105 yX4_withBit wsX4_withBit) := goodIn_app (goodIn_of _ (by decide +kernel)) ggX4_setNeeds_X4_withBit
set_option maxRecDepth 20000 in
theorem ggX4_setNeeds_X1_putNeeded : GoodIn wsX4_setNeeds wsX1_putNeeded := goodIn_r _ [36, 29, 21, 7, 8, 9, 10, 11, 44, 45, 46] (by decide +kernel) (by decide +kernel)
set_option maxRecDepth 20000 in
theorem gX4_setNeeds_X1_putNeeded : GoodIn wsX4_setNeeds (wsV RX4 109 RX1 yX1_putNeeded wsX1_putNeeded) := goodIn_app (goodIn_of _ (by decide +kernel)) ggX4_setNeeds_X1_putNeeded
theorem dX4_setNeeds_0 : decode cX4_setNeeds 0 = .ok (.aload_n 0, 1) := by decide +kernel
theorem dX4_setNeeds_1 : decode cX4_setNeeds 1 = .ok (.getfield 19, 3) := by decide +kernel
theorem dX4_setNeeds_4 : decode cX4_setNeeds 4 = .ok (.iload_n 1, 1) := by decide +kernel
theorem dX4_setNeeds_5 : decode cX4_setNeeds 5 = .ok (.invokevirtual 88, 3) := by decide +kernel
theorem dX4_setNeeds_8 : decode cX4_setNeeds 8 = .ok (.ifCond .eq 10, 3) := by decide +kernel
theorem dX4_setNeeds_11 : decode cX4_setNeeds 11 = .ok (.iload_n 2, 1) := by decide +kernel
theorem dX4_setNeeds_12 : decode cX4_setNeeds 12 = .ok (.invokestatic 42, 3) := by decide +kernel
theorem dX4_setNeeds_15 : decode cX4_setNeeds 15 = .ok (.ifCond .ne 13, 3) := by decide +kernel
theorem dX4_setNeeds_18 : decode cX4_setNeeds 18 = .ok (.new 46, 3) := by decide +kernel
theorem dX4_setNeeds_21 : decode cX4_setNeeds 21 = .ok (.dup, 1) := by decide +kernel
theorem dX4_setNeeds_22 : decode cX4_setNeeds 22 = .ok (.ldc 91, 2) := by decide +kernel
theorem dX4_setNeeds_24 : decode cX4_setNeeds 24 = .ok (.invokespecial 50, 3) := by decide +kernel
theorem dX4_setNeeds_27 : decode cX4_setNeeds 27 = .ok (.athrow, 1) := by decide +kernel
theorem dX4_setNeeds_28 : decode cX4_setNeeds 28 = .ok (.iload_n 3, 1) := by decide +kernel
theorem dX4_setNeeds_29 : decode cX4_setNeeds 29 = .ok (.ifCond .eq 28, 3) := by decide +kernel
theorem dX4_setNeeds_32 : decode cX4_setNeeds 32 = .ok (.aload_n 0, 1) := by decide +kernel
theorem dX4_setNeeds_33 : decode cX4_setNeeds 33 = .ok (.getfield 19, 3) := by decide +kernel
theorem dX4_setNeeds_36 : decode cX4_setNeeds 36 = .ok (.iload_n 1, 1) := by decide +kernel
theorem dX4_setNeeds_37 : decode cX4_setNeeds 37 = .ok (.invokevirtual 93, 3) := by decide +kernel
theorem dX4_setNeeds_40 : decode cX4_setNeeds 40 = .ok (.iload_n 2, 1) := by decide +kernel
theorem dX4_setNeeds_41 : decode cX4_setNeeds 41 = .ok (.invokestatic 96, 3) := by decide +kernel
theorem dX4_setNeeds_44 : decode cX4_setNeeds 44 = .ok (.ifCond .eq 13, 3) := by decide +kernel
theorem dX4_setNeeds_47 : decode cX4_setNeeds 47 = .ok (.new 57, 3) := by decide +kernel
theorem dX4_setNeeds_50 : decode cX4_setNeeds 50 = .ok (.dup, 1) := by decide +kernel
theorem dX4_setNeeds_51 : decode cX4_setNeeds 51 = .ok (.ldc 100, 2) := by decide +kernel
theorem dX4_setNeeds_53 : decode cX4_setNeeds 53 = .ok (.invokespecial 61, 3) := by decide +kernel
theorem dX4_setNeeds_56 : decode cX4_setNeeds 56 = .ok (.athrow, 1) := by decide +kernel
theorem dX4_setNeeds_57 : decode cX4_setNeeds 57 = .ok (.aload_n 0, 1) := by decide +kernel
theorem dX4_setNeeds_58 : decode cX4_setNeeds 58 = .ok (.getfield 19, 3) := by decide +kernel
theorem dX4_setNeeds_61 : decode cX4_setNeeds 61 = .ok (.iload_n 1, 1) := by decide +kernel
theorem dX4_setNeeds_62 : decode cX4_setNeeds 62 = .ok (.invokevirtual 102, 3) := by decide +kernel
theorem dX4_setNeeds_65 : decode cX4_setNeeds 65 = .ok (.iload_n 2, 1) := by decide +kernel
theorem dX4_setNeeds_66 : decode cX4_setNeeds 66 = .ok (.invokestatic 96, 3) := by decide +kernel
theorem dX4_setNeeds_69 : decode cX4_setNeeds 69 = .ok (.istore 4, 2) := by decide +kernel
theorem dX4_setNeeds_71 : decode cX4_setNeeds 71 = .ok (.aload_n 0, 1) := by decide +kernel
theorem dX4_setNeeds_72 : decode cX4_setNeeds 72 = .ok (.getfield 19, 3) := by decide +kernel
theorem dX4_setNeeds_75 : decode cX4_setNeeds 75 = .ok (.iload_n 1, 1) := by decide +kernel
theorem dX4_setNeeds_76 : decode cX4_setNeeds 76 = .ok (.aload_n 0, 1) := by decide +kernel
theorem dX4_setNeeds_77 : decode cX4_setNeeds 77 = .ok (.getfield 19, 3) := by decide +kernel
theorem dX4_setNeeds_80 : decode cX4_setNeeds 80 = .ok (.iload_n 1, 1) := by decide +kernel
theorem dX4_setNeeds_81 : decode cX4_setNeeds 81 = .ok (.invokevirtual 102, 3) := by decide +kernel
theorem dX4_setNeeds_84 : decode cX4_setNeeds 84 = .ok (.iload_n 2, 1) := by decide +kernel
theorem dX4_setNeeds_85 : decode cX4_setNeeds 85 = .ok (.iload_n 3, 1) := by decide +kernel
theorem dX4_setNeeds_86 : decode cX4_setNeeds 86 = .ok (.invokestatic 105, 3) := by decide +kernel
theorem dX4_setNeeds_89 : decode cX4_setNeeds 89 = .ok (.invokevirtual 109, 3) := by decide +kernel
theorem dX4_setNeeds_92 : decode cX4_setNeeds 92 = .ok (.iload 4, 2) := by decide +kernel
theorem dX4_setNeeds_94 : decode cX4_setNeeds 94 = .ok (.ireturn, 1) := by decide +kernel
set_option maxRecDepth 20000 in
theorem ggX4_setSpares_X1_hasRule : GoodIn wsX4_setSpares wsX1_hasRule := goodIn_r _ [10, 11, 44, 45, 46] (by decide +kernel) (by decide +kernel)
set_option maxRecDepth 20000 in
theorem gX4_setSpares_X1_hasRule : GoodIn wsX4_setSpares (wsV RX4 88 RX1 yX1_hasRule wsX1_hasRule) := goodIn_app (goodIn_of _ (by decide +kernel)) ggX4_setSpares_X1_hasRule
set_option maxRecDepth 20000 in
theorem ggX4_setSpares_X4_isKind : GoodIn wsX4_setSpares wsX4_isKind := goodIn_r _ [15] (by decide +kernel) (by decide +kernel)
set_option maxRecDepth 20000 in
theorem gX4_setSpares_X4_isKind : GoodIn wsX4_setSpares (va_wsS RX4 42 yX4_isKind wsX4_isKind) := goodIn_app (goodIn_of _ (by decide +kernel)) ggX4_setSpares_X4_isKind
set_option maxRecDepth 20000 in
theorem ggX4_setSpares_X1_neededBy : GoodIn wsX4_setSpares wsX1_neededBy := goodIn_r _ [19, 20, 21, 7, 8, 9, 10, 11, 44, 45, 46] (by decide +kernel) (by decide +kernel)
set_option maxRecDepth 20000 in
theorem gX4_setSpares_X1_neededBy : GoodIn wsX4_setSpares (wsV RX4 102 RX1 yX1_neededBy wsX1_neededBy) := goodIn_app (goodIn_of _ (by decide +kernel)) ggX4_setSpares_X1_neededBy
set_option maxRecDepth 20000 in
theorem ggX4_setSpares_X4_hasBit : GoodIn wsX4_setSpares wsX4_hasBit := goodIn_r _ [24] (by decide +kernel) (by decide +kernel)
set_option maxRecDepth 20000 in
theorem gX4_setSpares_X4_hasBit : GoodIn wsX4_setSpares (va_wsS RX4 96 yX4_hasBit wsX4_hasBit) := goodIn_app (goodIn_of _ (by decide +kernel)) ggX4_setSpares_X4_hasBit
set_option maxRecDepth 20000 in
theorem ggX4_setSpares_X1_sparedBy : GoodIn wsX4_setSpares wsX1_sparedBy := goodIn_r _ [28, 29, 21, 7, 8, 9, 10, 11, 44, 45, 46] (by decide +kernel) (by decide +kernel)
set_option maxRecDepth 20000 in
theorem gX4_setSpares_X1_sparedBy : GoodIn wsX4_setSpares (wsV RX4 93 RX1 yX1_sparedBy wsX1_sparedBy) := goodIn_app (goodIn_of _ (by decide +kernel)) ggX4_setSpares_X1_sparedBy
set_option maxRecDepth 20000 in
theorem ggX4_setSpares_X4_withBit : GoodIn wsX4_setSpares wsX4_withBit := goodIn_r _ [32] (by decide +kernel) (by decide +kernel)
set_option maxRecDepth 20000 in
theorem gX4_setSpares_X4_withBit : GoodIn wsX4_setSpares (va_wsS RX4 105 yX4_withBit wsX4_withBit) := goodIn_app (goodIn_of _ (by decide +kernel)) ggX4_setSpares_X4_withBit
set_option maxRecDepth 20000 in
theorem ggX4_setSpares_X1_putSpared : GoodIn wsX4_setSpares wsX1_putSpared := goodIn_r _ [36, 29, 21, 7, 8, 9, 10, 11, 44, 45, 46] (by decide +kernel) (by decide +kernel)
set_option maxRecDepth 20000 in
theorem gX4_setSpares_X1_putSpared : GoodIn wsX4_setSpares (wsV RX4 115 RX1 yX1_putSpared wsX1_putSpared) := goodIn_app (goodIn_of _ (by decide +kernel)) ggX4_setSpares_X1_putSpared
theorem dX4_setSpares_0 : decode cX4_setSpares 0 = .ok (.aload_n 0, 1) := by decide +kernel
theorem dX4_setSpares_1 : decode cX4_setSpares 1 = .ok (.getfield 19, 3) := by decide +kernel
theorem dX4_setSpares_4 : decode cX4_setSpares 4 = .ok (.iload_n 1, 1) := by decide +kernel
theorem dX4_setSpares_5 : decode cX4_setSpares 5 = .ok (.invokevirtual 88, 3) := by decide +kernel
theorem dX4_setSpares_8 : decode cX4_setSpares 8 = .ok (.ifCond .eq 10, 3) := by decide +kernel
theorem dX4_setSpares_11 : decode cX4_setSpares 11 = .ok (.iload_n 2, 1) := by decide +kernel
theorem dX4_setSpares_12 : decode cX4_setSpares 12 = .ok (.invokestatic 42, 3) := by decide +kernel
theorem dX4_setSpares_15 : decode cX4_setSpares 15 = .ok (.ifCond .ne 13, 3) := by decide +kernel
theorem dX4_setSpares_18 : decode cX4_setSpares 18 = .ok (.new 46, 3) := by decide +kernel
theorem dX4_setSpares_21 : decode cX4_setSpares 21 = .ok (.dup, 1) := by decide +kernel
theorem dX4_setSpares_22 : decode cX4_setSpares 22 = .ok (.ldc 91, 2) := by decide +kernel
theorem dX4_setSpares_24 : decode cX4_setSpares 24 = .ok (.invokespecial 50, 3) := by decide +kernel
theorem dX4_setSpares_27 : decode cX4_setSpares 27 = .ok (.athrow, 1) := by decide +kernel
theorem dX4_setSpares_28 : decode cX4_setSpares 28 = .ok (.iload_n 3, 1) := by decide +kernel
theorem dX4_setSpares_29 : decode cX4_setSpares 29 = .ok (.ifCond .eq 28, 3) := by decide +kernel
theorem dX4_setSpares_32 : decode cX4_setSpares 32 = .ok (.aload_n 0, 1) := by decide +kernel
theorem dX4_setSpares_33 : decode cX4_setSpares 33 = .ok (.getfield 19, 3) := by decide +kernel
theorem dX4_setSpares_36 : decode cX4_setSpares 36 = .ok (.iload_n 1, 1) := by decide +kernel
theorem dX4_setSpares_37 : decode cX4_setSpares 37 = .ok (.invokevirtual 102, 3) := by decide +kernel
theorem dX4_setSpares_40 : decode cX4_setSpares 40 = .ok (.iload_n 2, 1) := by decide +kernel
theorem dX4_setSpares_41 : decode cX4_setSpares 41 = .ok (.invokestatic 96, 3) := by decide +kernel
theorem dX4_setSpares_44 : decode cX4_setSpares 44 = .ok (.ifCond .eq 13, 3) := by decide +kernel
theorem dX4_setSpares_47 : decode cX4_setSpares 47 = .ok (.new 57, 3) := by decide +kernel
theorem dX4_setSpares_50 : decode cX4_setSpares 50 = .ok (.dup, 1) := by decide +kernel
theorem dX4_setSpares_51 : decode cX4_setSpares 51 = .ok (.ldc 113, 2) := by decide +kernel
theorem dX4_setSpares_53 : decode cX4_setSpares 53 = .ok (.invokespecial 61, 3) := by decide +kernel
theorem dX4_setSpares_56 : decode cX4_setSpares 56 = .ok (.athrow, 1) := by decide +kernel
theorem dX4_setSpares_57 : decode cX4_setSpares 57 = .ok (.aload_n 0, 1) := by decide +kernel
theorem dX4_setSpares_58 : decode cX4_setSpares 58 = .ok (.getfield 19, 3) := by decide +kernel
theorem dX4_setSpares_61 : decode cX4_setSpares 61 = .ok (.iload_n 1, 1) := by decide +kernel
theorem dX4_setSpares_62 : decode cX4_setSpares 62 = .ok (.invokevirtual 93, 3) := by decide +kernel
theorem dX4_setSpares_65 : decode cX4_setSpares 65 = .ok (.iload_n 2, 1) := by decide +kernel
theorem dX4_setSpares_66 : decode cX4_setSpares 66 = .ok (.invokestatic 96, 3) := by decide +kernel
theorem dX4_setSpares_69 : decode cX4_setSpares 69 = .ok (.istore 4, 2) := by decide +kernel
theorem dX4_setSpares_71 : decode cX4_setSpares 71 = .ok (.aload_n 0, 1) := by decide +kernel
theorem dX4_setSpares_72 : decode cX4_setSpares 72 = .ok (.getfield 19, 3) := by decide +kernel
theorem dX4_setSpares_75 : decode cX4_setSpares 75 = .ok (.iload_n 1, 1) := by decide +kernel
theorem dX4_setSpares_76 : decode cX4_setSpares 76 = .ok (.aload_n 0, 1) := by decide +kernel
theorem dX4_setSpares_77 : decode cX4_setSpares 77 = .ok (.getfield 19, 3) := by decide +kernel
theorem dX4_setSpares_80 : decode cX4_setSpares 80 = .ok (.iload_n 1, 1) := by decide +kernel
theorem dX4_setSpares_81 : decode cX4_setSpares 81 = .ok (.invokevirtual 93, 3) := by decide +kernel
theorem dX4_setSpares_84 : decode cX4_setSpares 84 = .ok (.iload_n 2, 1) := by decide +kernel
theorem dX4_setSpares_85 : decode cX4_setSpares 85 = .ok (.iload_n 3, 1) := by decide +kernel
theorem dX4_setSpares_86 : decode cX4_setSpares 86 = .ok (.invokestatic 105, 3) := by decide +kernel
theorem dX4_setSpares_89 : decode cX4_setSpares 89 = .ok (.invokevirtual 115, 3) := by decide +kernel
theorem dX4_setSpares_92 : decode cX4_setSpares 92 = .ok (.iload 4, 2) := by decide +kernel
theorem dX4_setSpares_94 : decode cX4_setSpares 94 = .ok (.ireturn, 1) := by decide +kernel
set_option maxRecDepth 20000 in
theorem ggX4_told_X1_hasRule : GoodIn wsX4_told wsX1_hasRule := goodIn_r _ [8, 9, 57, 58, 59] (by decide +kernel) (by decide +kernel)
set_option maxRecDepth 20000 in
theorem gX4_told_X1_hasRule : GoodIn wsX4_told (wsV RX4 88 RX1 yX1_hasRule wsX1_hasRule) := goodIn_app (goodIn_of _ (by decide +kernel)) ggX4_told_X1_hasRule
set_option maxRecDepth 20000 in
theorem ggX4_told_X4_ruleFact : GoodIn wsX4_told wsX4_ruleFact := goodIn_r _ [14, 3, 15, 16, 17, 18, 19, 7, 20, 21, 22, 5, 6, 8, 9, 23, 24, 25, 26, 27, 28, 29, 30, 31, 32, 33, 34, 35, 36, 37, 38, 39, 40, 41, 42, 43, 44, 45, 46, 47, 48, 49, 50, 51, 52, 53, 54, 55, 56, 57, 58, 59, 60, 61] (by decide +kernel) (by decide +kernel)
set_option maxRecDepth 20000 in
theorem gX4_told_X4_ruleFact : GoodIn wsX4_told (wsV RX4 120 RX4 yX4_ruleFact wsX4_ruleFact) := goodIn_app (goodIn_of _ (by decide +kernel)) ggX4_told_X4_ruleFact
theorem dX4_told_0 : decode cX4_told 0 = .ok (.aload_n 0, 1) := by decide +kernel
theorem dX4_told_1 : decode cX4_told 1 = .ok (.getfield 19, 3) := by decide +kernel
theorem dX4_told_4 : decode cX4_told 4 = .ok (.iload_n 1, 1) := by decide +kernel
theorem dX4_told_5 : decode cX4_told 5 = .ok (.invokevirtual 88, 3) := by decide +kernel
theorem dX4_told_8 : decode cX4_told 8 = .ok (.ifCond .eq 12, 3) := by decide +kernel
theorem dX4_told_11 : decode cX4_told 11 = .ok (.iload_n 2, 1) := by decide +kernel
theorem dX4_told_12 : decode cX4_told 12 = .ok (.ifCond .lt 8, 3) := by decide +kernel
theorem dX4_told_15 : decode cX4_told 15 = .ok (.iload_n 2, 1) := by decide +kernel
theorem dX4_told_16 : decode cX4_told 16 = .ok (.iconst 5, 1) := by decide +kernel
theorem dX4_told_17 : decode cX4_told 17 = .ok (.if_icmp .lt 13, 3) := by decide +kernel
theorem dX4_told_20 : decode cX4_told 20 = .ok (.new 46, 3) := by decide +kernel
theorem dX4_told_23 : decode cX4_told 23 = .ok (.dup, 1) := by decide +kernel
theorem dX4_told_24 : decode cX4_told 24 = .ok (.ldc 118, 2) := by decide +kernel
theorem dX4_told_26 : decode cX4_told 26 = .ok (.invokespecial 50, 3) := by decide +kernel
theorem dX4_told_29 : decode cX4_told 29 = .ok (.athrow, 1) := by decide +kernel
theorem dX4_told_30 : decode cX4_told 30 = .ok (.aload_n 0, 1) := by decide +kernel
theorem dX4_told_31 : decode cX4_told 31 = .ok (.iload_n 1, 1) := by decide +kernel
theorem dX4_told_32 : decode cX4_told 32 = .ok (.iload_n 2, 1) := by decide +kernel
theorem dX4_told_33 : decode cX4_told 33 = .ok (.invokevirtual 120, 3) := by decide +kernel
theorem dX4_told_36 : decode cX4_told 36 = .ok (.ireturn, 1) := by decide +kernel
set_option maxRecDepth 20000 in
theorem ggX4_spoils_X0_hasDish : GoodIn wsX4_spoils wsX0_hasDish := goodIn_r _ [8, 9, 40, 41] (by decide +kernel) (by decide +kernel)
set_option maxRecDepth 20000 in
theorem gX4_spoils_X0_hasDish : GoodIn wsX4_spoils (wsV RX4 124 RX0 yX0_hasDish wsX0_hasDish) := goodIn_app (goodIn_of _ (by decide +kernel)) ggX4_spoils_X0_hasDish
set_option maxRecDepth 20000 in
theorem ggX4_spoils_X4_isSpoiled : GoodIn wsX4_spoils wsX4_isSpoiled := goodIn_r _ [14, 15, 3, 16, 17, 18, 7, 19, 9, 20, 21, 22, 23, 24, 25, 26, 27, 28, 29, 30, 31, 32, 33, 34, 35, 36, 37, 38, 39, 40, 41, 42, 43, 44] (by decide +kernel) (by decide +kernel)
set_option maxRecDepth 20000 in
theorem gX4_spoils_X4_isSpoiled : GoodIn wsX4_spoils (wsV RX4 132 RX4 yX4_isSpoiled wsX4_isSpoiled) := goodIn_app (goodIn_of _ (by decide +kernel)) ggX4_spoils_X4_isSpoiled
theorem dX4_spoils_0 : decode cX4_spoils 0 = .ok (.aload_n 0, 1) := by decide +kernel
theorem dX4_spoils_1 : decode cX4_spoils 1 = .ok (.getfield 10, 3) := by decide +kernel
theorem dX4_spoils_4 : decode cX4_spoils 4 = .ok (.iload_n 1, 1) := by decide +kernel
theorem dX4_spoils_5 : decode cX4_spoils 5 = .ok (.invokevirtual 124, 3) := by decide +kernel
theorem dX4_spoils_8 : decode cX4_spoils 8 = .ok (.ifCond .ne 13, 3) := by decide +kernel
theorem dX4_spoils_11 : decode cX4_spoils 11 = .ok (.new 127, 3) := by decide +kernel
theorem dX4_spoils_14 : decode cX4_spoils 14 = .ok (.dup, 1) := by decide +kernel
theorem dX4_spoils_15 : decode cX4_spoils 15 = .ok (.ldc 129, 2) := by decide +kernel
theorem dX4_spoils_17 : decode cX4_spoils 17 = .ok (.invokespecial 131, 3) := by decide +kernel
theorem dX4_spoils_20 : decode cX4_spoils 20 = .ok (.athrow, 1) := by decide +kernel
theorem dX4_spoils_21 : decode cX4_spoils 21 = .ok (.aload_n 0, 1) := by decide +kernel
theorem dX4_spoils_22 : decode cX4_spoils 22 = .ok (.iload_n 1, 1) := by decide +kernel
theorem dX4_spoils_23 : decode cX4_spoils 23 = .ok (.invokevirtual 132, 3) := by decide +kernel
theorem dX4_spoils_26 : decode cX4_spoils 26 = .ok (.ireturn, 1) := by decide +kernel
set_option maxRecDepth 20000 in
theorem ggX4_shrink_X0_wholeDish : GoodIn wsX4_shrink wsX0_wholeDish := goodIn_r _ [10, 11, 121, 122] (by decide +kernel) (by decide +kernel)
set_option maxRecDepth 20000 in
theorem gX4_shrink_X0_wholeDish : GoodIn wsX4_shrink (wsV RX4 135 RX0 yX0_wholeDish wsX0_wholeDish) := goodIn_app (goodIn_of _ (by decide +kernel)) ggX4_shrink_X0_wholeDish
set_option maxRecDepth 20000 in
theorem ggX4_shrink_X2_goByHalves : GoodIn wsX4_shrink wsX2_goByHalves := goodIn_r _ [16, 17, 18, 19, 20, 15, 21, 22, 23, 24, 25, 26, 27, 28, 29, 30, 31, 32, 33, 34, 35, 36, 37, 38, 39, 40, 41, 42, 43, 44, 45, 46, 9, 47, 11, 48, 49, 50, 51, 52, 53, 54, 55, 56, 57, 58, 59, 60, 61, 62, 63, 64, 65, 66, 67, 68, 69, 70, 71, 72, 73, 74, 75, 76, 77, 78, 79, 80, 81, 82, 83, 84, 85, 86, 87, 88, 89, 90, 91, 92, 93, 94, 95, 96, 97, 98, 99, 100, 101, 102, 103, 104, 123, 124, 125, 126, 127, 128, 129, 130, 131, 132, 133, 121, 122, 134, 135, 136] (by decide +kernel) (by decide +kernel)
set_option maxRecDepth 20000 in
theorem gX4_shrink_X2_goByHalves : GoodIn wsX4_shrink (wsV RX4 138 RX2 yX2_goByHalves wsX2_goByHalves) := goodIn_app (goodIn_of _ (by decide +kernel)) ggX4_shrink_X2_goByHalves
set_option maxRecDepth 20000 in
theorem ggX4_shrink_X2_list : GoodIn wsX4_shrink wsX2_list := goodIn_r _ [108, 22, 123, 124, 125, 126, 127, 128] (by decide +kernel) (by decide +kernel)
set_option maxRecDepth 20000 in
theorem gX4_shrink_X2_list : GoodIn wsX4_shrink (wsV RX4 142 RX2 yX2_list wsX2_list) := goodIn_app (goodIn_of _ (by decide +kernel)) ggX4_shrink_X2_list
set_option maxRecDepth 20000 in
theorem ggX4_shrink_X0_kindsOf : GoodIn wsX4_shrink wsX0_kindsOf := goodIn_r _ [47, 11, 48, 121, 122] (by decide +kernel) (by decide +kernel)
set_option maxRecDepth 20000 in
theorem gX4_shrink_X0_kindsOf : GoodIn wsX4_shrink (wsV RX4 145 RX0 yX0_kindsOf wsX0_kindsOf) := goodIn_app (goodIn_of _ (by decide +kernel)) ggX4_shrink_X0_kindsOf
set_option maxRecDepth 20000 in
theorem ggX4_shrink_X2_tastings : GoodIn wsX4_shrink wsX2_tastings := goodIn_r _ [113, 17, 123, 124, 125, 126, 127, 128] (by decide +kernel) (by decide +kernel)
set_option maxRecDepth 20000 in
theorem gX4_shrink_X2_tastings : GoodIn wsX4_shrink (wsV RX4 155 RX2 yX2_tastings wsX2_tastings) := goodIn_app (goodIn_of _ (by decide +kernel)) ggX4_shrink_X2_tastings
theorem dX4_shrink_0 : decode cX4_shrink 0 = .ok (.aload_n 0, 1) := by decide +kernel
theorem dX4_shrink_1 : decode cX4_shrink 1 = .ok (.getfield 35, 3) := by decide +kernel
theorem dX4_shrink_4 : decode cX4_shrink 4 = .ok (.aload_n 0, 1) := by decide +kernel
theorem dX4_shrink_5 : decode cX4_shrink 5 = .ok (.getfield 28, 3) := by decide +kernel
theorem dX4_shrink_8 : decode cX4_shrink 8 = .ok (.aload_n 0, 1) := by decide +kernel
theorem dX4_shrink_9 : decode cX4_shrink 9 = .ok (.getfield 10, 3) := by decide +kernel
theorem dX4_shrink_12 : decode cX4_shrink 12 = .ok (.invokevirtual 135, 3) := by decide +kernel
theorem dX4_shrink_15 : decode cX4_shrink 15 = .ok (.invokevirtual 138, 3) := by decide +kernel
theorem dX4_shrink_18 : decode cX4_shrink 18 = .ok (.aload_n 0, 1) := by decide +kernel
theorem dX4_shrink_19 : decode cX4_shrink 19 = .ok (.aload_n 0, 1) := by decide +kernel
theorem dX4_shrink_20 : decode cX4_shrink 20 = .ok (.getfield 10, 3) := by decide +kernel
theorem dX4_shrink_23 : decode cX4_shrink 23 = .ok (.aload_n 0, 1) := by decide +kernel
theorem dX4_shrink_24 : decode cX4_shrink 24 = .ok (.getfield 35, 3) := by decide +kernel
theorem dX4_shrink_27 : decode cX4_shrink 27 = .ok (.invokevirtual 142, 3) := by decide +kernel
theorem dX4_shrink_30 : decode cX4_shrink 30 = .ok (.invokevirtual 145, 3) := by decide +kernel
theorem dX4_shrink_33 : decode cX4_shrink 33 = .ok (.putfield 148, 3) := by decide +kernel
theorem dX4_shrink_36 : decode cX4_shrink 36 = .ok (.aload_n 0, 1) := by decide +kernel
theorem dX4_shrink_37 : decode cX4_shrink 37 = .ok (.dup, 1) := by decide +kernel
theorem dX4_shrink_38 : decode cX4_shrink 38 = .ok (.getfield 152, 3) := by decide +kernel
theorem dX4_shrink_41 : decode cX4_shrink 41 = .ok (.aload_n 0, 1) := by decide +kernel
theorem dX4_shrink_42 : decode cX4_shrink 42 = .ok (.getfield 35, 3) := by decide +kernel
theorem dX4_shrink_45 : decode cX4_shrink 45 = .ok (.invokevirtual 155, 3) := by decide +kernel
theorem dX4_shrink_48 : decode cX4_shrink 48 = .ok (.iadd, 1) := by decide +kernel
theorem dX4_shrink_49 : decode cX4_shrink 49 = .ok (.putfield 152, 3) := by decide +kernel
theorem dX4_shrink_52 : decode cX4_shrink 52 = .ok (.aload_n 0, 1) := by decide +kernel
theorem dX4_shrink_53 : decode cX4_shrink 53 = .ok (.getfield 35, 3) := by decide +kernel
theorem dX4_shrink_56 : decode cX4_shrink 56 = .ok (.invokevirtual 155, 3) := by decide +kernel
theorem dX4_shrink_59 : decode cX4_shrink 59 = .ok (.ireturn, 1) := by decide +kernel
set_option maxRecDepth 20000 in
theorem ggX4_kept_X2_listSize : GoodIn wsX4_kept wsX2_listSize := goodIn_r _ [8, 9, 10, 11, 12, 13, 14, 15, 16, 28, 29, 30, 31, 32, 33] (by decide +kernel) (by decide +kernel)
set_option maxRecDepth 20000 in
theorem gX4_kept_X2_listSize : GoodIn wsX4_kept (wsV RX4 158 RX2 yX2_listSize wsX2_listSize) := goodIn_app (goodIn_of _ (by decide +kernel)) ggX4_kept_X2_listSize
set_option maxRecDepth 20000 in
theorem ggX4_kept_X2_listPlace : GoodIn wsX4_kept wsX2_listPlace := goodIn_r _ [20, 9, 28, 29, 30, 31, 32, 33] (by decide +kernel) (by decide +kernel)
set_option maxRecDepth 20000 in
theorem gX4_kept_X2_listPlace : GoodIn wsX4_kept (wsV RX4 163 RX2 yX2_listPlace wsX2_listPlace) := goodIn_app (goodIn_of _ (by decide +kernel)) ggX4_kept_X2_listPlace
theorem dX4_kept_0 : decode cX4_kept 0 = .ok (.iload_n 1, 1) := by decide +kernel
theorem dX4_kept_1 : decode cX4_kept 1 = .ok (.ifCond .lt 14, 3) := by decide +kernel
theorem dX4_kept_4 : decode cX4_kept 4 = .ok (.iload_n 1, 1) := by decide +kernel
theorem dX4_kept_5 : decode cX4_kept 5 = .ok (.aload_n 0, 1) := by decide +kernel
theorem dX4_kept_6 : decode cX4_kept 6 = .ok (.getfield 35, 3) := by decide +kernel
theorem dX4_kept_9 : decode cX4_kept 9 = .ok (.invokevirtual 158, 3) := by decide +kernel
theorem dX4_kept_12 : decode cX4_kept 12 = .ok (.if_icmp .lt 13, 3) := by decide +kernel
theorem dX4_kept_15 : decode cX4_kept 15 = .ok (.new 46, 3) := by decide +kernel
theorem dX4_kept_18 : decode cX4_kept 18 = .ok (.dup, 1) := by decide +kernel
theorem dX4_kept_19 : decode cX4_kept 19 = .ok (.ldc 161, 2) := by decide +kernel
theorem dX4_kept_21 : decode cX4_kept 21 = .ok (.invokespecial 50, 3) := by decide +kernel
theorem dX4_kept_24 : decode cX4_kept 24 = .ok (.athrow, 1) := by decide +kernel
theorem dX4_kept_25 : decode cX4_kept 25 = .ok (.aload_n 0, 1) := by decide +kernel
theorem dX4_kept_26 : decode cX4_kept 26 = .ok (.getfield 35, 3) := by decide +kernel
theorem dX4_kept_29 : decode cX4_kept 29 = .ok (.iload_n 1, 1) := by decide +kernel
theorem dX4_kept_30 : decode cX4_kept 30 = .ok (.invokevirtual 163, 3) := by decide +kernel
theorem dX4_kept_33 : decode cX4_kept 33 = .ok (.ireturn, 1) := by decide +kernel
set_option maxRecDepth 20000 in
theorem ggX4_step_X2_steps : GoodIn wsX4_step wsX2_steps := goodIn_r _ [8, 9, 22, 23, 24, 25, 26, 27] (by decide +kernel) (by decide +kernel)
set_option maxRecDepth 20000 in
theorem gX4_step_X2_steps : GoodIn wsX4_step (wsV RX4 166 RX2 yX2_steps wsX2_steps) := goodIn_app (goodIn_of _ (by decide +kernel)) ggX4_step_X2_steps
set_option maxRecDepth 20000 in
theorem ggX4_step_X2_stepFact : GoodIn wsX4_step wsX2_stepFact := goodIn_r _ [13, 9, 14, 22, 23, 24, 25, 26, 27] (by decide +kernel) (by decide +kernel)
set_option maxRecDepth 20000 in
theorem gX4_step_X2_stepFact : GoodIn wsX4_step (wsV RX4 171 RX2 yX2_stepFact wsX2_stepFact) := goodIn_app (goodIn_of _ (by decide +kernel)) ggX4_step_X2_stepFact
theorem dX4_step_0 : decode cX4_step 0 = .ok (.iload_n 1, 1) := by decide +kernel
theorem dX4_step_1 : decode cX4_step 1 = .ok (.ifCond .lt 23, 3) := by decide +kernel
theorem dX4_step_4 : decode cX4_step 4 = .ok (.iload_n 1, 1) := by decide +kernel
theorem dX4_step_5 : decode cX4_step 5 = .ok (.aload_n 0, 1) := by decide +kernel
theorem dX4_step_6 : decode cX4_step 6 = .ok (.getfield 35, 3) := by decide +kernel
theorem dX4_step_9 : decode cX4_step 9 = .ok (.invokevirtual 166, 3) := by decide +kernel
theorem dX4_step_12 : decode cX4_step 12 = .ok (.if_icmp .ge 12, 3) := by decide +kernel
theorem dX4_step_15 : decode cX4_step 15 = .ok (.iload_n 2, 1) := by decide +kernel
theorem dX4_step_16 : decode cX4_step 16 = .ok (.ifCond .lt 8, 3) := by decide +kernel
theorem dX4_step_19 : decode cX4_step 19 = .ok (.iload_n 2, 1) := by decide +kernel
theorem dX4_step_20 : decode cX4_step 20 = .ok (.iconst 5, 1) := by decide +kernel
theorem dX4_step_21 : decode cX4_step 21 = .ok (.if_icmp .lt 13, 3) := by decide +kernel
theorem dX4_step_24 : decode cX4_step 24 = .ok (.new 46, 3) := by decide +kernel
theorem dX4_step_27 : decode cX4_step 27 = .ok (.dup, 1) := by decide +kernel
theorem dX4_step_28 : decode cX4_step 28 = .ok (.ldc 169, 2) := by decide +kernel
theorem dX4_step_30 : decode cX4_step 30 = .ok (.invokespecial 50, 3) := by decide +kernel
theorem dX4_step_33 : decode cX4_step 33 = .ok (.athrow, 1) := by decide +kernel
theorem dX4_step_34 : decode cX4_step 34 = .ok (.aload_n 0, 1) := by decide +kernel
theorem dX4_step_35 : decode cX4_step 35 = .ok (.getfield 35, 3) := by decide +kernel
theorem dX4_step_38 : decode cX4_step 38 = .ok (.iload_n 1, 1) := by decide +kernel
theorem dX4_step_39 : decode cX4_step 39 = .ok (.iload_n 2, 1) := by decide +kernel
theorem dX4_step_40 : decode cX4_step 40 = .ok (.invokevirtual 171, 3) := by decide +kernel
theorem dX4_step_43 : decode cX4_step 43 = .ok (.ireturn, 1) := by decide +kernel
set_option maxRecDepth 20000 in
theorem ggX4_count_X4_countFact : GoodIn wsX4_count wsX4_countFact := goodIn_r _ [7, 8, 9, 10, 11, 12, 13, 14, 15, 16, 17, 18, 19, 20, 21, 22, 23, 24, 25, 26, 27, 28, 29, 30, 31, 32, 33, 34, 35, 36, 37, 38, 39, 40, 41, 42, 43, 44, 45, 46, 47, 48, 49, 50, 51, 52, 53, 54, 55, 56, 57, 58, 59, 60, 61, 62, 63, 64, 65, 66, 67, 68, 69, 70, 71, 72, 73, 74, 75, 76, 77, 78, 79, 80, 81, 82, 83] (by decide +kernel) (by decide +kernel)
set_option maxRecDepth 20000 in
theorem gX4_count_X4_countFact : GoodIn wsX4_count (wsV RX4 176 RX4 yX4_countFact wsX4_countFact) := goodIn_app (goodIn_of _ (by decide +kernel)) ggX4_count_X4_countFact
theorem dX4_count_0 : decode cX4_count 0 = .ok (.iload_n 1, 1) := by decide +kernel
theorem dX4_count_1 : decode cX4_count 1 = .ok (.ifCond .lt 9, 3) := by decide +kernel
theorem dX4_count_4 : decode cX4_count 4 = .ok (.iload_n 1, 1) := by decide +kernel
theorem dX4_count_5 : decode cX4_count 5 = .ok (.bipush 7, 2) := by decide +kernel
theorem dX4_count_7 : decode cX4_count 7 = .ok (.if_icmp .lt 13, 3) := by decide +kernel
theorem dX4_count_10 : decode cX4_count 10 = .ok (.new 46, 3) := by decide +kernel
theorem dX4_count_13 : decode cX4_count 13 = .ok (.dup, 1) := by decide +kernel
theorem dX4_count_14 : decode cX4_count 14 = .ok (.ldc 174, 2) := by decide +kernel
theorem dX4_count_16 : decode cX4_count 16 = .ok (.invokespecial 50, 3) := by decide +kernel
theorem dX4_count_19 : decode cX4_count 19 = .ok (.athrow, 1) := by decide +kernel
theorem dX4_count_20 : decode cX4_count 20 = .ok (.aload_n 0, 1) := by decide +kernel
theorem dX4_count_21 : decode cX4_count 21 = .ok (.iload_n 1, 1) := by decide +kernel
theorem dX4_count_22 : decode cX4_count 22 = .ok (.invokevirtual 176, 3) := by decide +kernel
theorem dX4_count_25 : decode cX4_count 25 = .ok (.ireturn, 1) := by decide +kernel
set_option maxRecDepth 20000 in
theorem ggX4_would_X0_wholeDish : GoodIn wsX4_would wsX0_wholeDish := goodIn_r _ [10, 11, 128, 129] (by decide +kernel) (by decide +kernel)
set_option maxRecDepth 20000 in
theorem gX4_would_X0_wholeDish : GoodIn wsX4_would (wsV RX4 135 RX0 yX0_wholeDish wsX0_wholeDish) := goodIn_app (goodIn_of _ (by decide +kernel)) ggX4_would_X0_wholeDish
set_option maxRecDepth 20000 in
theorem ggX4_would_X2_goByHalves : GoodIn wsX4_would wsX2_goByHalves := goodIn_r _ [16, 17, 18, 19, 20, 15, 21, 22, 23, 24, 25, 26, 27, 28, 29, 30, 31, 32, 33, 34, 35, 36, 37, 38, 39, 40, 41, 42, 43, 44, 45, 46, 9, 47, 11, 48, 49, 50, 51, 52, 53, 54, 55, 56, 57, 58, 59, 60, 61, 62, 63, 64, 65, 66, 67, 68, 69, 70, 71, 72, 73, 74, 75, 76, 77, 78, 79, 80, 81, 82, 83, 84, 85, 86, 87, 88, 89, 90, 91, 92, 93, 94, 95, 96, 97, 98, 99, 100, 101, 102, 103, 104, 130, 131, 132, 133, 134, 135, 136, 137, 138, 139, 140, 128, 129, 141, 142, 143] (by decide +kernel) (by decide +kernel)
set_option maxRecDepth 20000 in
theorem gX4_would_X2_goByHalves : GoodIn wsX4_would (wsV RX4 138 RX2 yX2_goByHalves wsX2_goByHalves) := goodIn_app (goodIn_of _ (by decide +kernel)) ggX4_would_X2_goByHalves
set_option maxRecDepth 20000 in
theorem ggX4_would_X2_goOneByOne : GoodIn wsX4_would wsX2_goOneByOne := goodIn_r _ [108, 22, 17, 18, 19, 20, 15, 21, 23, 24, 25, 26, 27, 28, 29, 30, 31, 32, 33, 34, 35, 36, 37, 38, 39, 40, 41, 42, 43, 44, 45, 46, 9, 47, 11, 48, 49, 50, 51, 52, 53, 54, 55, 56, 57, 58, 59, 60, 101, 102, 103, 104, 130, 131, 132, 133, 134, 135, 136, 137, 138, 139, 140, 128, 129, 141, 142, 143] (by decide +kernel) (by decide +kernel)
set_option maxRecDepth 20000 in
theorem gX4_would_X2_goOneByOne : GoodIn wsX4_would (wsV RX4 181 RX2 yX2_goOneByOne wsX2_goOneByOne) := goodIn_app (goodIn_of _ (by decide +kernel)) ggX4_would_X2_goOneByOne
set_option maxRecDepth 20000 in
theorem ggX4_would_X2_list : GoodIn wsX4_would wsX2_list := goodIn_r _ [112, 22, 130, 131, 132, 133, 134, 135] (by decide +kernel) (by decide +kernel)
set_option maxRecDepth 20000 in
theorem gX4_would_X2_list : GoodIn wsX4_would (wsV RX4 142 RX2 yX2_list wsX2_list) := goodIn_app (goodIn_of _ (by decide +kernel)) ggX4_would_X2_list
set_option maxRecDepth 20000 in
theorem ggX4_would_X2_steps : GoodIn wsX4_would wsX2_steps := goodIn_r _ [116, 24, 130, 131, 132, 133, 134, 135] (by decide +kernel) (by decide +kernel)
set_option maxRecDepth 20000 in
theorem gX4_would_X2_steps : GoodIn wsX4_would (wsV RX4 166 RX2 yX2_steps wsX2_steps) := goodIn_app (goodIn_of _ (by decide +kernel)) ggX4_would_X2_steps
set_option maxRecDepth 20000 in
theorem ggX4_would_X2_tastings : GoodIn wsX4_would wsX2_tastings := goodIn_r _ [120, 17, 130, 131, 132, 133, 134, 135] (by decide +kernel) (by decide +kernel)
set_option maxRecDepth 20000 in
theorem gX4_would_X2_tastings : GoodIn wsX4_would (wsV RX4 155 RX2 yX2_tastings wsX2_tastings) := goodIn_app (goodIn_of _ (by decide +kernel)) ggX4_would_X2_tastings
theorem dX4_would_0 : decode cX4_would 0 = .ok (.iload_n 1, 1) := by decide +kernel
theorem dX4_would_1 : decode cX4_would 1 = .ok (.ifCond .lt 8, 3) := by decide +kernel
theorem dX4_would_4 : decode cX4_would 4 = .ok (.iload_n 1, 1) := by decide +kernel
theorem dX4_would_5 : decode cX4_would 5 = .ok (.iconst 5, 1) := by decide +kernel
theorem dX4_would_6 : decode cX4_would 6 = .ok (.if_icmp .lt 13, 3) := by decide +kernel
theorem dX4_would_9 : decode cX4_would 9 = .ok (.new 46, 3) := by decide +kernel
theorem dX4_would_12 : decode cX4_would 12 = .ok (.dup, 1) := by decide +kernel
theorem dX4_would_13 : decode cX4_would 13 = .ok (.ldc 179, 2) := by decide +kernel
theorem dX4_would_15 : decode cX4_would 15 = .ok (.invokespecial 50, 3) := by decide +kernel
theorem dX4_would_18 : decode cX4_would 18 = .ok (.athrow, 1) := by decide +kernel
theorem dX4_would_19 : decode cX4_would 19 = .ok (.iload_n 1, 1) := by decide +kernel
theorem dX4_would_20 : decode cX4_would 20 = .ok (.iconst 2, 1) := by decide +kernel
theorem dX4_would_21 : decode cX4_would 21 = .ok (.if_icmp .gt 24, 3) := by decide +kernel
theorem dX4_would_24 : decode cX4_would 24 = .ok (.aload_n 0, 1) := by decide +kernel
theorem dX4_would_25 : decode cX4_would 25 = .ok (.getfield 39, 3) := by decide +kernel
theorem dX4_would_28 : decode cX4_would 28 = .ok (.aload_n 0, 1) := by decide +kernel
theorem dX4_would_29 : decode cX4_would 29 = .ok (.getfield 28, 3) := by decide +kernel
theorem dX4_would_32 : decode cX4_would 32 = .ok (.aload_n 0, 1) := by decide +kernel
theorem dX4_would_33 : decode cX4_would 33 = .ok (.getfield 10, 3) := by decide +kernel
theorem dX4_would_36 : decode cX4_would 36 = .ok (.invokevirtual 135, 3) := by decide +kernel
theorem dX4_would_39 : decode cX4_would 39 = .ok (.invokevirtual 138, 3) := by decide +kernel
theorem dX4_would_42 : decode cX4_would 42 = .ok (.goto 21, 3) := by decide +kernel
theorem dX4_would_45 : decode cX4_would 45 = .ok (.aload_n 0, 1) := by decide +kernel
theorem dX4_would_46 : decode cX4_would 46 = .ok (.getfield 39, 3) := by decide +kernel
theorem dX4_would_49 : decode cX4_would 49 = .ok (.aload_n 0, 1) := by decide +kernel
theorem dX4_would_50 : decode cX4_would 50 = .ok (.getfield 28, 3) := by decide +kernel
theorem dX4_would_53 : decode cX4_would 53 = .ok (.aload_n 0, 1) := by decide +kernel
theorem dX4_would_54 : decode cX4_would 54 = .ok (.getfield 10, 3) := by decide +kernel
theorem dX4_would_57 : decode cX4_would 57 = .ok (.invokevirtual 135, 3) := by decide +kernel
theorem dX4_would_60 : decode cX4_would 60 = .ok (.invokevirtual 181, 3) := by decide +kernel
theorem dX4_would_63 : decode cX4_would 63 = .ok (.iload_n 1, 1) := by decide +kernel
theorem dX4_would_64 : decode cX4_would 64 = .ok (.tableswitch 48 0 3 #[32, 48, 40, 32], 32) := by decide +kernel
theorem dX4_would_96 : decode cX4_would 96 = .ok (.aload_n 0, 1) := by decide +kernel
theorem dX4_would_97 : decode cX4_would 97 = .ok (.getfield 39, 3) := by decide +kernel
theorem dX4_would_100 : decode cX4_would 100 = .ok (.invokevirtual 142, 3) := by decide +kernel
theorem dX4_would_103 : decode cX4_would 103 = .ok (.ireturn, 1) := by decide +kernel
theorem dX4_would_104 : decode cX4_would 104 = .ok (.aload_n 0, 1) := by decide +kernel
theorem dX4_would_105 : decode cX4_would 105 = .ok (.getfield 39, 3) := by decide +kernel
theorem dX4_would_108 : decode cX4_would 108 = .ok (.invokevirtual 166, 3) := by decide +kernel
theorem dX4_would_111 : decode cX4_would 111 = .ok (.ireturn, 1) := by decide +kernel
theorem dX4_would_112 : decode cX4_would 112 = .ok (.aload_n 0, 1) := by decide +kernel
theorem dX4_would_113 : decode cX4_would 113 = .ok (.getfield 39, 3) := by decide +kernel
theorem dX4_would_116 : decode cX4_would 116 = .ok (.invokevirtual 155, 3) := by decide +kernel
theorem dX4_would_119 : decode cX4_would 119 = .ok (.ireturn, 1) := by decide +kernel
set_option maxRecDepth 20000 in
theorem ggX4_least_X0_wholeDish : GoodIn wsX4_least wsX0_wholeDish := goodIn_r _ [7, 8, 35, 36] (by decide +kernel) (by decide +kernel)
set_option maxRecDepth 20000 in
theorem gX4_least_X0_wholeDish : GoodIn wsX4_least (wsV RX4 135 RX0 yX0_wholeDish wsX0_wholeDish) := goodIn_app (goodIn_of _ (by decide +kernel)) ggX4_least_X0_wholeDish
set_option maxRecDepth 20000 in
theorem ggX4_least_X0_kindsOf : GoodIn wsX4_least wsX0_kindsOf := goodIn_r _ [12, 8, 13, 35, 36] (by decide +kernel) (by decide +kernel)
set_option maxRecDepth 20000 in
theorem gX4_least_X0_kindsOf : GoodIn wsX4_least (wsV RX4 145 RX0 yX0_kindsOf wsX0_kindsOf) := goodIn_app (goodIn_of _ (by decide +kernel)) ggX4_least_X0_kindsOf
set_option maxRecDepth 20000 in
theorem ggX4_least_X1_leastNeeded : GoodIn wsX4_least wsX1_leastNeeded := goodIn_r _ [18, 19, 20, 21, 22, 23, 24, 25, 26, 27, 37, 38, 39] (by decide +kernel) (by decide +kernel)
set_option maxRecDepth 20000 in
theorem gX4_least_X1_leastNeeded : GoodIn wsX4_least (wsV RX4 184 RX1 yX1_leastNeeded wsX1_leastNeeded) := goodIn_app (goodIn_of _ (by decide +kernel)) ggX4_least_X1_leastNeeded
theorem dX4_least_0 : decode cX4_least 0 = .ok (.aload_n 0, 1) := by decide +kernel
theorem dX4_least_1 : decode cX4_least 1 = .ok (.getfield 19, 3) := by decide +kernel
theorem dX4_least_4 : decode cX4_least 4 = .ok (.aload_n 0, 1) := by decide +kernel
theorem dX4_least_5 : decode cX4_least 5 = .ok (.getfield 10, 3) := by decide +kernel
theorem dX4_least_8 : decode cX4_least 8 = .ok (.aload_n 0, 1) := by decide +kernel
theorem dX4_least_9 : decode cX4_least 9 = .ok (.getfield 10, 3) := by decide +kernel
theorem dX4_least_12 : decode cX4_least 12 = .ok (.invokevirtual 135, 3) := by decide +kernel
theorem dX4_least_15 : decode cX4_least 15 = .ok (.invokevirtual 145, 3) := by decide +kernel
theorem dX4_least_18 : decode cX4_least 18 = .ok (.invokevirtual 184, 3) := by decide +kernel
theorem dX4_least_21 : decode cX4_least 21 = .ok (.ireturn, 1) := by decide +kernel
set_option maxRecDepth 20000 in
theorem ggX4_isTight_X0_hasDish : GoodIn wsX4_isTight wsX0_hasDish := goodIn_r _ [8, 9, 46, 47] (by decide +kernel) (by decide +kernel)
set_option maxRecDepth 20000 in
theorem gX4_isTight_X0_hasDish : GoodIn wsX4_isTight (wsV RX4 124 RX0 yX0_hasDish wsX0_hasDish) := goodIn_app (goodIn_of _ (by decide +kernel)) ggX4_isTight_X0_hasDish
set_option maxRecDepth 20000 in
theorem ggX4_isTight_X4_isSpoiled : GoodIn wsX4_isTight wsX4_isSpoiled := goodIn_r _ [14, 15, 3, 16, 17, 18, 7, 19, 9, 20, 21, 22, 23, 24, 25, 26, 27, 28, 29, 30, 31, 32, 39, 40, 41, 42, 43, 44, 45, 46, 47, 48, 49, 50] (by decide +kernel) (by decide +kernel)
set_option maxRecDepth 20000 in
theorem gX4_isTight_X4_isSpoiled : GoodIn wsX4_isTight (wsV RX4 132 RX4 yX4_isSpoiled wsX4_isSpoiled) := goodIn_app (goodIn_of _ (by decide +kernel)) ggX4_isTight_X4_isSpoiled
set_option maxRecDepth 20000 in
theorem ggX4_isTight_X4_hasBit : GoodIn wsX4_isTight wsX4_hasBit := goodIn_r _ [35] (by decide +kernel) (by decide +kernel)
set_option maxRecDepth 20000 in
theorem gX4_isTight_X4_hasBit : GoodIn wsX4_isTight (va_wsS RX4 96 yX4_hasBit wsX4_hasBit) := goodIn_app (goodIn_of _ (by decide +kernel)) ggX4_isTight_X4_hasBit
set_option maxRecDepth 20000 in
theorem ggX4_isTight_X4_withBit : GoodIn wsX4_isTight wsX4_withBit := goodIn_r _ [38] (by decide +kernel) (by decide +kernel)
set_option maxRecDepth 20000 in
theorem gX4_isTight_X4_withBit : GoodIn wsX4_isTight (va_wsS RX4 105 yX4_withBit wsX4_withBit) := goodIn_app (goodIn_of _ (by decide +kernel)) ggX4_isTight_X4_withBit
theorem dX4_isTight_0 : decode cX4_isTight 0 = .ok (.aload_n 0, 1) := by decide +kernel
theorem dX4_isTight_1 : decode cX4_isTight 1 = .ok (.getfield 10, 3) := by decide +kernel
theorem dX4_isTight_4 : decode cX4_isTight 4 = .ok (.iload_n 1, 1) := by decide +kernel
theorem dX4_isTight_5 : decode cX4_isTight 5 = .ok (.invokevirtual 124, 3) := by decide +kernel
theorem dX4_isTight_8 : decode cX4_isTight 8 = .ok (.ifCond .ne 13, 3) := by decide +kernel
theorem dX4_isTight_11 : decode cX4_isTight 11 = .ok (.new 127, 3) := by decide +kernel
theorem dX4_isTight_14 : decode cX4_isTight 14 = .ok (.dup, 1) := by decide +kernel
theorem dX4_isTight_15 : decode cX4_isTight 15 = .ok (.ldc 129, 2) := by decide +kernel
theorem dX4_isTight_17 : decode cX4_isTight 17 = .ok (.invokespecial 131, 3) := by decide +kernel
theorem dX4_isTight_20 : decode cX4_isTight 20 = .ok (.athrow, 1) := by decide +kernel
theorem dX4_isTight_21 : decode cX4_isTight 21 = .ok (.aload_n 0, 1) := by decide +kernel
theorem dX4_isTight_22 : decode cX4_isTight 22 = .ok (.iload_n 1, 1) := by decide +kernel
theorem dX4_isTight_23 : decode cX4_isTight 23 = .ok (.invokevirtual 132, 3) := by decide +kernel
theorem dX4_isTight_26 : decode cX4_isTight 26 = .ok (.ifCond .ne 5, 3) := by decide +kernel
theorem dX4_isTight_29 : decode cX4_isTight 29 = .ok (.iconst 0, 1) := by decide +kernel
theorem dX4_isTight_30 : decode cX4_isTight 30 = .ok (.ireturn, 1) := by decide +kernel
theorem dX4_isTight_31 : decode cX4_isTight 31 = .ok (.iconst 0, 1) := by decide +kernel
theorem dX4_isTight_32 : decode cX4_isTight 32 = .ok (.istore_n 2, 1) := by decide +kernel
theorem dX4_isTight_33 : decode cX4_isTight 33 = .ok (.iload_n 2, 1) := by decide +kernel
theorem dX4_isTight_34 : decode cX4_isTight 34 = .ok (.bipush 24, 2) := by decide +kernel
theorem dX4_isTight_36 : decode cX4_isTight 36 = .ok (.if_icmp .ge 32, 3) := by decide +kernel
theorem dX4_isTight_39 : decode cX4_isTight 39 = .ok (.iload_n 1, 1) := by decide +kernel
theorem dX4_isTight_40 : decode cX4_isTight 40 = .ok (.iload_n 2, 1) := by decide +kernel
theorem dX4_isTight_41 : decode cX4_isTight 41 = .ok (.invokestatic 96, 3) := by decide +kernel
theorem dX4_isTight_44 : decode cX4_isTight 44 = .ok (.ifCond .eq 18, 3) := by decide +kernel
theorem dX4_isTight_47 : decode cX4_isTight 47 = .ok (.aload_n 0, 1) := by decide +kernel
theorem dX4_isTight_48 : decode cX4_isTight 48 = .ok (.iload_n 1, 1) := by decide +kernel
theorem dX4_isTight_49 : decode cX4_isTight 49 = .ok (.iload_n 2, 1) := by decide +kernel
theorem dX4_isTight_50 : decode cX4_isTight 50 = .ok (.iconst 0, 1) := by decide +kernel
theorem dX4_isTight_51 : decode cX4_isTight 51 = .ok (.invokestatic 105, 3) := by decide +kernel
theorem dX4_isTight_54 : decode cX4_isTight 54 = .ok (.invokevirtual 132, 3) := by decide +kernel
theorem dX4_isTight_57 : decode cX4_isTight 57 = .ok (.ifCond .eq 5, 3) := by decide +kernel
theorem dX4_isTight_60 : decode cX4_isTight 60 = .ok (.iconst 0, 1) := by decide +kernel
theorem dX4_isTight_61 : decode cX4_isTight 61 = .ok (.ireturn, 1) := by decide +kernel
theorem dX4_isTight_62 : decode cX4_isTight 62 = .ok (.iinc 2 1, 3) := by decide +kernel
theorem dX4_isTight_65 : decode cX4_isTight 65 = .ok (.goto (-32), 3) := by decide +kernel
theorem dX4_isTight_68 : decode cX4_isTight 68 = .ok (.iconst 1, 1) := by decide +kernel
theorem dX4_isTight_69 : decode cX4_isTight 69 = .ok (.ireturn, 1) := by decide +kernel
set_option maxRecDepth 20000 in
theorem ggX4_advise_X0_size : GoodIn wsX4_advise wsX0_size := goodIn_r _ [8, 9, 122, 123] (by decide +kernel) (by decide +kernel)
set_option maxRecDepth 20000 in
theorem gX4_advise_X0_size : GoodIn wsX4_advise (wsV RX4 66 RX0 yX0_size wsX0_size) := goodIn_app (goodIn_of _ (by decide +kernel)) ggX4_advise_X0_size
set_option maxRecDepth 20000 in
theorem ggX4_advise_X0_wholeDish : GoodIn wsX4_advise wsX0_wholeDish := goodIn_r _ [13, 9, 122, 123] (by decide +kernel) (by decide +kernel)
set_option maxRecDepth 20000 in
theorem gX4_advise_X0_wholeDish : GoodIn wsX4_advise (wsV RX4 135 RX0 yX0_wholeDish wsX0_wholeDish) := goodIn_app (goodIn_of _ (by decide +kernel)) ggX4_advise_X0_wholeDish
set_option maxRecDepth 20000 in
theorem ggX4_advise_X4_withBit : GoodIn wsX4_advise wsX4_withBit := goodIn_r _ [17] (by decide +kernel) (by decide +kernel)
set_option maxRecDepth 20000 in
theorem gX4_advise_X4_withBit : GoodIn wsX4_advise (va_wsS RX4 105 yX4_withBit wsX4_withBit) := goodIn_app (goodIn_of _ (by decide +kernel)) ggX4_advise_X4_withBit
set_option maxRecDepth 20000 in
theorem ggX4_advise_X2_goByHalves : GoodIn wsX4_advise wsX2_goByHalves := goodIn_r _ [22, 23, 24, 25, 26, 21, 27, 28, 29, 30, 31, 32, 33, 34, 35, 36, 37, 38, 39, 40, 41, 42, 43, 44, 45, 46, 47, 48, 49, 50, 51, 52, 7, 53, 9, 54, 55, 56, 57, 58, 59, 60, 61, 62, 63, 64, 65, 66, 67, 68, 69, 70, 71, 72, 73, 74, 75, 76, 77, 78, 79, 80, 81, 82, 83, 84, 85, 86, 87, 88, 89, 90, 91, 92, 93, 94, 95, 96, 97, 98, 99, 100, 101, 102, 103, 104, 105, 106, 107, 108, 109, 110, 124, 125, 126, 127, 128, 129, 130, 131, 132, 133, 134, 122, 123, 135, 136, 137] (by decide +kernel) (by decide +kernel)
set_option maxRecDepth 20000 in
theorem gX4_advise_X2_goByHalves : GoodIn wsX4_advise (wsV RX4 138 RX2 yX2_goByHalves wsX2_goByHalves) := goodIn_app (goodIn_of _ (by decide +kernel)) ggX4_advise_X2_goByHalves
set_option maxRecDepth 20000 in
theorem ggX4_advise_X2_tastings : GoodIn wsX4_advise wsX2_tastings := goodIn_r _ [114, 23, 124, 125, 126, 127, 128, 129] (by decide +kernel) (by decide +kernel)
set_option maxRecDepth 20000 in
theorem gX4_advise_X2_tastings : GoodIn wsX4_advise (wsV RX4 155 RX2 yX2_tastings wsX2_tastings) := goodIn_app (goodIn_of _ (by decide +kernel)) ggX4_advise_X2_tastings
theorem dX4_advise_0 : decode cX4_advise 0 = .ok (.iconst (-1), 1) := by decide +kernel
theorem dX4_advise_1 : decode cX4_advise 1 = .ok (.istore_n 1, 1) := by decide +kernel
theorem dX4_advise_2 : decode cX4_advise 2 = .ok (.iconst 0, 1) := by decide +kernel
theorem dX4_advise_3 : decode cX4_advise 3 = .ok (.istore_n 2, 1) := by decide +kernel
theorem dX4_advise_4 : decode cX4_advise 4 = .ok (.iconst 0, 1) := by decide +kernel
theorem dX4_advise_5 : decode cX4_advise 5 = .ok (.istore_n 3, 1) := by decide +kernel
theorem dX4_advise_6 : decode cX4_advise 6 = .ok (.iload_n 3, 1) := by decide +kernel
theorem dX4_advise_7 : decode cX4_advise 7 = .ok (.aload_n 0, 1) := by decide +kernel
theorem dX4_advise_8 : decode cX4_advise 8 = .ok (.getfield 10, 3) := by decide +kernel
theorem dX4_advise_11 : decode cX4_advise 11 = .ok (.invokevirtual 66, 3) := by decide +kernel
theorem dX4_advise_14 : decode cX4_advise 14 = .ok (.if_icmp .ge 57, 3) := by decide +kernel
theorem dX4_advise_17 : decode cX4_advise 17 = .ok (.aload_n 0, 1) := by decide +kernel
theorem dX4_advise_18 : decode cX4_advise 18 = .ok (.getfield 39, 3) := by decide +kernel
theorem dX4_advise_21 : decode cX4_advise 21 = .ok (.aload_n 0, 1) := by decide +kernel
theorem dX4_advise_22 : decode cX4_advise 22 = .ok (.getfield 28, 3) := by decide +kernel
theorem dX4_advise_25 : decode cX4_advise 25 = .ok (.aload_n 0, 1) := by decide +kernel
theorem dX4_advise_26 : decode cX4_advise 26 = .ok (.getfield 10, 3) := by decide +kernel
theorem dX4_advise_29 : decode cX4_advise 29 = .ok (.invokevirtual 135, 3) := by decide +kernel
theorem dX4_advise_32 : decode cX4_advise 32 = .ok (.iload_n 3, 1) := by decide +kernel
theorem dX4_advise_33 : decode cX4_advise 33 = .ok (.iconst 0, 1) := by decide +kernel
theorem dX4_advise_34 : decode cX4_advise 34 = .ok (.invokestatic 105, 3) := by decide +kernel
theorem dX4_advise_37 : decode cX4_advise 37 = .ok (.invokevirtual 138, 3) := by decide +kernel
theorem dX4_advise_40 : decode cX4_advise 40 = .ok (.iload_n 1, 1) := by decide +kernel
theorem dX4_advise_41 : decode cX4_advise 41 = .ok (.ifCond .lt 14, 3) := by decide +kernel
theorem dX4_advise_44 : decode cX4_advise 44 = .ok (.aload_n 0, 1) := by decide +kernel
theorem dX4_advise_45 : decode cX4_advise 45 = .ok (.getfield 39, 3) := by decide +kernel
theorem dX4_advise_48 : decode cX4_advise 48 = .ok (.invokevirtual 155, 3) := by decide +kernel
theorem dX4_advise_51 : decode cX4_advise 51 = .ok (.iload_n 2, 1) := by decide +kernel
theorem dX4_advise_52 : decode cX4_advise 52 = .ok (.if_icmp .ge 13, 3) := by decide +kernel
theorem dX4_advise_55 : decode cX4_advise 55 = .ok (.aload_n 0, 1) := by decide +kernel
theorem dX4_advise_56 : decode cX4_advise 56 = .ok (.getfield 39, 3) := by decide +kernel
theorem dX4_advise_59 : decode cX4_advise 59 = .ok (.invokevirtual 155, 3) := by decide +kernel
theorem dX4_advise_62 : decode cX4_advise 62 = .ok (.istore_n 2, 1) := by decide +kernel
theorem dX4_advise_63 : decode cX4_advise 63 = .ok (.iload_n 3, 1) := by decide +kernel
theorem dX4_advise_64 : decode cX4_advise 64 = .ok (.istore_n 1, 1) := by decide +kernel
theorem dX4_advise_65 : decode cX4_advise 65 = .ok (.iinc 3 1, 3) := by decide +kernel
theorem dX4_advise_68 : decode cX4_advise 68 = .ok (.goto (-62), 3) := by decide +kernel
theorem dX4_advise_71 : decode cX4_advise 71 = .ok (.iload_n 1, 1) := by decide +kernel
theorem dX4_advise_72 : decode cX4_advise 72 = .ok (.ireturn, 1) := by decide +kernel
set_option maxRecDepth 20000 in
theorem ggX4_mean_X1_size : GoodIn wsX4_mean wsX1_size := goodIn_r _ [6, 7, 31, 32, 33] (by decide +kernel) (by decide +kernel)
set_option maxRecDepth 20000 in
theorem gX4_mean_X1_size : GoodIn wsX4_mean (wsV RX4 87 RX1 yX1_size wsX1_size) := goodIn_app (goodIn_of _ (by decide +kernel)) ggX4_mean_X1_size
set_option maxRecDepth 20000 in
theorem ggX4_mean_X1_neededBy : GoodIn wsX4_mean wsX1_neededBy := goodIn_r _ [11, 12, 13, 14, 15, 5, 16, 7, 31, 32, 33] (by decide +kernel) (by decide +kernel)
set_option maxRecDepth 20000 in
theorem gX4_mean_X1_neededBy : GoodIn wsX4_mean (wsV RX4 102 RX1 yX1_neededBy wsX1_neededBy) := goodIn_app (goodIn_of _ (by decide +kernel)) ggX4_mean_X1_neededBy
set_option maxRecDepth 20000 in
theorem ggX4_mean_J6_bitCount_0f7a4 : GoodIn wsX4_mean wsJ6_bitCount_0f7a4 := goodIn_r _ [20, 21, 22, 23] (by decide +kernel) (by decide +kernel)
set_option maxRecDepth 20000 in
theorem gX4_mean_J6_bitCount_0f7a4 : GoodIn wsX4_mean (va_wsS RX4 187 yJ6_bitCount_0f7a4 wsJ6_bitCount_0f7a4) := goodIn_app (goodIn_of _ (by decide +kernel)) ggX4_mean_J6_bitCount_0f7a4
theorem dX4_mean_0 : decode cX4_mean 0 = .ok (.aload_n 0, 1) := by decide +kernel
theorem dX4_mean_1 : decode cX4_mean 1 = .ok (.getfield 19, 3) := by decide +kernel
theorem dX4_mean_4 : decode cX4_mean 4 = .ok (.invokevirtual 87, 3) := by decide +kernel
theorem dX4_mean_7 : decode cX4_mean 7 = .ok (.istore_n 1, 1) := by decide +kernel
theorem dX4_mean_8 : decode cX4_mean 8 = .ok (.iload_n 1, 1) := by decide +kernel
theorem dX4_mean_9 : decode cX4_mean 9 = .ok (.ifCond .ne 5, 3) := by decide +kernel
theorem dX4_mean_12 : decode cX4_mean 12 = .ok (.dconst 0, 1) := by decide +kernel
theorem dX4_mean_13 : decode cX4_mean 13 = .ok (.dreturn, 1) := by decide +kernel
theorem dX4_mean_14 : decode cX4_mean 14 = .ok (.iconst 0, 1) := by decide +kernel
theorem dX4_mean_15 : decode cX4_mean 15 = .ok (.istore_n 2, 1) := by decide +kernel
theorem dX4_mean_16 : decode cX4_mean 16 = .ok (.iconst 0, 1) := by decide +kernel
theorem dX4_mean_17 : decode cX4_mean 17 = .ok (.istore_n 3, 1) := by decide +kernel
theorem dX4_mean_18 : decode cX4_mean 18 = .ok (.iload_n 3, 1) := by decide +kernel
theorem dX4_mean_19 : decode cX4_mean 19 = .ok (.iload_n 1, 1) := by decide +kernel
theorem dX4_mean_20 : decode cX4_mean 20 = .ok (.if_icmp .ge 23, 3) := by decide +kernel
theorem dX4_mean_23 : decode cX4_mean 23 = .ok (.iload_n 2, 1) := by decide +kernel
theorem dX4_mean_24 : decode cX4_mean 24 = .ok (.aload_n 0, 1) := by decide +kernel
theorem dX4_mean_25 : decode cX4_mean 25 = .ok (.getfield 19, 3) := by decide +kernel
theorem dX4_mean_28 : decode cX4_mean 28 = .ok (.iload_n 3, 1) := by decide +kernel
theorem dX4_mean_29 : decode cX4_mean 29 = .ok (.invokevirtual 102, 3) := by decide +kernel
theorem dX4_mean_32 : decode cX4_mean 32 = .ok (.invokestatic 187, 3) := by decide +kernel
theorem dX4_mean_35 : decode cX4_mean 35 = .ok (.iadd, 1) := by decide +kernel
theorem dX4_mean_36 : decode cX4_mean 36 = .ok (.istore_n 2, 1) := by decide +kernel
theorem dX4_mean_37 : decode cX4_mean 37 = .ok (.iinc 3 1, 3) := by decide +kernel
theorem dX4_mean_40 : decode cX4_mean 40 = .ok (.goto (-22), 3) := by decide +kernel
theorem dX4_mean_43 : decode cX4_mean 43 = .ok (.iload_n 2, 1) := by decide +kernel
theorem dX4_mean_44 : decode cX4_mean 44 = .ok (.i2d, 1) := by decide +kernel
theorem dX4_mean_45 : decode cX4_mean 45 = .ok (.iload_n 1, 1) := by decide +kernel
theorem dX4_mean_46 : decode cX4_mean 46 = .ok (.i2d, 1) := by decide +kernel
theorem dX4_mean_47 : decode cX4_mean 47 = .ok (.ddiv, 1) := by decide +kernel
theorem dX4_mean_48 : decode cX4_mean 48 = .ok (.dreturn, 1) := by decide +kernel
set_option maxRecDepth 20000 in
theorem ggX4_digest_X4_digestState : GoodIn wsX4_digest wsX4_digestState := goodIn_r _ [10, 4, 5, 11, 12, 13, 9, 14, 15, 16, 17, 18, 19, 20, 21, 22, 23, 24, 25, 26, 27, 28, 29, 30, 31, 32, 33, 34, 35, 36, 37, 38, 39, 40, 41, 42, 43, 44, 45, 46, 47, 48, 49, 50, 51, 52, 53, 54, 55, 56, 57, 58, 59, 60, 61, 62, 63, 64, 65, 66, 67, 68, 69, 70, 71, 72, 73, 74, 75, 76, 77, 78, 79, 80, 81, 82, 83, 84, 85, 86, 87, 88, 89, 90, 91, 92, 93, 94, 95, 96, 97, 98, 99, 100, 101, 194, 195, 196, 197, 198, 199, 200, 201, 202, 203, 204, 205, 206, 207, 208, 209, 210, 211] (by decide +kernel) (by decide +kernel)
set_option maxRecDepth 20000 in
theorem gX4_digest_X4_digestState : GoodIn wsX4_digest (wsV RX4 194 RX4 yX4_digestState wsX4_digestState) := goodIn_app (goodIn_of _ (by decide +kernel)) ggX4_digest_X4_digestState
set_option maxRecDepth 20000 in
theorem ggX4_digest_X4_digestKept : GoodIn wsX4_digest wsX4_digestKept := goodIn_r _ [105, 15, 48, 49, 50, 51, 52, 53, 54, 55, 56, 57, 58, 59, 60, 106, 107, 108, 109, 71, 72, 9, 73, 74, 61, 62, 63, 64, 65, 110, 111, 112, 113, 114, 194, 195, 196, 197, 198, 199, 200, 206, 207, 208, 209, 210, 211] (by decide +kernel) (by decide +kernel)
set_option maxRecDepth 20000 in
theorem gX4_digest_X4_digestKept : GoodIn wsX4_digest (wsV RX4 198 RX4 yX4_digestKept wsX4_digestKept) := goodIn_app (goodIn_of _ (by decide +kernel)) ggX4_digest_X4_digestKept
set_option maxRecDepth 20000 in
theorem ggX4_digest_X0_wholeDish : GoodIn wsX4_digest wsX0_wholeDish := goodIn_r _ [32, 22, 201, 202] (by decide +kernel) (by decide +kernel)
set_option maxRecDepth 20000 in
theorem gX4_digest_X0_wholeDish : GoodIn wsX4_digest (wsV RX4 135 RX0 yX0_wholeDish wsX0_wholeDish) := goodIn_app (goodIn_of _ (by decide +kernel)) ggX4_digest_X0_wholeDish
set_option maxRecDepth 20000 in
theorem ggX4_digest_X2_goByHalves : GoodIn wsX4_digest wsX2_goByHalves := goodIn_r _ [118, 70, 119, 120, 121, 51, 122, 53, 123, 65, 124, 125, 126, 127, 128, 129, 130, 131, 132, 133, 134, 135, 136, 137, 138, 139, 140, 141, 142, 143, 34, 35, 20, 36, 22, 37, 144, 39, 40, 26, 41, 28, 42, 43, 44, 45, 46, 47, 145, 146, 147, 148, 149, 150, 151, 152, 153, 154, 155, 54, 55, 56, 57, 58, 59, 60, 156, 157, 158, 159, 160, 161, 162, 163, 164, 165, 166, 167, 168, 169, 170, 171, 172, 114, 173, 174, 175, 176, 177, 178, 179, 180, 206, 207, 208, 209, 210, 211, 212, 213, 214, 215, 216, 201, 202, 203, 204, 205] (by decide +kernel) (by decide +kernel)
set_option maxRecDepth 20000 in
theorem gX4_digest_X2_goByHalves : GoodIn wsX4_digest (wsV RX4 138 RX2 yX2_goByHalves wsX2_goByHalves) := goodIn_app (goodIn_of _ (by decide +kernel)) ggX4_digest_X2_goByHalves
set_option maxRecDepth 20000 in
theorem ggX4_digest_X2_list : GoodIn wsX4_digest wsX2_list := goodIn_r _ [184, 53, 206, 207, 208, 209, 210, 211] (by decide +kernel) (by decide +kernel)
set_option maxRecDepth 20000 in
theorem gX4_digest_X2_list : GoodIn wsX4_digest (wsV RX4 142 RX2 yX2_list wsX2_list) := goodIn_app (goodIn_of _ (by decide +kernel)) ggX4_digest_X2_list
set_option maxRecDepth 20000 in
theorem ggX4_digest_X4_mixed : GoodIn wsX4_digest wsX4_mixed := goodIn_r _ [73, 74] (by decide +kernel) (by decide +kernel)
set_option maxRecDepth 20000 in
theorem gX4_digest_X4_mixed : GoodIn wsX4_digest (va_wsS RX4 201 yX4_mixed wsX4_mixed) := goodIn_app (goodIn_of _ (by decide +kernel)) ggX4_digest_X4_mixed
set_option maxRecDepth 20000 in
theorem ggX4_digest_X2_tastings : GoodIn wsX4_digest wsX2_tastings := goodIn_r _ [69, 70, 206, 207, 208, 209, 210, 211] (by decide +kernel) (by decide +kernel)
set_option maxRecDepth 20000 in
theorem gX4_digest_X2_tastings : GoodIn wsX4_digest (wsV RX4 155 RX2 yX2_tastings wsX2_tastings) := goodIn_app (goodIn_of _ (by decide +kernel)) ggX4_digest_X2_tastings
set_option maxRecDepth 20000 in
theorem ggX4_digest_X2_steps : GoodIn wsX4_digest wsX2_steps := goodIn_r _ [64, 65, 206, 207, 208, 209, 210, 211] (by decide +kernel) (by decide +kernel)
set_option maxRecDepth 20000 in
theorem gX4_digest_X2_steps : GoodIn wsX4_digest (wsV RX4 166 RX2 yX2_steps wsX2_steps) := goodIn_app (goodIn_of _ (by decide +kernel)) ggX4_digest_X2_steps
set_option maxRecDepth 20000 in
theorem ggX4_digest_X2_goOneByOne : GoodIn wsX4_digest wsX2_goOneByOne := goodIn_r _ [188, 53, 70, 119, 120, 121, 51, 122, 123, 65, 124, 125, 126, 127, 128, 129, 130, 131, 132, 133, 134, 135, 136, 137, 138, 139, 140, 141, 142, 143, 34, 35, 20, 36, 22, 37, 144, 39, 40, 26, 41, 28, 42, 43, 44, 45, 46, 47, 177, 178, 179, 180, 206, 207, 208, 209, 210, 211, 212, 213, 214, 215, 216, 201, 202, 203, 204, 205] (by decide +kernel) (by decide +kernel)
set_option maxRecDepth 20000 in
theorem gX4_digest_X2_goOneByOne : GoodIn wsX4_digest (wsV RX4 181 RX2 yX2_goOneByOne wsX2_goOneByOne) := goodIn_app (goodIn_of _ (by decide +kernel)) ggX4_digest_X2_goOneByOne
set_option maxRecDepth 20000 in
theorem ggX4_digest_X0_kindsOf : GoodIn wsX4_digest wsX0_kindsOf := goodIn_r _ [36, 22, 37, 201, 202] (by decide +kernel) (by decide +kernel)
set_option maxRecDepth 20000 in
theorem gX4_digest_X0_kindsOf : GoodIn wsX4_digest (wsV RX4 145 RX0 yX0_kindsOf wsX0_kindsOf) := goodIn_app (goodIn_of _ (by decide +kernel)) ggX4_digest_X0_kindsOf
set_option maxRecDepth 20000 in
theorem ggX4_digest_X1_leastNeeded : GoodIn wsX4_digest wsX1_leastNeeded := goodIn_r _ [192, 28, 46, 193, 55, 56, 57, 58, 59, 60, 203, 204, 205] (by decide +kernel) (by decide +kernel)
set_option maxRecDepth 20000 in
theorem gX4_digest_X1_leastNeeded : GoodIn wsX4_digest (wsV RX4 184 RX1 yX1_leastNeeded wsX1_leastNeeded) := goodIn_app (goodIn_of _ (by decide +kernel)) ggX4_digest_X1_leastNeeded
theorem dX4_digest_0 : decode cX4_digest 0 = .ok (.aload_n 0, 1) := by decide +kernel
theorem dX4_digest_1 : decode cX4_digest 1 = .ok (.ldc2_w 192, 3) := by decide +kernel
theorem dX4_digest_4 : decode cX4_digest 4 = .ok (.invokevirtual 194, 3) := by decide +kernel
theorem dX4_digest_7 : decode cX4_digest 7 = .ok (.lstore_n 1, 1) := by decide +kernel
theorem dX4_digest_8 : decode cX4_digest 8 = .ok (.aload_n 0, 1) := by decide +kernel
theorem dX4_digest_9 : decode cX4_digest 9 = .ok (.lload_n 1, 1) := by decide +kernel
theorem dX4_digest_10 : decode cX4_digest 10 = .ok (.invokevirtual 198, 3) := by decide +kernel
theorem dX4_digest_13 : decode cX4_digest 13 = .ok (.lstore_n 1, 1) := by decide +kernel
theorem dX4_digest_14 : decode cX4_digest 14 = .ok (.aload_n 0, 1) := by decide +kernel
theorem dX4_digest_15 : decode cX4_digest 15 = .ok (.getfield 39, 3) := by decide +kernel
theorem dX4_digest_18 : decode cX4_digest 18 = .ok (.aload_n 0, 1) := by decide +kernel
theorem dX4_digest_19 : decode cX4_digest 19 = .ok (.getfield 28, 3) := by decide +kernel
theorem dX4_digest_22 : decode cX4_digest 22 = .ok (.aload_n 0, 1) := by decide +kernel
theorem dX4_digest_23 : decode cX4_digest 23 = .ok (.getfield 10, 3) := by decide +kernel
theorem dX4_digest_26 : decode cX4_digest 26 = .ok (.invokevirtual 135, 3) := by decide +kernel
theorem dX4_digest_29 : decode cX4_digest 29 = .ok (.invokevirtual 138, 3) := by decide +kernel
theorem dX4_digest_32 : decode cX4_digest 32 = .ok (.lload_n 1, 1) := by decide +kernel
theorem dX4_digest_33 : decode cX4_digest 33 = .ok (.aload_n 0, 1) := by decide +kernel
theorem dX4_digest_34 : decode cX4_digest 34 = .ok (.getfield 39, 3) := by decide +kernel
theorem dX4_digest_37 : decode cX4_digest 37 = .ok (.invokevirtual 142, 3) := by decide +kernel
theorem dX4_digest_40 : decode cX4_digest 40 = .ok (.i2l, 1) := by decide +kernel
theorem dX4_digest_41 : decode cX4_digest 41 = .ok (.invokestatic 201, 3) := by decide +kernel
theorem dX4_digest_44 : decode cX4_digest 44 = .ok (.lstore_n 1, 1) := by decide +kernel
theorem dX4_digest_45 : decode cX4_digest 45 = .ok (.lload_n 1, 1) := by decide +kernel
theorem dX4_digest_46 : decode cX4_digest 46 = .ok (.aload_n 0, 1) := by decide +kernel
theorem dX4_digest_47 : decode cX4_digest 47 = .ok (.getfield 39, 3) := by decide +kernel
theorem dX4_digest_50 : decode cX4_digest 50 = .ok (.invokevirtual 155, 3) := by decide +kernel
theorem dX4_digest_53 : decode cX4_digest 53 = .ok (.i2l, 1) := by decide +kernel
theorem dX4_digest_54 : decode cX4_digest 54 = .ok (.invokestatic 201, 3) := by decide +kernel
theorem dX4_digest_57 : decode cX4_digest 57 = .ok (.lstore_n 1, 1) := by decide +kernel
theorem dX4_digest_58 : decode cX4_digest 58 = .ok (.lload_n 1, 1) := by decide +kernel
theorem dX4_digest_59 : decode cX4_digest 59 = .ok (.aload_n 0, 1) := by decide +kernel
theorem dX4_digest_60 : decode cX4_digest 60 = .ok (.getfield 39, 3) := by decide +kernel
theorem dX4_digest_63 : decode cX4_digest 63 = .ok (.invokevirtual 166, 3) := by decide +kernel
theorem dX4_digest_66 : decode cX4_digest 66 = .ok (.i2l, 1) := by decide +kernel
theorem dX4_digest_67 : decode cX4_digest 67 = .ok (.invokestatic 201, 3) := by decide +kernel
theorem dX4_digest_70 : decode cX4_digest 70 = .ok (.lstore_n 1, 1) := by decide +kernel
theorem dX4_digest_71 : decode cX4_digest 71 = .ok (.aload_n 0, 1) := by decide +kernel
theorem dX4_digest_72 : decode cX4_digest 72 = .ok (.getfield 39, 3) := by decide +kernel
theorem dX4_digest_75 : decode cX4_digest 75 = .ok (.aload_n 0, 1) := by decide +kernel
theorem dX4_digest_76 : decode cX4_digest 76 = .ok (.getfield 28, 3) := by decide +kernel
theorem dX4_digest_79 : decode cX4_digest 79 = .ok (.aload_n 0, 1) := by decide +kernel
theorem dX4_digest_80 : decode cX4_digest 80 = .ok (.getfield 10, 3) := by decide +kernel
theorem dX4_digest_83 : decode cX4_digest 83 = .ok (.invokevirtual 135, 3) := by decide +kernel
theorem dX4_digest_86 : decode cX4_digest 86 = .ok (.invokevirtual 181, 3) := by decide +kernel
theorem dX4_digest_89 : decode cX4_digest 89 = .ok (.lload_n 1, 1) := by decide +kernel
theorem dX4_digest_90 : decode cX4_digest 90 = .ok (.aload_n 0, 1) := by decide +kernel
theorem dX4_digest_91 : decode cX4_digest 91 = .ok (.getfield 39, 3) := by decide +kernel
theorem dX4_digest_94 : decode cX4_digest 94 = .ok (.invokevirtual 142, 3) := by decide +kernel
theorem dX4_digest_97 : decode cX4_digest 97 = .ok (.i2l, 1) := by decide +kernel
theorem dX4_digest_98 : decode cX4_digest 98 = .ok (.invokestatic 201, 3) := by decide +kernel
theorem dX4_digest_101 : decode cX4_digest 101 = .ok (.lstore_n 1, 1) := by decide +kernel
theorem dX4_digest_102 : decode cX4_digest 102 = .ok (.lload_n 1, 1) := by decide +kernel
theorem dX4_digest_103 : decode cX4_digest 103 = .ok (.aload_n 0, 1) := by decide +kernel
theorem dX4_digest_104 : decode cX4_digest 104 = .ok (.getfield 39, 3) := by decide +kernel
theorem dX4_digest_107 : decode cX4_digest 107 = .ok (.invokevirtual 155, 3) := by decide +kernel
theorem dX4_digest_110 : decode cX4_digest 110 = .ok (.i2l, 1) := by decide +kernel
theorem dX4_digest_111 : decode cX4_digest 111 = .ok (.invokestatic 201, 3) := by decide +kernel
theorem dX4_digest_114 : decode cX4_digest 114 = .ok (.lstore_n 1, 1) := by decide +kernel
theorem dX4_digest_115 : decode cX4_digest 115 = .ok (.lload_n 1, 1) := by decide +kernel
theorem dX4_digest_116 : decode cX4_digest 116 = .ok (.aload_n 0, 1) := by decide +kernel
theorem dX4_digest_117 : decode cX4_digest 117 = .ok (.getfield 19, 3) := by decide +kernel
theorem dX4_digest_120 : decode cX4_digest 120 = .ok (.aload_n 0, 1) := by decide +kernel
theorem dX4_digest_121 : decode cX4_digest 121 = .ok (.getfield 10, 3) := by decide +kernel
theorem dX4_digest_124 : decode cX4_digest 124 = .ok (.aload_n 0, 1) := by decide +kernel
theorem dX4_digest_125 : decode cX4_digest 125 = .ok (.getfield 10, 3) := by decide +kernel
theorem dX4_digest_128 : decode cX4_digest 128 = .ok (.invokevirtual 135, 3) := by decide +kernel
theorem dX4_digest_131 : decode cX4_digest 131 = .ok (.invokevirtual 145, 3) := by decide +kernel
theorem dX4_digest_134 : decode cX4_digest 134 = .ok (.invokevirtual 184, 3) := by decide +kernel
theorem dX4_digest_137 : decode cX4_digest 137 = .ok (.i2l, 1) := by decide +kernel
theorem dX4_digest_138 : decode cX4_digest 138 = .ok (.invokestatic 201, 3) := by decide +kernel
theorem dX4_digest_141 : decode cX4_digest 141 = .ok (.lreturn, 1) := by decide +kernel
set_option maxRecDepth 20000 in
theorem ggX4_digestState_X4_countFact : GoodIn wsX4_digestState wsX4_countFact := goodIn_r _ [7, 1, 2, 8, 9, 10, 11, 12, 13, 14, 15, 16, 17, 18, 19, 20, 21, 22, 23, 24, 25, 26, 27, 28, 29, 30, 31, 32, 33, 34, 35, 36, 37, 38, 39, 40, 41, 42, 43, 44, 45, 46, 47, 48, 49, 50, 51, 52, 53, 54, 55, 56, 57, 58, 59, 60, 61, 62, 63, 95, 96, 97, 98, 99, 100, 101, 102, 103, 104, 105, 106, 107, 108, 109, 110, 111, 112] (by decide +kernel) (by decide +kernel)
set_option maxRecDepth 20000 in
theorem gX4_digestState_X4_countFact : GoodIn wsX4_digestState (wsV RX4 176 RX4 yX4_countFact wsX4_countFact) := goodIn_app (goodIn_of _ (by decide +kernel)) ggX4_digestState_X4_countFact
set_option maxRecDepth 20000 in
theorem ggX4_digestState_X4_mixed : GoodIn wsX4_digestState wsX4_mixed := goodIn_r _ [66, 67] (by decide +kernel) (by decide +kernel)
set_option maxRecDepth 20000 in
theorem gX4_digestState_X4_mixed : GoodIn wsX4_digestState (va_wsS RX4 201 yX4_mixed wsX4_mixed) := goodIn_app (goodIn_of _ (by decide +kernel)) ggX4_digestState_X4_mixed
set_option maxRecDepth 20000 in
theorem ggX4_digestState_X0_size : GoodIn wsX4_digestState wsX0_size := goodIn_r _ [14, 15, 102, 103] (by decide +kernel) (by decide +kernel)
set_option maxRecDepth 20000 in
theorem gX4_digestState_X0_size : GoodIn wsX4_digestState (wsV RX4 66 RX0 yX0_size wsX0_size) := goodIn_app (goodIn_of _ (by decide +kernel)) ggX4_digestState_X0_size
set_option maxRecDepth 20000 in
theorem ggX4_digestState_X0_kindAt : GoodIn wsX4_digestState wsX0_kindAt := goodIn_r _ [71, 30, 72, 73, 74, 13, 75, 15, 102, 103] (by decide +kernel) (by decide +kernel)
set_option maxRecDepth 20000 in
theorem gX4_digestState_X0_kindAt : GoodIn wsX4_digestState (wsV RX4 75 RX0 yX0_kindAt wsX0_kindAt) := goodIn_app (goodIn_of _ (by decide +kernel)) ggX4_digestState_X0_kindAt
set_option maxRecDepth 20000 in
theorem ggX4_digestState_X1_size : GoodIn wsX4_digestState wsX1_size := goodIn_r _ [20, 21, 104, 105, 106] (by decide +kernel) (by decide +kernel)
set_option maxRecDepth 20000 in
theorem gX4_digestState_X1_size : GoodIn wsX4_digestState (wsV RX4 87 RX1 yX1_size wsX1_size) := goodIn_app (goodIn_of _ (by decide +kernel)) ggX4_digestState_X1_size
set_option maxRecDepth 20000 in
theorem ggX4_digestState_X4_ruleFact : GoodIn wsX4_digestState wsX4_ruleFact := goodIn_r _ [79, 2, 1, 80, 81, 82, 83, 19, 84, 39, 85, 86, 87, 88, 21, 89, 90, 91, 92, 40, 93, 48, 49, 50, 51, 52, 53, 22, 23, 24, 13, 25, 15, 26, 27, 28, 29, 30, 94, 36, 37, 38, 95, 96, 97, 98, 99, 100, 101, 104, 105, 106, 102, 103] (by decide +kernel) (by decide +kernel)
set_option maxRecDepth 20000 in
theorem gX4_digestState_X4_ruleFact : GoodIn wsX4_digestState (wsV RX4 120 RX4 yX4_ruleFact wsX4_ruleFact) := goodIn_app (goodIn_of _ (by decide +kernel)) ggX4_digestState_X4_ruleFact
theorem dX4_digestState_0 : decode cX4_digestState 0 = .ok (.lload_n 1, 1) := by decide +kernel
theorem dX4_digestState_1 : decode cX4_digestState 1 = .ok (.lstore_n 3, 1) := by decide +kernel
theorem dX4_digestState_2 : decode cX4_digestState 2 = .ok (.iconst 0, 1) := by decide +kernel
theorem dX4_digestState_3 : decode cX4_digestState 3 = .ok (.istore 5, 2) := by decide +kernel
theorem dX4_digestState_5 : decode cX4_digestState 5 = .ok (.iload 5, 2) := by decide +kernel
theorem dX4_digestState_7 : decode cX4_digestState 7 = .ok (.bipush 7, 2) := by decide +kernel
theorem dX4_digestState_9 : decode cX4_digestState 9 = .ok (.if_icmp .ge 21, 3) := by decide +kernel
theorem dX4_digestState_12 : decode cX4_digestState 12 = .ok (.lload_n 3, 1) := by decide +kernel
theorem dX4_digestState_13 : decode cX4_digestState 13 = .ok (.aload_n 0, 1) := by decide +kernel
theorem dX4_digestState_14 : decode cX4_digestState 14 = .ok (.iload 5, 2) := by decide +kernel
theorem dX4_digestState_16 : decode cX4_digestState 16 = .ok (.invokevirtual 176, 3) := by decide +kernel
theorem dX4_digestState_19 : decode cX4_digestState 19 = .ok (.i2l, 1) := by decide +kernel
theorem dX4_digestState_20 : decode cX4_digestState 20 = .ok (.invokestatic 201, 3) := by decide +kernel
theorem dX4_digestState_23 : decode cX4_digestState 23 = .ok (.lstore_n 3, 1) := by decide +kernel
theorem dX4_digestState_24 : decode cX4_digestState 24 = .ok (.iinc 5 1, 3) := by decide +kernel
theorem dX4_digestState_27 : decode cX4_digestState 27 = .ok (.goto (-22), 3) := by decide +kernel
theorem dX4_digestState_30 : decode cX4_digestState 30 = .ok (.iconst 0, 1) := by decide +kernel
theorem dX4_digestState_31 : decode cX4_digestState 31 = .ok (.istore 5, 2) := by decide +kernel
theorem dX4_digestState_33 : decode cX4_digestState 33 = .ok (.iload 5, 2) := by decide +kernel
theorem dX4_digestState_35 : decode cX4_digestState 35 = .ok (.aload_n 0, 1) := by decide +kernel
theorem dX4_digestState_36 : decode cX4_digestState 36 = .ok (.getfield 10, 3) := by decide +kernel
theorem dX4_digestState_39 : decode cX4_digestState 39 = .ok (.invokevirtual 66, 3) := by decide +kernel
theorem dX4_digestState_42 : decode cX4_digestState 42 = .ok (.if_icmp .ge 24, 3) := by decide +kernel
theorem dX4_digestState_45 : decode cX4_digestState 45 = .ok (.lload_n 3, 1) := by decide +kernel
theorem dX4_digestState_46 : decode cX4_digestState 46 = .ok (.aload_n 0, 1) := by decide +kernel
theorem dX4_digestState_47 : decode cX4_digestState 47 = .ok (.getfield 10, 3) := by decide +kernel
theorem dX4_digestState_50 : decode cX4_digestState 50 = .ok (.iload 5, 2) := by decide +kernel
theorem dX4_digestState_52 : decode cX4_digestState 52 = .ok (.invokevirtual 75, 3) := by decide +kernel
theorem dX4_digestState_55 : decode cX4_digestState 55 = .ok (.i2l, 1) := by decide +kernel
theorem dX4_digestState_56 : decode cX4_digestState 56 = .ok (.invokestatic 201, 3) := by decide +kernel
theorem dX4_digestState_59 : decode cX4_digestState 59 = .ok (.lstore_n 3, 1) := by decide +kernel
theorem dX4_digestState_60 : decode cX4_digestState 60 = .ok (.iinc 5 1, 3) := by decide +kernel
theorem dX4_digestState_63 : decode cX4_digestState 63 = .ok (.goto (-30), 3) := by decide +kernel
theorem dX4_digestState_66 : decode cX4_digestState 66 = .ok (.iconst 0, 1) := by decide +kernel
theorem dX4_digestState_67 : decode cX4_digestState 67 = .ok (.istore 5, 2) := by decide +kernel
theorem dX4_digestState_69 : decode cX4_digestState 69 = .ok (.iload 5, 2) := by decide +kernel
theorem dX4_digestState_71 : decode cX4_digestState 71 = .ok (.aload_n 0, 1) := by decide +kernel
theorem dX4_digestState_72 : decode cX4_digestState 72 = .ok (.getfield 19, 3) := by decide +kernel
theorem dX4_digestState_75 : decode cX4_digestState 75 = .ok (.invokevirtual 87, 3) := by decide +kernel
theorem dX4_digestState_78 : decode cX4_digestState 78 = .ok (.if_icmp .ge 38, 3) := by decide +kernel
theorem dX4_digestState_81 : decode cX4_digestState 81 = .ok (.iconst 0, 1) := by decide +kernel
theorem dX4_digestState_82 : decode cX4_digestState 82 = .ok (.istore 6, 2) := by decide +kernel
theorem dX4_digestState_84 : decode cX4_digestState 84 = .ok (.iload 6, 2) := by decide +kernel
theorem dX4_digestState_86 : decode cX4_digestState 86 = .ok (.iconst 5, 1) := by decide +kernel
theorem dX4_digestState_87 : decode cX4_digestState 87 = .ok (.if_icmp .ge 23, 3) := by decide +kernel
theorem dX4_digestState_90 : decode cX4_digestState 90 = .ok (.lload_n 3, 1) := by decide +kernel
theorem dX4_digestState_91 : decode cX4_digestState 91 = .ok (.aload_n 0, 1) := by decide +kernel
theorem dX4_digestState_92 : decode cX4_digestState 92 = .ok (.iload 5, 2) := by decide +kernel
theorem dX4_digestState_94 : decode cX4_digestState 94 = .ok (.iload 6, 2) := by decide +kernel
theorem dX4_digestState_96 : decode cX4_digestState 96 = .ok (.invokevirtual 120, 3) := by decide +kernel
theorem dX4_digestState_99 : decode cX4_digestState 99 = .ok (.i2l, 1) := by decide +kernel
theorem dX4_digestState_100 : decode cX4_digestState 100 = .ok (.invokestatic 201, 3) := by decide +kernel
theorem dX4_digestState_103 : decode cX4_digestState 103 = .ok (.lstore_n 3, 1) := by decide +kernel
theorem dX4_digestState_104 : decode cX4_digestState 104 = .ok (.iinc 6 1, 3) := by decide +kernel
theorem dX4_digestState_107 : decode cX4_digestState 107 = .ok (.goto (-23), 3) := by decide +kernel
theorem dX4_digestState_110 : decode cX4_digestState 110 = .ok (.iinc 5 1, 3) := by decide +kernel
theorem dX4_digestState_113 : decode cX4_digestState 113 = .ok (.goto (-44), 3) := by decide +kernel
theorem dX4_digestState_116 : decode cX4_digestState 116 = .ok (.lload_n 3, 1) := by decide +kernel
theorem dX4_digestState_117 : decode cX4_digestState 117 = .ok (.lreturn, 1) := by decide +kernel
set_option maxRecDepth 20000 in
theorem ggX4_digestKept_X2_listSize : GoodIn wsX4_digestKept wsX2_listSize := goodIn_r _ [6, 7, 8, 9, 10, 11, 12, 13, 14, 41, 42, 43, 44, 45, 46] (by decide +kernel) (by decide +kernel)
set_option maxRecDepth 20000 in
theorem gX4_digestKept_X2_listSize : GoodIn wsX4_digestKept (wsV RX4 158 RX2 yX2_listSize wsX2_listSize) := goodIn_app (goodIn_of _ (by decide +kernel)) ggX4_digestKept_X2_listSize
set_option maxRecDepth 20000 in
theorem ggX4_digestKept_X2_listPlace : GoodIn wsX4_digestKept wsX2_listPlace := goodIn_r _ [18, 7, 41, 42, 43, 44, 45, 46] (by decide +kernel) (by decide +kernel)
set_option maxRecDepth 20000 in
theorem gX4_digestKept_X2_listPlace : GoodIn wsX4_digestKept (wsV RX4 163 RX2 yX2_listPlace wsX2_listPlace) := goodIn_app (goodIn_of _ (by decide +kernel)) ggX4_digestKept_X2_listPlace
set_option maxRecDepth 20000 in
theorem ggX4_digestKept_X4_mixed : GoodIn wsX4_digestKept wsX4_mixed := goodIn_r _ [22, 23] (by decide +kernel) (by decide +kernel)
set_option maxRecDepth 20000 in
theorem gX4_digestKept_X4_mixed : GoodIn wsX4_digestKept (va_wsS RX4 201 yX4_mixed wsX4_mixed) := goodIn_app (goodIn_of _ (by decide +kernel)) ggX4_digestKept_X4_mixed
set_option maxRecDepth 20000 in
theorem ggX4_digestKept_X2_steps : GoodIn wsX4_digestKept wsX2_steps := goodIn_r _ [27, 28, 41, 42, 43, 44, 45, 46] (by decide +kernel) (by decide +kernel)
set_option maxRecDepth 20000 in
theorem gX4_digestKept_X2_steps : GoodIn wsX4_digestKept (wsV RX4 166 RX2 yX2_steps wsX2_steps) := goodIn_app (goodIn_of _ (by decide +kernel)) ggX4_digestKept_X2_steps
set_option maxRecDepth 20000 in
theorem ggX4_digestKept_X2_stepFact : GoodIn wsX4_digestKept wsX2_stepFact := goodIn_r _ [32, 28, 33, 41, 42, 43, 44, 45, 46] (by decide +kernel) (by decide +kernel)
set_option maxRecDepth 20000 in
theorem gX4_digestKept_X2_stepFact : GoodIn wsX4_digestKept (wsV RX4 171 RX2 yX2_stepFact wsX2_stepFact) := goodIn_app (goodIn_of _ (by decide +kernel)) ggX4_digestKept_X2_stepFact
theorem dX4_digestKept_0 : decode cX4_digestKept 0 = .ok (.lload_n 1, 1) := by decide +kernel
theorem dX4_digestKept_1 : decode cX4_digestKept 1 = .ok (.lstore_n 3, 1) := by decide +kernel
theorem dX4_digestKept_2 : decode cX4_digestKept 2 = .ok (.iconst 0, 1) := by decide +kernel
theorem dX4_digestKept_3 : decode cX4_digestKept 3 = .ok (.istore 5, 2) := by decide +kernel
theorem dX4_digestKept_5 : decode cX4_digestKept 5 = .ok (.iload 5, 2) := by decide +kernel
theorem dX4_digestKept_7 : decode cX4_digestKept 7 = .ok (.aload_n 0, 1) := by decide +kernel
theorem dX4_digestKept_8 : decode cX4_digestKept 8 = .ok (.getfield 35, 3) := by decide +kernel
theorem dX4_digestKept_11 : decode cX4_digestKept 11 = .ok (.invokevirtual 158, 3) := by decide +kernel
theorem dX4_digestKept_14 : decode cX4_digestKept 14 = .ok (.if_icmp .ge 24, 3) := by decide +kernel
theorem dX4_digestKept_17 : decode cX4_digestKept 17 = .ok (.lload_n 3, 1) := by decide +kernel
theorem dX4_digestKept_18 : decode cX4_digestKept 18 = .ok (.aload_n 0, 1) := by decide +kernel
theorem dX4_digestKept_19 : decode cX4_digestKept 19 = .ok (.getfield 35, 3) := by decide +kernel
theorem dX4_digestKept_22 : decode cX4_digestKept 22 = .ok (.iload 5, 2) := by decide +kernel
theorem dX4_digestKept_24 : decode cX4_digestKept 24 = .ok (.invokevirtual 163, 3) := by decide +kernel
theorem dX4_digestKept_27 : decode cX4_digestKept 27 = .ok (.i2l, 1) := by decide +kernel
theorem dX4_digestKept_28 : decode cX4_digestKept 28 = .ok (.invokestatic 201, 3) := by decide +kernel
theorem dX4_digestKept_31 : decode cX4_digestKept 31 = .ok (.lstore_n 3, 1) := by decide +kernel
theorem dX4_digestKept_32 : decode cX4_digestKept 32 = .ok (.iinc 5 1, 3) := by decide +kernel
theorem dX4_digestKept_35 : decode cX4_digestKept 35 = .ok (.goto (-30), 3) := by decide +kernel
theorem dX4_digestKept_38 : decode cX4_digestKept 38 = .ok (.iconst 0, 1) := by decide +kernel
theorem dX4_digestKept_39 : decode cX4_digestKept 39 = .ok (.istore 5, 2) := by decide +kernel
theorem dX4_digestKept_41 : decode cX4_digestKept 41 = .ok (.iload 5, 2) := by decide +kernel
theorem dX4_digestKept_43 : decode cX4_digestKept 43 = .ok (.aload_n 0, 1) := by decide +kernel
theorem dX4_digestKept_44 : decode cX4_digestKept 44 = .ok (.getfield 35, 3) := by decide +kernel
theorem dX4_digestKept_47 : decode cX4_digestKept 47 = .ok (.invokevirtual 166, 3) := by decide +kernel
theorem dX4_digestKept_50 : decode cX4_digestKept 50 = .ok (.if_icmp .ge 41, 3) := by decide +kernel
theorem dX4_digestKept_53 : decode cX4_digestKept 53 = .ok (.iconst 0, 1) := by decide +kernel
theorem dX4_digestKept_54 : decode cX4_digestKept 54 = .ok (.istore 6, 2) := by decide +kernel
theorem dX4_digestKept_56 : decode cX4_digestKept 56 = .ok (.iload 6, 2) := by decide +kernel
theorem dX4_digestKept_58 : decode cX4_digestKept 58 = .ok (.iconst 5, 1) := by decide +kernel
theorem dX4_digestKept_59 : decode cX4_digestKept 59 = .ok (.if_icmp .ge 26, 3) := by decide +kernel
theorem dX4_digestKept_62 : decode cX4_digestKept 62 = .ok (.lload_n 3, 1) := by decide +kernel
theorem dX4_digestKept_63 : decode cX4_digestKept 63 = .ok (.aload_n 0, 1) := by decide +kernel
theorem dX4_digestKept_64 : decode cX4_digestKept 64 = .ok (.getfield 35, 3) := by decide +kernel
theorem dX4_digestKept_67 : decode cX4_digestKept 67 = .ok (.iload 5, 2) := by decide +kernel
theorem dX4_digestKept_69 : decode cX4_digestKept 69 = .ok (.iload 6, 2) := by decide +kernel
theorem dX4_digestKept_71 : decode cX4_digestKept 71 = .ok (.invokevirtual 171, 3) := by decide +kernel
theorem dX4_digestKept_74 : decode cX4_digestKept 74 = .ok (.i2l, 1) := by decide +kernel
theorem dX4_digestKept_75 : decode cX4_digestKept 75 = .ok (.invokestatic 201, 3) := by decide +kernel
theorem dX4_digestKept_78 : decode cX4_digestKept 78 = .ok (.lstore_n 3, 1) := by decide +kernel
theorem dX4_digestKept_79 : decode cX4_digestKept 79 = .ok (.iinc 6 1, 3) := by decide +kernel
theorem dX4_digestKept_82 : decode cX4_digestKept 82 = .ok (.goto (-26), 3) := by decide +kernel
theorem dX4_digestKept_85 : decode cX4_digestKept 85 = .ok (.iinc 5 1, 3) := by decide +kernel
theorem dX4_digestKept_88 : decode cX4_digestKept 88 = .ok (.goto (-47), 3) := by decide +kernel
theorem dX4_digestKept_91 : decode cX4_digestKept 91 = .ok (.lload_n 3, 1) := by decide +kernel
theorem dX4_digestKept_92 : decode cX4_digestKept 92 = .ok (.lreturn, 1) := by decide +kernel
set_option maxRecDepth 20000 in
theorem ggX4_ruleFact_X1_neededBy : GoodIn wsX4_ruleFact wsX1_neededBy := goodIn_r _ [8, 9, 10, 11, 12, 7, 13, 14, 49, 50, 51] (by decide +kernel) (by decide +kernel)
set_option maxRecDepth 20000 in
theorem gX4_ruleFact_X1_neededBy : GoodIn wsX4_ruleFact (wsV RX4 102 RX1 yX1_neededBy wsX1_neededBy) := goodIn_app (goodIn_of _ (by decide +kernel)) ggX4_ruleFact_X1_neededBy
set_option maxRecDepth 20000 in
theorem ggX4_ruleFact_X1_sparedBy : GoodIn wsX4_ruleFact wsX1_sparedBy := goodIn_r _ [18, 19, 10, 11, 12, 7, 13, 14, 49, 50, 51] (by decide +kernel) (by decide +kernel)
set_option maxRecDepth 20000 in
theorem gX4_ruleFact_X1_sparedBy : GoodIn wsX4_ruleFact (wsV RX4 93 RX1 yX1_sparedBy wsX1_sparedBy) := goodIn_app (goodIn_of _ (by decide +kernel)) ggX4_ruleFact_X1_sparedBy
set_option maxRecDepth 20000 in
theorem ggX4_ruleFact_J6_bitCount_0f7a4 : GoodIn wsX4_ruleFact wsJ6_bitCount_0f7a4 := goodIn_r _ [23, 24, 25, 26] (by decide +kernel) (by decide +kernel)
set_option maxRecDepth 20000 in
theorem gX4_ruleFact_J6_bitCount_0f7a4 : GoodIn wsX4_ruleFact (va_wsS RX4 187 yJ6_bitCount_0f7a4 wsJ6_bitCount_0f7a4) := goodIn_app (goodIn_of _ (by decide +kernel)) ggX4_ruleFact_J6_bitCount_0f7a4
set_option maxRecDepth 20000 in
theorem ggX4_ruleFact_X0_wholeDish : GoodIn wsX4_ruleFact wsX0_wholeDish := goodIn_r _ [31, 32, 52, 53] (by decide +kernel) (by decide +kernel)
set_option maxRecDepth 20000 in
theorem gX4_ruleFact_X0_wholeDish : GoodIn wsX4_ruleFact (wsV RX4 135 RX0 yX0_wholeDish wsX0_wholeDish) := goodIn_app (goodIn_of _ (by decide +kernel)) ggX4_ruleFact_X0_wholeDish
set_option maxRecDepth 20000 in
theorem ggX4_ruleFact_X0_kindsOf : GoodIn wsX4_ruleFact wsX0_kindsOf := goodIn_r _ [36, 32, 37, 52, 53] (by decide +kernel) (by decide +kernel)
set_option maxRecDepth 20000 in
theorem gX4_ruleFact_X0_kindsOf : GoodIn wsX4_ruleFact (wsV RX4 145 RX0 yX0_kindsOf wsX0_kindsOf) := goodIn_app (goodIn_of _ (by decide +kernel)) ggX4_ruleFact_X0_kindsOf
set_option maxRecDepth 20000 in
theorem ggX4_ruleFact_X1_holds : GoodIn wsX4_ruleFact wsX1_holds := goodIn_r _ [41, 14, 9, 19, 49, 50, 51] (by decide +kernel) (by decide +kernel)
set_option maxRecDepth 20000 in
theorem gX4_ruleFact_X1_holds : GoodIn wsX4_ruleFact (wsV RX4 205 RX1 yX1_holds wsX1_holds) := goodIn_app (goodIn_of _ (by decide +kernel)) ggX4_ruleFact_X1_holds
theorem dX4_ruleFact_0 : decode cX4_ruleFact 0 = .ok (.iload_n 2, 1) := by decide +kernel
theorem dX4_ruleFact_1 : decode cX4_ruleFact 1 = .ok (.tableswitch 92 0 3 #[31, 40, 49, 61], 31) := by decide +kernel
theorem dX4_ruleFact_32 : decode cX4_ruleFact 32 = .ok (.aload_n 0, 1) := by decide +kernel
theorem dX4_ruleFact_33 : decode cX4_ruleFact 33 = .ok (.getfield 19, 3) := by decide +kernel
theorem dX4_ruleFact_36 : decode cX4_ruleFact 36 = .ok (.iload_n 1, 1) := by decide +kernel
theorem dX4_ruleFact_37 : decode cX4_ruleFact 37 = .ok (.invokevirtual 102, 3) := by decide +kernel
theorem dX4_ruleFact_40 : decode cX4_ruleFact 40 = .ok (.ireturn, 1) := by decide +kernel
theorem dX4_ruleFact_41 : decode cX4_ruleFact 41 = .ok (.aload_n 0, 1) := by decide +kernel
theorem dX4_ruleFact_42 : decode cX4_ruleFact 42 = .ok (.getfield 19, 3) := by decide +kernel
theorem dX4_ruleFact_45 : decode cX4_ruleFact 45 = .ok (.iload_n 1, 1) := by decide +kernel
theorem dX4_ruleFact_46 : decode cX4_ruleFact 46 = .ok (.invokevirtual 93, 3) := by decide +kernel
theorem dX4_ruleFact_49 : decode cX4_ruleFact 49 = .ok (.ireturn, 1) := by decide +kernel
theorem dX4_ruleFact_50 : decode cX4_ruleFact 50 = .ok (.aload_n 0, 1) := by decide +kernel
theorem dX4_ruleFact_51 : decode cX4_ruleFact 51 = .ok (.getfield 19, 3) := by decide +kernel
theorem dX4_ruleFact_54 : decode cX4_ruleFact 54 = .ok (.iload_n 1, 1) := by decide +kernel
theorem dX4_ruleFact_55 : decode cX4_ruleFact 55 = .ok (.invokevirtual 102, 3) := by decide +kernel
theorem dX4_ruleFact_58 : decode cX4_ruleFact 58 = .ok (.invokestatic 187, 3) := by decide +kernel
theorem dX4_ruleFact_61 : decode cX4_ruleFact 61 = .ok (.ireturn, 1) := by decide +kernel
theorem dX4_ruleFact_62 : decode cX4_ruleFact 62 = .ok (.aload_n 0, 1) := by decide +kernel
theorem dX4_ruleFact_63 : decode cX4_ruleFact 63 = .ok (.getfield 19, 3) := by decide +kernel
theorem dX4_ruleFact_66 : decode cX4_ruleFact 66 = .ok (.iload_n 1, 1) := by decide +kernel
theorem dX4_ruleFact_67 : decode cX4_ruleFact 67 = .ok (.aload_n 0, 1) := by decide +kernel
theorem dX4_ruleFact_68 : decode cX4_ruleFact 68 = .ok (.getfield 10, 3) := by decide +kernel
theorem dX4_ruleFact_71 : decode cX4_ruleFact 71 = .ok (.aload_n 0, 1) := by decide +kernel
theorem dX4_ruleFact_72 : decode cX4_ruleFact 72 = .ok (.getfield 10, 3) := by decide +kernel
theorem dX4_ruleFact_75 : decode cX4_ruleFact 75 = .ok (.invokevirtual 135, 3) := by decide +kernel
theorem dX4_ruleFact_78 : decode cX4_ruleFact 78 = .ok (.invokevirtual 145, 3) := by decide +kernel
theorem dX4_ruleFact_81 : decode cX4_ruleFact 81 = .ok (.invokevirtual 205, 3) := by decide +kernel
theorem dX4_ruleFact_84 : decode cX4_ruleFact 84 = .ok (.ifCond .eq 7, 3) := by decide +kernel
theorem dX4_ruleFact_87 : decode cX4_ruleFact 87 = .ok (.iconst 1, 1) := by decide +kernel
theorem dX4_ruleFact_88 : decode cX4_ruleFact 88 = .ok (.goto 4, 3) := by decide +kernel
theorem dX4_ruleFact_91 : decode cX4_ruleFact 91 = .ok (.iconst 0, 1) := by decide +kernel
theorem dX4_ruleFact_92 : decode cX4_ruleFact 92 = .ok (.ireturn, 1) := by decide +kernel
theorem dX4_ruleFact_93 : decode cX4_ruleFact 93 = .ok (.aload_n 0, 1) := by decide +kernel
theorem dX4_ruleFact_94 : decode cX4_ruleFact 94 = .ok (.getfield 19, 3) := by decide +kernel
theorem dX4_ruleFact_97 : decode cX4_ruleFact 97 = .ok (.iload_n 1, 1) := by decide +kernel
theorem dX4_ruleFact_98 : decode cX4_ruleFact 98 = .ok (.aload_n 0, 1) := by decide +kernel
theorem dX4_ruleFact_99 : decode cX4_ruleFact 99 = .ok (.getfield 148, 3) := by decide +kernel
theorem dX4_ruleFact_102 : decode cX4_ruleFact 102 = .ok (.invokevirtual 205, 3) := by decide +kernel
theorem dX4_ruleFact_105 : decode cX4_ruleFact 105 = .ok (.ifCond .eq 7, 3) := by decide +kernel
theorem dX4_ruleFact_108 : decode cX4_ruleFact 108 = .ok (.iconst 1, 1) := by decide +kernel
theorem dX4_ruleFact_109 : decode cX4_ruleFact 109 = .ok (.goto 4, 3) := by decide +kernel
theorem dX4_ruleFact_112 : decode cX4_ruleFact 112 = .ok (.iconst 0, 1) := by decide +kernel
theorem dX4_ruleFact_113 : decode cX4_ruleFact 113 = .ok (.ireturn, 1) := by decide +kernel
set_option maxRecDepth 20000 in
theorem ggX4_countFact_X0_size : GoodIn wsX4_countFact wsX0_size := goodIn_r _ [9, 10, 66, 67] (by decide +kernel) (by decide +kernel)
set_option maxRecDepth 20000 in
theorem gX4_countFact_X0_size : GoodIn wsX4_countFact (wsV RX4 66 RX0 yX0_size wsX0_size) := goodIn_app (goodIn_of _ (by decide +kernel)) ggX4_countFact_X0_size
set_option maxRecDepth 20000 in
theorem ggX4_countFact_X1_size : GoodIn wsX4_countFact wsX1_size := goodIn_r _ [15, 16, 68, 69, 70] (by decide +kernel) (by decide +kernel)
set_option maxRecDepth 20000 in
theorem gX4_countFact_X1_size : GoodIn wsX4_countFact (wsV RX4 87 RX1 yX1_size wsX1_size) := goodIn_app (goodIn_of _ (by decide +kernel)) ggX4_countFact_X1_size
set_option maxRecDepth 20000 in
theorem ggX4_countFact_X0_wholeDish : GoodIn wsX4_countFact wsX0_wholeDish := goodIn_r _ [20, 10, 66, 67] (by decide +kernel) (by decide +kernel)
set_option maxRecDepth 20000 in
theorem gX4_countFact_X0_wholeDish : GoodIn wsX4_countFact (wsV RX4 135 RX0 yX0_wholeDish wsX0_wholeDish) := goodIn_app (goodIn_of _ (by decide +kernel)) ggX4_countFact_X0_wholeDish
set_option maxRecDepth 20000 in
theorem ggX4_countFact_X0_kindsOf : GoodIn wsX4_countFact wsX0_kindsOf := goodIn_r _ [24, 10, 25, 66, 67] (by decide +kernel) (by decide +kernel)
set_option maxRecDepth 20000 in
theorem gX4_countFact_X0_kindsOf : GoodIn wsX4_countFact (wsV RX4 145 RX0 yX0_kindsOf wsX0_kindsOf) := goodIn_app (goodIn_of _ (by decide +kernel)) ggX4_countFact_X0_kindsOf
set_option maxRecDepth 20000 in
theorem ggX4_countFact_X1_holding : GoodIn wsX4_countFact wsX1_holding := goodIn_r _ [29, 16, 30, 31, 32, 14, 33, 34, 35, 68, 69, 70] (by decide +kernel) (by decide +kernel)
set_option maxRecDepth 20000 in
theorem gX4_countFact_X1_holding : GoodIn wsX4_countFact (wsV RX4 208 RX1 yX1_holding wsX1_holding) := goodIn_app (goodIn_of _ (by decide +kernel)) ggX4_countFact_X1_holding
set_option maxRecDepth 20000 in
theorem ggX4_countFact_X2_listSize : GoodIn wsX4_countFact wsX2_listSize := goodIn_r _ [40, 41, 42, 43, 44, 45, 46, 47, 48, 71, 72, 73, 74, 75, 76] (by decide +kernel) (by decide +kernel)
set_option maxRecDepth 20000 in
theorem gX4_countFact_X2_listSize : GoodIn wsX4_countFact (wsV RX4 158 RX2 yX2_listSize wsX2_listSize) := goodIn_app (goodIn_of _ (by decide +kernel)) ggX4_countFact_X2_listSize
set_option maxRecDepth 20000 in
theorem ggX4_countFact_X2_steps : GoodIn wsX4_countFact wsX2_steps := goodIn_r _ [52, 53, 71, 72, 73, 74, 75, 76] (by decide +kernel) (by decide +kernel)
set_option maxRecDepth 20000 in
theorem gX4_countFact_X2_steps : GoodIn wsX4_countFact (wsV RX4 166 RX2 yX2_steps wsX2_steps) := goodIn_app (goodIn_of _ (by decide +kernel)) ggX4_countFact_X2_steps
set_option maxRecDepth 20000 in
theorem ggX4_countFact_X2_tastings : GoodIn wsX4_countFact wsX2_tastings := goodIn_r _ [57, 58, 71, 72, 73, 74, 75, 76] (by decide +kernel) (by decide +kernel)
set_option maxRecDepth 20000 in
theorem gX4_countFact_X2_tastings : GoodIn wsX4_countFact (wsV RX4 155 RX2 yX2_tastings wsX2_tastings) := goodIn_app (goodIn_of _ (by decide +kernel)) ggX4_countFact_X2_tastings
theorem dX4_countFact_0 : decode cX4_countFact 0 = .ok (.iload_n 1, 1) := by decide +kernel
theorem dX4_countFact_1 : decode cX4_countFact 1 = .ok (.tableswitch 101 0 5 #[39, 47, 55, 77, 85, 93], 39) := by decide +kernel
theorem dX4_countFact_40 : decode cX4_countFact 40 = .ok (.aload_n 0, 1) := by decide +kernel
theorem dX4_countFact_41 : decode cX4_countFact 41 = .ok (.getfield 10, 3) := by decide +kernel
theorem dX4_countFact_44 : decode cX4_countFact 44 = .ok (.invokevirtual 66, 3) := by decide +kernel
theorem dX4_countFact_47 : decode cX4_countFact 47 = .ok (.ireturn, 1) := by decide +kernel
theorem dX4_countFact_48 : decode cX4_countFact 48 = .ok (.aload_n 0, 1) := by decide +kernel
theorem dX4_countFact_49 : decode cX4_countFact 49 = .ok (.getfield 19, 3) := by decide +kernel
theorem dX4_countFact_52 : decode cX4_countFact 52 = .ok (.invokevirtual 87, 3) := by decide +kernel
theorem dX4_countFact_55 : decode cX4_countFact 55 = .ok (.ireturn, 1) := by decide +kernel
theorem dX4_countFact_56 : decode cX4_countFact 56 = .ok (.aload_n 0, 1) := by decide +kernel
theorem dX4_countFact_57 : decode cX4_countFact 57 = .ok (.getfield 19, 3) := by decide +kernel
theorem dX4_countFact_60 : decode cX4_countFact 60 = .ok (.aload_n 0, 1) := by decide +kernel
theorem dX4_countFact_61 : decode cX4_countFact 61 = .ok (.getfield 10, 3) := by decide +kernel
theorem dX4_countFact_64 : decode cX4_countFact 64 = .ok (.aload_n 0, 1) := by decide +kernel
theorem dX4_countFact_65 : decode cX4_countFact 65 = .ok (.getfield 10, 3) := by decide +kernel
theorem dX4_countFact_68 : decode cX4_countFact 68 = .ok (.invokevirtual 135, 3) := by decide +kernel
theorem dX4_countFact_71 : decode cX4_countFact 71 = .ok (.invokevirtual 145, 3) := by decide +kernel
theorem dX4_countFact_74 : decode cX4_countFact 74 = .ok (.invokevirtual 208, 3) := by decide +kernel
theorem dX4_countFact_77 : decode cX4_countFact 77 = .ok (.ireturn, 1) := by decide +kernel
theorem dX4_countFact_78 : decode cX4_countFact 78 = .ok (.aload_n 0, 1) := by decide +kernel
theorem dX4_countFact_79 : decode cX4_countFact 79 = .ok (.getfield 35, 3) := by decide +kernel
theorem dX4_countFact_82 : decode cX4_countFact 82 = .ok (.invokevirtual 158, 3) := by decide +kernel
theorem dX4_countFact_85 : decode cX4_countFact 85 = .ok (.ireturn, 1) := by decide +kernel
theorem dX4_countFact_86 : decode cX4_countFact 86 = .ok (.aload_n 0, 1) := by decide +kernel
theorem dX4_countFact_87 : decode cX4_countFact 87 = .ok (.getfield 35, 3) := by decide +kernel
theorem dX4_countFact_90 : decode cX4_countFact 90 = .ok (.invokevirtual 166, 3) := by decide +kernel
theorem dX4_countFact_93 : decode cX4_countFact 93 = .ok (.ireturn, 1) := by decide +kernel
theorem dX4_countFact_94 : decode cX4_countFact 94 = .ok (.aload_n 0, 1) := by decide +kernel
theorem dX4_countFact_95 : decode cX4_countFact 95 = .ok (.getfield 35, 3) := by decide +kernel
theorem dX4_countFact_98 : decode cX4_countFact 98 = .ok (.invokevirtual 155, 3) := by decide +kernel
theorem dX4_countFact_101 : decode cX4_countFact 101 = .ok (.ireturn, 1) := by decide +kernel
theorem dX4_countFact_102 : decode cX4_countFact 102 = .ok (.aload_n 0, 1) := by decide +kernel
theorem dX4_countFact_103 : decode cX4_countFact 103 = .ok (.getfield 152, 3) := by decide +kernel
theorem dX4_countFact_106 : decode cX4_countFact 106 = .ok (.ireturn, 1) := by decide +kernel
set_option maxRecDepth 20000 in
theorem ggX4_isSpoiled_X0_kindsOf : GoodIn wsX4_isSpoiled wsX0_kindsOf := goodIn_r _ [7, 8, 9, 29, 30] (by decide +kernel) (by decide +kernel)
set_option maxRecDepth 20000 in
theorem gX4_isSpoiled_X0_kindsOf : GoodIn wsX4_isSpoiled (wsV RX4 145 RX0 yX0_kindsOf wsX0_kindsOf) := goodIn_app (goodIn_of _ (by decide +kernel)) ggX4_isSpoiled_X0_kindsOf
set_option maxRecDepth 20000 in
theorem ggX4_isSpoiled_X1_holding : GoodIn wsX4_isSpoiled wsX1_holding := goodIn_r _ [14, 15, 16, 17, 18, 13, 19, 20, 21, 31, 32, 33] (by decide +kernel) (by decide +kernel)
set_option maxRecDepth 20000 in
theorem gX4_isSpoiled_X1_holding : GoodIn wsX4_isSpoiled (wsV RX4 208 RX1 yX1_holding wsX1_holding) := goodIn_app (goodIn_of _ (by decide +kernel)) ggX4_isSpoiled_X1_holding
end
section
theorem dX4_isSpoiled_0 : decode cX4_isSpoiled 0 = .ok (.aload_n 0, 1) := by decide +kernel
theorem dX4_isSpoiled_1 : decode cX4_isSpoiled 1 = .ok (.getfield 19, 3) := by decide +kernel
theorem dX4_isSpoiled_4 : decode cX4_isSpoiled 4 = .ok (.aload_n 0, 1) := by decide +kernel
theorem dX4_isSpoiled_5 : decode cX4_isSpoiled 5 = .ok (.getfield 10, 3) := by decide +kernel
theorem dX4_isSpoiled_8 : decode cX4_isSpoiled 8 = .ok (.iload_n 1, 1) := by decide +kernel
theorem dX4_isSpoiled_9 : decode cX4_isSpoiled 9 = .ok (.invokevirtual 145, 3) := by decide +kernel
theorem dX4_isSpoiled_12 : decode cX4_isSpoiled 12 = .ok (.invokevirtual 208, 3) := by decide +kernel
theorem dX4_isSpoiled_15 : decode cX4_isSpoiled 15 = .ok (.ifCond .le 7, 3) := by decide +kernel
theorem dX4_isSpoiled_18 : decode cX4_isSpoiled 18 = .ok (.iconst 1, 1) := by decide +kernel
theorem dX4_isSpoiled_19 : decode cX4_isSpoiled 19 = .ok (.goto 4, 3) := by decide +kernel
theorem dX4_isSpoiled_22 : decode cX4_isSpoiled 22 = .ok (.iconst 0, 1) := by decide +kernel
theorem dX4_isSpoiled_23 : decode cX4_isSpoiled 23 = .ok (.ireturn, 1) := by decide +kernel
theorem dX4_isKind_0 : decode cX4_isKind 0 = .ok (.iload_n 0, 1) := by decide +kernel
theorem dX4_isKind_1 : decode cX4_isKind 1 = .ok (.ifCond .lt 13, 3) := by decide +kernel
theorem dX4_isKind_4 : decode cX4_isKind 4 = .ok (.iload_n 0, 1) := by decide +kernel
theorem dX4_isKind_5 : decode cX4_isKind 5 = .ok (.bipush 16, 2) := by decide +kernel
theorem dX4_isKind_7 : decode cX4_isKind 7 = .ok (.if_icmp .ge 7, 3) := by decide +kernel
theorem dX4_isKind_10 : decode cX4_isKind 10 = .ok (.iconst 1, 1) := by decide +kernel
theorem dX4_isKind_11 : decode cX4_isKind 11 = .ok (.goto 4, 3) := by decide +kernel
theorem dX4_isKind_14 : decode cX4_isKind 14 = .ok (.iconst 0, 1) := by decide +kernel
theorem dX4_isKind_15 : decode cX4_isKind 15 = .ok (.ireturn, 1) := by decide +kernel
theorem dX4_hasBit_0 : decode cX4_hasBit 0 = .ok (.iload_n 0, 1) := by decide +kernel
theorem dX4_hasBit_1 : decode cX4_hasBit 1 = .ok (.iload_n 1, 1) := by decide +kernel
theorem dX4_hasBit_2 : decode cX4_hasBit 2 = .ok (.ishr, 1) := by decide +kernel
theorem dX4_hasBit_3 : decode cX4_hasBit 3 = .ok (.iconst 1, 1) := by decide +kernel
theorem dX4_hasBit_4 : decode cX4_hasBit 4 = .ok (.iand, 1) := by decide +kernel
theorem dX4_hasBit_5 : decode cX4_hasBit 5 = .ok (.ifCond .eq 7, 3) := by decide +kernel
theorem dX4_hasBit_8 : decode cX4_hasBit 8 = .ok (.iconst 1, 1) := by decide +kernel
theorem dX4_hasBit_9 : decode cX4_hasBit 9 = .ok (.goto 4, 3) := by decide +kernel
theorem dX4_hasBit_12 : decode cX4_hasBit 12 = .ok (.iconst 0, 1) := by decide +kernel
theorem dX4_hasBit_13 : decode cX4_hasBit 13 = .ok (.ireturn, 1) := by decide +kernel
theorem dX4_withBit_0 : decode cX4_withBit 0 = .ok (.iload_n 2, 1) := by decide +kernel
theorem dX4_withBit_1 : decode cX4_withBit 1 = .ok (.ifCond .eq 11, 3) := by decide +kernel
theorem dX4_withBit_4 : decode cX4_withBit 4 = .ok (.iload_n 0, 1) := by decide +kernel
theorem dX4_withBit_5 : decode cX4_withBit 5 = .ok (.iconst 1, 1) := by decide +kernel
theorem dX4_withBit_6 : decode cX4_withBit 6 = .ok (.iload_n 1, 1) := by decide +kernel
theorem dX4_withBit_7 : decode cX4_withBit 7 = .ok (.ishl, 1) := by decide +kernel
theorem dX4_withBit_8 : decode cX4_withBit 8 = .ok (.ior, 1) := by decide +kernel
theorem dX4_withBit_9 : decode cX4_withBit 9 = .ok (.goto 10, 3) := by decide +kernel
theorem dX4_withBit_12 : decode cX4_withBit 12 = .ok (.iload_n 0, 1) := by decide +kernel
theorem dX4_withBit_13 : decode cX4_withBit 13 = .ok (.iconst 1, 1) := by decide +kernel
theorem dX4_withBit_14 : decode cX4_withBit 14 = .ok (.iload_n 1, 1) := by decide +kernel
theorem dX4_withBit_15 : decode cX4_withBit 15 = .ok (.ishl, 1) := by decide +kernel
theorem dX4_withBit_16 : decode cX4_withBit 16 = .ok (.iconst (-1), 1) := by decide +kernel
theorem dX4_withBit_17 : decode cX4_withBit 17 = .ok (.ixor, 1) := by decide +kernel
theorem dX4_withBit_18 : decode cX4_withBit 18 = .ok (.iand, 1) := by decide +kernel
theorem dX4_withBit_19 : decode cX4_withBit 19 = .ok (.ireturn, 1) := by decide +kernel
theorem dX4_mixed_0 : decode cX4_mixed 0 = .ok (.lload_n 0, 1) := by decide +kernel
theorem dX4_mixed_1 : decode cX4_mixed 1 = .ok (.ldc2_w 211, 3) := by decide +kernel
theorem dX4_mixed_4 : decode cX4_mixed 4 = .ok (.lmul, 1) := by decide +kernel
theorem dX4_mixed_5 : decode cX4_mixed 5 = .ok (.lload_n 2, 1) := by decide +kernel
theorem dX4_mixed_6 : decode cX4_mixed 6 = .ok (.ladd, 1) := by decide +kernel
theorem dX4_mixed_7 : decode cX4_mixed 7 = .ok (.lreturn, 1) := by decide +kernel
theorem dX5_init_0 : decode cX5_init 0 = .ok (.aload_n 0, 1) := by decide +kernel
theorem dX5_init_1 : decode cX5_init 1 = .ok (.invokespecial 1, 3) := by decide +kernel
theorem dX5_init_4 : decode cX5_init 4 = .ok (.aload_n 0, 1) := by decide +kernel
theorem dX5_init_5 : decode cX5_init 5 = .ok (.bipush 24, 2) := by decide +kernel
theorem dX5_init_7 : decode cX5_init 7 = .ok (.newarray .int, 2) := by decide +kernel
theorem dX5_init_9 : decode cX5_init 9 = .ok (.putfield 9, 3) := by decide +kernel
theorem dX5_init_12 : decode cX5_init 12 = .ok (.aload_n 0, 1) := by decide +kernel
theorem dX5_init_13 : decode cX5_init 13 = .ok (.bipush 6, 2) := by decide +kernel
theorem dX5_init_15 : decode cX5_init 15 = .ok (.newarray .int, 2) := by decide +kernel
theorem dX5_init_17 : decode cX5_init 17 = .ok (.putfield 13, 3) := by decide +kernel
theorem dX5_init_20 : decode cX5_init 20 = .ok (.aload_n 0, 1) := by decide +kernel
theorem dX5_init_21 : decode cX5_init 21 = .ok (.bipush 6, 2) := by decide +kernel
theorem dX5_init_23 : decode cX5_init 23 = .ok (.newarray .int, 2) := by decide +kernel
theorem dX5_init_25 : decode cX5_init 25 = .ok (.putfield 16, 3) := by decide +kernel
theorem dX5_init_28 : decode cX5_init 28 = .ok (.aload_n 0, 1) := by decide +kernel
theorem dX5_init_29 : decode cX5_init 29 = .ok (.sipush 4096, 3) := by decide +kernel
theorem dX5_init_32 : decode cX5_init 32 = .ok (.newarray .int, 2) := by decide +kernel
theorem dX5_init_34 : decode cX5_init 34 = .ok (.putfield 19, 3) := by decide +kernel
theorem dX5_init_37 : decode cX5_init 37 = .ok (.aload_n 0, 1) := by decide +kernel
theorem dX5_init_38 : decode cX5_init 38 = .ok (.sipush 2560, 3) := by decide +kernel
theorem dX5_init_41 : decode cX5_init 41 = .ok (.newarray .int, 2) := by decide +kernel
theorem dX5_init_43 : decode cX5_init 43 = .ok (.putfield 22, 3) := by decide +kernel
theorem dX5_init_46 : decode cX5_init 46 = .ok (.aload_n 0, 1) := by decide +kernel
theorem dX5_init_47 : decode cX5_init 47 = .ok (.sipush 2560, 3) := by decide +kernel
theorem dX5_init_50 : decode cX5_init 50 = .ok (.newarray .int, 2) := by decide +kernel
theorem dX5_init_52 : decode cX5_init 52 = .ok (.putfield 25, 3) := by decide +kernel
theorem dX5_init_55 : decode cX5_init 55 = .ok (.return_, 1) := by decide +kernel
theorem dX5_thrown_0 : decode cX5_thrown 0 = .ok (.aload_n 0, 1) := by decide +kernel
theorem dX5_thrown_1 : decode cX5_thrown 1 = .ok (.getfield 28, 3) := by decide +kernel
theorem dX5_thrown_4 : decode cX5_thrown 4 = .ok (.ireturn, 1) := by decide +kernel
theorem dX5_no_0 : decode cX5_no 0 = .ok (.aload_n 0, 1) := by decide +kernel
theorem dX5_no_1 : decode cX5_no 1 = .ok (.iload_n 1, 1) := by decide +kernel
theorem dX5_no_2 : decode cX5_no 2 = .ok (.putfield 28, 3) := by decide +kernel
theorem dX5_no_5 : decode cX5_no 5 = .ok (.iconst 0, 1) := by decide +kernel
theorem dX5_no_6 : decode cX5_no 6 = .ok (.ireturn, 1) := by decide +kernel
theorem dX5_isIn_0 : decode cX5_isIn 0 = .ok (.iload_n 0, 1) := by decide +kernel
theorem dX5_isIn_1 : decode cX5_isIn 1 = .ok (.iload_n 1, 1) := by decide +kernel
theorem dX5_isIn_2 : decode cX5_isIn 2 = .ok (.if_icmp .lt 12, 3) := by decide +kernel
theorem dX5_isIn_5 : decode cX5_isIn 5 = .ok (.iload_n 0, 1) := by decide +kernel
theorem dX5_isIn_6 : decode cX5_isIn 6 = .ok (.iload_n 2, 1) := by decide +kernel
theorem dX5_isIn_7 : decode cX5_isIn 7 = .ok (.if_icmp .gt 7, 3) := by decide +kernel
theorem dX5_isIn_10 : decode cX5_isIn 10 = .ok (.iconst 1, 1) := by decide +kernel
theorem dX5_isIn_11 : decode cX5_isIn 11 = .ok (.goto 4, 3) := by decide +kernel
theorem dX5_isIn_14 : decode cX5_isIn 14 = .ok (.iconst 0, 1) := by decide +kernel
theorem dX5_isIn_15 : decode cX5_isIn 15 = .ok (.ireturn, 1) := by decide +kernel
set_option maxRecDepth 20000 in
theorem ggX5_isRule_X5_isIn : GoodIn wsX5_isRule wsX5_isIn := goodIn_r _ [5] (by decide +kernel) (by decide +kernel)
set_option maxRecDepth 20000 in
theorem gX5_isRule_X5_isIn : GoodIn wsX5_isRule (va_wsS RX5 35 yX5_isIn wsX5_isIn) := goodIn_app (goodIn_of _ (by decide +kernel)) ggX5_isRule_X5_isIn
theorem dX5_isRule_0 : decode cX5_isRule 0 = .ok (.iload_n 1, 1) := by decide +kernel
theorem dX5_isRule_1 : decode cX5_isRule 1 = .ok (.iconst 0, 1) := by decide +kernel
theorem dX5_isRule_2 : decode cX5_isRule 2 = .ok (.aload_n 0, 1) := by decide +kernel
theorem dX5_isRule_3 : decode cX5_isRule 3 = .ok (.getfield 32, 3) := by decide +kernel
theorem dX5_isRule_6 : decode cX5_isRule 6 = .ok (.iconst 1, 1) := by decide +kernel
theorem dX5_isRule_7 : decode cX5_isRule 7 = .ok (.isub, 1) := by decide +kernel
theorem dX5_isRule_8 : decode cX5_isRule 8 = .ok (.invokestatic 35, 3) := by decide +kernel
theorem dX5_isRule_11 : decode cX5_isRule 11 = .ok (.ireturn, 1) := by decide +kernel
set_option maxRecDepth 20000 in
theorem ggX5_isPlace_X5_isIn : GoodIn wsX5_isPlace wsX5_isIn := goodIn_r _ [5] (by decide +kernel) (by decide +kernel)
set_option maxRecDepth 20000 in
theorem gX5_isPlace_X5_isIn : GoodIn wsX5_isPlace (va_wsS RX5 35 yX5_isIn wsX5_isIn) := goodIn_app (goodIn_of _ (by decide +kernel)) ggX5_isPlace_X5_isIn
theorem dX5_isPlace_0 : decode cX5_isPlace 0 = .ok (.iload_n 1, 1) := by decide +kernel
theorem dX5_isPlace_1 : decode cX5_isPlace 1 = .ok (.iconst 0, 1) := by decide +kernel
theorem dX5_isPlace_2 : decode cX5_isPlace 2 = .ok (.aload_n 0, 1) := by decide +kernel
theorem dX5_isPlace_3 : decode cX5_isPlace 3 = .ok (.getfield 39, 3) := by decide +kernel
theorem dX5_isPlace_6 : decode cX5_isPlace 6 = .ok (.iconst 1, 1) := by decide +kernel
theorem dX5_isPlace_7 : decode cX5_isPlace 7 = .ok (.isub, 1) := by decide +kernel
theorem dX5_isPlace_8 : decode cX5_isPlace 8 = .ok (.invokestatic 35, 3) := by decide +kernel
theorem dX5_isPlace_11 : decode cX5_isPlace 11 = .ok (.ireturn, 1) := by decide +kernel
theorem dX5_whole_0 : decode cX5_whole 0 = .ok (.iconst 1, 1) := by decide +kernel
theorem dX5_whole_1 : decode cX5_whole 1 = .ok (.aload_n 0, 1) := by decide +kernel
theorem dX5_whole_2 : decode cX5_whole 2 = .ok (.getfield 39, 3) := by decide +kernel
theorem dX5_whole_5 : decode cX5_whole 5 = .ok (.ishl, 1) := by decide +kernel
theorem dX5_whole_6 : decode cX5_whole 6 = .ok (.iconst 1, 1) := by decide +kernel
theorem dX5_whole_7 : decode cX5_whole 7 = .ok (.isub, 1) := by decide +kernel
theorem dX5_whole_8 : decode cX5_whole 8 = .ok (.ireturn, 1) := by decide +kernel
theorem dX5_kindsOf_0 : decode cX5_kindsOf 0 = .ok (.iconst 0, 1) := by decide +kernel
theorem dX5_kindsOf_1 : decode cX5_kindsOf 1 = .ok (.istore_n 2, 1) := by decide +kernel
theorem dX5_kindsOf_2 : decode cX5_kindsOf 2 = .ok (.iconst 0, 1) := by decide +kernel
theorem dX5_kindsOf_3 : decode cX5_kindsOf 3 = .ok (.istore_n 3, 1) := by decide +kernel
theorem dX5_kindsOf_4 : decode cX5_kindsOf 4 = .ok (.iload_n 3, 1) := by decide +kernel
theorem dX5_kindsOf_5 : decode cX5_kindsOf 5 = .ok (.aload_n 0, 1) := by decide +kernel
theorem dX5_kindsOf_6 : decode cX5_kindsOf 6 = .ok (.getfield 39, 3) := by decide +kernel
theorem dX5_kindsOf_9 : decode cX5_kindsOf 9 = .ok (.if_icmp .ge 29, 3) := by decide +kernel
theorem dX5_kindsOf_12 : decode cX5_kindsOf 12 = .ok (.iload_n 1, 1) := by decide +kernel
theorem dX5_kindsOf_13 : decode cX5_kindsOf 13 = .ok (.iload_n 3, 1) := by decide +kernel
theorem dX5_kindsOf_14 : decode cX5_kindsOf 14 = .ok (.ishr, 1) := by decide +kernel
theorem dX5_kindsOf_15 : decode cX5_kindsOf 15 = .ok (.iconst 1, 1) := by decide +kernel
theorem dX5_kindsOf_16 : decode cX5_kindsOf 16 = .ok (.iand, 1) := by decide +kernel
theorem dX5_kindsOf_17 : decode cX5_kindsOf 17 = .ok (.iconst 1, 1) := by decide +kernel
theorem dX5_kindsOf_18 : decode cX5_kindsOf 18 = .ok (.if_icmp .ne 14, 3) := by decide +kernel
theorem dX5_kindsOf_21 : decode cX5_kindsOf 21 = .ok (.iload_n 2, 1) := by decide +kernel
theorem dX5_kindsOf_22 : decode cX5_kindsOf 22 = .ok (.iconst 1, 1) := by decide +kernel
theorem dX5_kindsOf_23 : decode cX5_kindsOf 23 = .ok (.aload_n 0, 1) := by decide +kernel
theorem dX5_kindsOf_24 : decode cX5_kindsOf 24 = .ok (.getfield 9, 3) := by decide +kernel
theorem dX5_kindsOf_27 : decode cX5_kindsOf 27 = .ok (.iload_n 3, 1) := by decide +kernel
theorem dX5_kindsOf_28 : decode cX5_kindsOf 28 = .ok (.iaload, 1) := by decide +kernel
theorem dX5_kindsOf_29 : decode cX5_kindsOf 29 = .ok (.ishl, 1) := by decide +kernel
theorem dX5_kindsOf_30 : decode cX5_kindsOf 30 = .ok (.ior, 1) := by decide +kernel
theorem dX5_kindsOf_31 : decode cX5_kindsOf 31 = .ok (.istore_n 2, 1) := by decide +kernel
theorem dX5_kindsOf_32 : decode cX5_kindsOf 32 = .ok (.iinc 3 1, 3) := by decide +kernel
theorem dX5_kindsOf_35 : decode cX5_kindsOf 35 = .ok (.goto (-31), 3) := by decide +kernel
theorem dX5_kindsOf_38 : decode cX5_kindsOf 38 = .ok (.iload_n 2, 1) := by decide +kernel
theorem dX5_kindsOf_39 : decode cX5_kindsOf 39 = .ok (.ireturn, 1) := by decide +kernel
theorem dX5_holds_0 : decode cX5_holds 0 = .ok (.aload_n 0, 1) := by decide +kernel
theorem dX5_holds_1 : decode cX5_holds 1 = .ok (.getfield 13, 3) := by decide +kernel
theorem dX5_holds_4 : decode cX5_holds 4 = .ok (.iload_n 1, 1) := by decide +kernel
theorem dX5_holds_5 : decode cX5_holds 5 = .ok (.iaload, 1) := by decide +kernel
theorem dX5_holds_6 : decode cX5_holds 6 = .ok (.ifCond .eq 31, 3) := by decide +kernel
theorem dX5_holds_9 : decode cX5_holds 9 = .ok (.aload_n 0, 1) := by decide +kernel
theorem dX5_holds_10 : decode cX5_holds 10 = .ok (.getfield 13, 3) := by decide +kernel
theorem dX5_holds_13 : decode cX5_holds 13 = .ok (.iload_n 1, 1) := by decide +kernel
theorem dX5_holds_14 : decode cX5_holds 14 = .ok (.iaload, 1) := by decide +kernel
theorem dX5_holds_15 : decode cX5_holds 15 = .ok (.iload_n 2, 1) := by decide +kernel
theorem dX5_holds_16 : decode cX5_holds 16 = .ok (.iconst (-1), 1) := by decide +kernel
theorem dX5_holds_17 : decode cX5_holds 17 = .ok (.ixor, 1) := by decide +kernel
theorem dX5_holds_18 : decode cX5_holds 18 = .ok (.iand, 1) := by decide +kernel
theorem dX5_holds_19 : decode cX5_holds 19 = .ok (.ifCond .ne 18, 3) := by decide +kernel
theorem dX5_holds_22 : decode cX5_holds 22 = .ok (.aload_n 0, 1) := by decide +kernel
theorem dX5_holds_23 : decode cX5_holds 23 = .ok (.getfield 16, 3) := by decide +kernel
theorem dX5_holds_26 : decode cX5_holds 26 = .ok (.iload_n 1, 1) := by decide +kernel
theorem dX5_holds_27 : decode cX5_holds 27 = .ok (.iaload, 1) := by decide +kernel
theorem dX5_holds_28 : decode cX5_holds 28 = .ok (.iload_n 2, 1) := by decide +kernel
theorem dX5_holds_29 : decode cX5_holds 29 = .ok (.iand, 1) := by decide +kernel
theorem dX5_holds_30 : decode cX5_holds 30 = .ok (.ifCond .ne 7, 3) := by decide +kernel
theorem dX5_holds_33 : decode cX5_holds 33 = .ok (.iconst 1, 1) := by decide +kernel
theorem dX5_holds_34 : decode cX5_holds 34 = .ok (.goto 4, 3) := by decide +kernel
theorem dX5_holds_37 : decode cX5_holds 37 = .ok (.iconst 0, 1) := by decide +kernel
theorem dX5_holds_38 : decode cX5_holds 38 = .ok (.ireturn, 1) := by decide +kernel
set_option maxRecDepth 20000 in
theorem ggX5_isSpoilt_X5_kindsOf : GoodIn wsX5_isSpoilt wsX5_kindsOf := goodIn_r _ [6, 7, 8, 15, 16, 17, 18, 19, 20, 21, 22, 23, 24, 25, 26, 27, 28, 29, 30, 31] (by decide +kernel) (by decide +kernel)
set_option maxRecDepth 20000 in
theorem gX5_isSpoilt_X5_kindsOf : GoodIn wsX5_isSpoilt (wsV RX5 42 RX5 yX5_kindsOf wsX5_kindsOf) := goodIn_app (goodIn_of _ (by decide +kernel)) ggX5_isSpoilt_X5_kindsOf
set_option maxRecDepth 20000 in
theorem ggX5_isSpoilt_X5_holds : GoodIn wsX5_isSpoilt wsX5_holds := goodIn_r _ [12, 13, 14, 15, 16, 17, 18, 19, 20, 21, 22, 23, 24, 25, 26, 27, 28, 29, 30, 31] (by decide +kernel) (by decide +kernel)
set_option maxRecDepth 20000 in
theorem gX5_isSpoilt_X5_holds : GoodIn wsX5_isSpoilt (wsV RX5 46 RX5 yX5_holds wsX5_holds) := goodIn_app (goodIn_of _ (by decide +kernel)) ggX5_isSpoilt_X5_holds
theorem dX5_isSpoilt_0 : decode cX5_isSpoilt 0 = .ok (.aload_n 0, 1) := by decide +kernel
theorem dX5_isSpoilt_1 : decode cX5_isSpoilt 1 = .ok (.iload_n 1, 1) := by decide +kernel
theorem dX5_isSpoilt_2 : decode cX5_isSpoilt 2 = .ok (.invokevirtual 42, 3) := by decide +kernel
theorem dX5_isSpoilt_5 : decode cX5_isSpoilt 5 = .ok (.istore_n 2, 1) := by decide +kernel
theorem dX5_isSpoilt_6 : decode cX5_isSpoilt 6 = .ok (.iconst 0, 1) := by decide +kernel
theorem dX5_isSpoilt_7 : decode cX5_isSpoilt 7 = .ok (.istore_n 3, 1) := by decide +kernel
theorem dX5_isSpoilt_8 : decode cX5_isSpoilt 8 = .ok (.iload_n 3, 1) := by decide +kernel
theorem dX5_isSpoilt_9 : decode cX5_isSpoilt 9 = .ok (.aload_n 0, 1) := by decide +kernel
theorem dX5_isSpoilt_10 : decode cX5_isSpoilt 10 = .ok (.getfield 32, 3) := by decide +kernel
theorem dX5_isSpoilt_13 : decode cX5_isSpoilt 13 = .ok (.if_icmp .ge 20, 3) := by decide +kernel
theorem dX5_isSpoilt_16 : decode cX5_isSpoilt 16 = .ok (.aload_n 0, 1) := by decide +kernel
theorem dX5_isSpoilt_17 : decode cX5_isSpoilt 17 = .ok (.iload_n 3, 1) := by decide +kernel
theorem dX5_isSpoilt_18 : decode cX5_isSpoilt 18 = .ok (.iload_n 2, 1) := by decide +kernel
theorem dX5_isSpoilt_19 : decode cX5_isSpoilt 19 = .ok (.invokevirtual 46, 3) := by decide +kernel
theorem dX5_isSpoilt_22 : decode cX5_isSpoilt 22 = .ok (.ifCond .eq 5, 3) := by decide +kernel
theorem dX5_isSpoilt_25 : decode cX5_isSpoilt 25 = .ok (.iconst 1, 1) := by decide +kernel
theorem dX5_isSpoilt_26 : decode cX5_isSpoilt 26 = .ok (.ireturn, 1) := by decide +kernel
theorem dX5_isSpoilt_27 : decode cX5_isSpoilt 27 = .ok (.iinc 3 1, 3) := by decide +kernel
theorem dX5_isSpoilt_30 : decode cX5_isSpoilt 30 = .ok (.goto (-22), 3) := by decide +kernel
theorem dX5_isSpoilt_33 : decode cX5_isSpoilt 33 = .ok (.iconst 0, 1) := by decide +kernel
theorem dX5_isSpoilt_34 : decode cX5_isSpoilt 34 = .ok (.ireturn, 1) := by decide +kernel
set_option maxRecDepth 20000 in
theorem ggX5_taste_X5_isSpoilt : GoodIn wsX5_taste wsX5_isSpoilt := goodIn_r _ [7, 8, 9, 10, 11, 6, 12, 13, 14, 15, 16, 17, 18, 19, 20, 21, 22, 23, 24, 25, 26, 27, 28, 29, 30, 31, 32, 33, 34, 35, 36, 37] (by decide +kernel) (by decide +kernel)
set_option maxRecDepth 20000 in
theorem gX5_taste_X5_isSpoilt : GoodIn wsX5_taste (wsV RX5 53 RX5 yX5_isSpoilt wsX5_isSpoilt) := goodIn_app (goodIn_of _ (by decide +kernel)) ggX5_taste_X5_isSpoilt
theorem dX5_taste_0 : decode cX5_taste 0 = .ok (.iconst 1, 1) := by decide +kernel
theorem dX5_taste_1 : decode cX5_taste 1 = .ok (.istore_n 2, 1) := by decide +kernel
theorem dX5_taste_2 : decode cX5_taste 2 = .ok (.iconst 0, 1) := by decide +kernel
theorem dX5_taste_3 : decode cX5_taste 3 = .ok (.istore_n 3, 1) := by decide +kernel
theorem dX5_taste_4 : decode cX5_taste 4 = .ok (.iload_n 3, 1) := by decide +kernel
theorem dX5_taste_5 : decode cX5_taste 5 = .ok (.aload_n 0, 1) := by decide +kernel
theorem dX5_taste_6 : decode cX5_taste 6 = .ok (.getfield 50, 3) := by decide +kernel
theorem dX5_taste_9 : decode cX5_taste 9 = .ok (.if_icmp .ge 29, 3) := by decide +kernel
theorem dX5_taste_12 : decode cX5_taste 12 = .ok (.iload_n 2, 1) := by decide +kernel
theorem dX5_taste_13 : decode cX5_taste 13 = .ok (.ifCond .eq 25, 3) := by decide +kernel
theorem dX5_taste_16 : decode cX5_taste 16 = .ok (.aload_n 0, 1) := by decide +kernel
theorem dX5_taste_17 : decode cX5_taste 17 = .ok (.getfield 19, 3) := by decide +kernel
theorem dX5_taste_20 : decode cX5_taste 20 = .ok (.iload_n 3, 1) := by decide +kernel
theorem dX5_taste_21 : decode cX5_taste 21 = .ok (.iaload, 1) := by decide +kernel
theorem dX5_taste_22 : decode cX5_taste 22 = .ok (.iload_n 1, 1) := by decide +kernel
theorem dX5_taste_23 : decode cX5_taste 23 = .ok (.if_icmp .eq 7, 3) := by decide +kernel
theorem dX5_taste_26 : decode cX5_taste 26 = .ok (.iconst 1, 1) := by decide +kernel
theorem dX5_taste_27 : decode cX5_taste 27 = .ok (.goto 4, 3) := by decide +kernel
theorem dX5_taste_30 : decode cX5_taste 30 = .ok (.iconst 0, 1) := by decide +kernel
theorem dX5_taste_31 : decode cX5_taste 31 = .ok (.istore_n 2, 1) := by decide +kernel
theorem dX5_taste_32 : decode cX5_taste 32 = .ok (.iinc 3 1, 3) := by decide +kernel
theorem dX5_taste_35 : decode cX5_taste 35 = .ok (.goto (-31), 3) := by decide +kernel
theorem dX5_taste_38 : decode cX5_taste 38 = .ok (.iload_n 2, 1) := by decide +kernel
theorem dX5_taste_39 : decode cX5_taste 39 = .ok (.ifCond .eq 23, 3) := by decide +kernel
theorem dX5_taste_42 : decode cX5_taste 42 = .ok (.aload_n 0, 1) := by decide +kernel
theorem dX5_taste_43 : decode cX5_taste 43 = .ok (.getfield 19, 3) := by decide +kernel
theorem dX5_taste_46 : decode cX5_taste 46 = .ok (.aload_n 0, 1) := by decide +kernel
theorem dX5_taste_47 : decode cX5_taste 47 = .ok (.getfield 50, 3) := by decide +kernel
theorem dX5_taste_50 : decode cX5_taste 50 = .ok (.iload_n 1, 1) := by decide +kernel
theorem dX5_taste_51 : decode cX5_taste 51 = .ok (.iastore, 1) := by decide +kernel
theorem dX5_taste_52 : decode cX5_taste 52 = .ok (.aload_n 0, 1) := by decide +kernel
theorem dX5_taste_53 : decode cX5_taste 53 = .ok (.dup, 1) := by decide +kernel
theorem dX5_taste_54 : decode cX5_taste 54 = .ok (.getfield 50, 3) := by decide +kernel
theorem dX5_taste_57 : decode cX5_taste 57 = .ok (.iconst 1, 1) := by decide +kernel
theorem dX5_taste_58 : decode cX5_taste 58 = .ok (.iadd, 1) := by decide +kernel
theorem dX5_taste_59 : decode cX5_taste 59 = .ok (.putfield 50, 3) := by decide +kernel
theorem dX5_taste_62 : decode cX5_taste 62 = .ok (.aload_n 0, 1) := by decide +kernel
theorem dX5_taste_63 : decode cX5_taste 63 = .ok (.iload_n 1, 1) := by decide +kernel
theorem dX5_taste_64 : decode cX5_taste 64 = .ok (.invokevirtual 53, 3) := by decide +kernel
theorem dX5_taste_67 : decode cX5_taste 67 = .ok (.ireturn, 1) := by decide +kernel
theorem dX5_note_0 : decode cX5_note 0 = .ok (.iconst 5, 1) := by decide +kernel
theorem dX5_note_1 : decode cX5_note 1 = .ok (.aload_n 0, 1) := by decide +kernel
theorem dX5_note_2 : decode cX5_note 2 = .ok (.getfield 57, 3) := by decide +kernel
theorem dX5_note_5 : decode cX5_note 5 = .ok (.imul, 1) := by decide +kernel
theorem dX5_note_6 : decode cX5_note 6 = .ok (.istore 6, 2) := by decide +kernel
theorem dX5_note_8 : decode cX5_note 8 = .ok (.aload_n 0, 1) := by decide +kernel
theorem dX5_note_9 : decode cX5_note 9 = .ok (.getfield 22, 3) := by decide +kernel
theorem dX5_note_12 : decode cX5_note 12 = .ok (.iload 6, 2) := by decide +kernel
theorem dX5_note_14 : decode cX5_note 14 = .ok (.iload_n 1, 1) := by decide +kernel
theorem dX5_note_15 : decode cX5_note 15 = .ok (.iastore, 1) := by decide +kernel
theorem dX5_note_16 : decode cX5_note 16 = .ok (.aload_n 0, 1) := by decide +kernel
theorem dX5_note_17 : decode cX5_note 17 = .ok (.getfield 22, 3) := by decide +kernel
theorem dX5_note_20 : decode cX5_note 20 = .ok (.iload 6, 2) := by decide +kernel
theorem dX5_note_22 : decode cX5_note 22 = .ok (.iconst 1, 1) := by decide +kernel
theorem dX5_note_23 : decode cX5_note 23 = .ok (.iadd, 1) := by decide +kernel
theorem dX5_note_24 : decode cX5_note 24 = .ok (.iload_n 2, 1) := by decide +kernel
theorem dX5_note_25 : decode cX5_note 25 = .ok (.iastore, 1) := by decide +kernel
theorem dX5_note_26 : decode cX5_note 26 = .ok (.aload_n 0, 1) := by decide +kernel
theorem dX5_note_27 : decode cX5_note 27 = .ok (.getfield 22, 3) := by decide +kernel
theorem dX5_note_30 : decode cX5_note 30 = .ok (.iload 6, 2) := by decide +kernel
theorem dX5_note_32 : decode cX5_note 32 = .ok (.iconst 2, 1) := by decide +kernel
theorem dX5_note_33 : decode cX5_note 33 = .ok (.iadd, 1) := by decide +kernel
theorem dX5_note_34 : decode cX5_note 34 = .ok (.iload_n 3, 1) := by decide +kernel
theorem dX5_note_35 : decode cX5_note 35 = .ok (.iastore, 1) := by decide +kernel
theorem dX5_note_36 : decode cX5_note 36 = .ok (.aload_n 0, 1) := by decide +kernel
theorem dX5_note_37 : decode cX5_note 37 = .ok (.getfield 22, 3) := by decide +kernel
theorem dX5_note_40 : decode cX5_note 40 = .ok (.iload 6, 2) := by decide +kernel
theorem dX5_note_42 : decode cX5_note 42 = .ok (.iconst 3, 1) := by decide +kernel
theorem dX5_note_43 : decode cX5_note 43 = .ok (.iadd, 1) := by decide +kernel
theorem dX5_note_44 : decode cX5_note 44 = .ok (.iload 4, 2) := by decide +kernel
theorem dX5_note_46 : decode cX5_note 46 = .ok (.iastore, 1) := by decide +kernel
theorem dX5_note_47 : decode cX5_note 47 = .ok (.aload_n 0, 1) := by decide +kernel
theorem dX5_note_48 : decode cX5_note 48 = .ok (.getfield 22, 3) := by decide +kernel
theorem dX5_note_51 : decode cX5_note 51 = .ok (.iload 6, 2) := by decide +kernel
theorem dX5_note_53 : decode cX5_note 53 = .ok (.iconst 4, 1) := by decide +kernel
theorem dX5_note_54 : decode cX5_note 54 = .ok (.iadd, 1) := by decide +kernel
theorem dX5_note_55 : decode cX5_note 55 = .ok (.iload 5, 2) := by decide +kernel
theorem dX5_note_57 : decode cX5_note 57 = .ok (.iastore, 1) := by decide +kernel
theorem dX5_note_58 : decode cX5_note 58 = .ok (.aload_n 0, 1) := by decide +kernel
theorem dX5_note_59 : decode cX5_note 59 = .ok (.dup, 1) := by decide +kernel
theorem dX5_note_60 : decode cX5_note 60 = .ok (.getfield 57, 3) := by decide +kernel
theorem dX5_note_63 : decode cX5_note 63 = .ok (.iconst 1, 1) := by decide +kernel
theorem dX5_note_64 : decode cX5_note 64 = .ok (.iadd, 1) := by decide +kernel
theorem dX5_note_65 : decode cX5_note 65 = .ok (.putfield 57, 3) := by decide +kernel
theorem dX5_note_68 : decode cX5_note 68 = .ok (.return_, 1) := by decide +kernel
theorem dX5_part_0 : decode cX5_part 0 = .ok (.iconst 0, 1) := by decide +kernel
theorem dX5_part_1 : decode cX5_part 1 = .ok (.istore_n 3, 1) := by decide +kernel
theorem dX5_part_2 : decode cX5_part 2 = .ok (.iconst 0, 1) := by decide +kernel
theorem dX5_part_3 : decode cX5_part 3 = .ok (.istore 4, 2) := by decide +kernel
theorem dX5_part_5 : decode cX5_part 5 = .ok (.iconst 0, 1) := by decide +kernel
theorem dX5_part_6 : decode cX5_part 6 = .ok (.istore 5, 2) := by decide +kernel
theorem dX5_part_8 : decode cX5_part 8 = .ok (.iload 5, 2) := by decide +kernel
theorem dX5_part_10 : decode cX5_part 10 = .ok (.bipush 24, 2) := by decide +kernel
theorem dX5_part_12 : decode cX5_part 12 = .ok (.if_icmp .ge 43, 3) := by decide +kernel
theorem dX5_part_15 : decode cX5_part 15 = .ok (.iload_n 0, 1) := by decide +kernel
theorem dX5_part_16 : decode cX5_part 16 = .ok (.iload 5, 2) := by decide +kernel
theorem dX5_part_18 : decode cX5_part 18 = .ok (.ishr, 1) := by decide +kernel
theorem dX5_part_19 : decode cX5_part 19 = .ok (.iconst 1, 1) := by decide +kernel
theorem dX5_part_20 : decode cX5_part 20 = .ok (.iand, 1) := by decide +kernel
theorem dX5_part_21 : decode cX5_part 21 = .ok (.ifCond .ne 6, 3) := by decide +kernel
theorem dX5_part_24 : decode cX5_part 24 = .ok (.goto 25, 3) := by decide +kernel
theorem dX5_part_27 : decode cX5_part 27 = .ok (.iload 4, 2) := by decide +kernel
theorem dX5_part_29 : decode cX5_part 29 = .ok (.iload_n 1, 1) := by decide +kernel
theorem dX5_part_30 : decode cX5_part 30 = .ok (.if_icmp .lt 16, 3) := by decide +kernel
theorem dX5_part_33 : decode cX5_part 33 = .ok (.iload 4, 2) := by decide +kernel
theorem dX5_part_35 : decode cX5_part 35 = .ok (.iload_n 2, 1) := by decide +kernel
theorem dX5_part_36 : decode cX5_part 36 = .ok (.if_icmp .ge 10, 3) := by decide +kernel
theorem dX5_part_39 : decode cX5_part 39 = .ok (.iload_n 3, 1) := by decide +kernel
theorem dX5_part_40 : decode cX5_part 40 = .ok (.iconst 1, 1) := by decide +kernel
theorem dX5_part_41 : decode cX5_part 41 = .ok (.iload 5, 2) := by decide +kernel
theorem dX5_part_43 : decode cX5_part 43 = .ok (.ishl, 1) := by decide +kernel
theorem dX5_part_44 : decode cX5_part 44 = .ok (.ior, 1) := by decide +kernel
theorem dX5_part_45 : decode cX5_part 45 = .ok (.istore_n 3, 1) := by decide +kernel
theorem dX5_part_46 : decode cX5_part 46 = .ok (.iinc 4 1, 3) := by decide +kernel
theorem dX5_part_49 : decode cX5_part 49 = .ok (.iinc 5 1, 3) := by decide +kernel
theorem dX5_part_52 : decode cX5_part 52 = .ok (.goto (-44), 3) := by decide +kernel
theorem dX5_part_55 : decode cX5_part 55 = .ok (.iload_n 3, 1) := by decide +kernel
theorem dX5_part_56 : decode cX5_part 56 = .ok (.ireturn, 1) := by decide +kernel
set_option maxRecDepth 20000 in
theorem ggX5_partOf_J6_bitCount_0f7a4 : GoodIn wsX5_partOf wsJ6_bitCount_0f7a4 := goodIn_r _ [4, 5, 6, 7] (by decide +kernel) (by decide +kernel)
set_option maxRecDepth 20000 in
theorem gX5_partOf_J6_bitCount_0f7a4 : GoodIn wsX5_partOf (va_wsS RX5 60 yJ6_bitCount_0f7a4 wsJ6_bitCount_0f7a4) := goodIn_app (goodIn_of _ (by decide +kernel)) ggX5_partOf_J6_bitCount_0f7a4
set_option maxRecDepth 20000 in
theorem ggX5_partOf_X5_part : GoodIn wsX5_partOf wsX5_part := goodIn_r _ [11] (by decide +kernel) (by decide +kernel)
set_option maxRecDepth 20000 in
theorem gX5_partOf_X5_part : GoodIn wsX5_partOf (va_wsS RX5 65 yX5_part wsX5_part) := goodIn_app (goodIn_of _ (by decide +kernel)) ggX5_partOf_X5_part
theorem dX5_partOf_0 : decode cX5_partOf 0 = .ok (.iload_n 0, 1) := by decide +kernel
theorem dX5_partOf_1 : decode cX5_partOf 1 = .ok (.invokestatic 60, 3) := by decide +kernel
theorem dX5_partOf_4 : decode cX5_partOf 4 = .ok (.istore_n 3, 1) := by decide +kernel
theorem dX5_partOf_5 : decode cX5_partOf 5 = .ok (.iload_n 0, 1) := by decide +kernel
theorem dX5_partOf_6 : decode cX5_partOf 6 = .ok (.iload_n 1, 1) := by decide +kernel
theorem dX5_partOf_7 : decode cX5_partOf 7 = .ok (.iload_n 3, 1) := by decide +kernel
theorem dX5_partOf_8 : decode cX5_partOf 8 = .ok (.imul, 1) := by decide +kernel
theorem dX5_partOf_9 : decode cX5_partOf 9 = .ok (.iload_n 2, 1) := by decide +kernel
theorem dX5_partOf_10 : decode cX5_partOf 10 = .ok (.idiv, 1) := by decide +kernel
theorem dX5_partOf_11 : decode cX5_partOf 11 = .ok (.iload_n 1, 1) := by decide +kernel
theorem dX5_partOf_12 : decode cX5_partOf 12 = .ok (.iconst 1, 1) := by decide +kernel
theorem dX5_partOf_13 : decode cX5_partOf 13 = .ok (.iadd, 1) := by decide +kernel
theorem dX5_partOf_14 : decode cX5_partOf 14 = .ok (.iload_n 3, 1) := by decide +kernel
theorem dX5_partOf_15 : decode cX5_partOf 15 = .ok (.imul, 1) := by decide +kernel
theorem dX5_partOf_16 : decode cX5_partOf 16 = .ok (.iload_n 2, 1) := by decide +kernel
theorem dX5_partOf_17 : decode cX5_partOf 17 = .ok (.idiv, 1) := by decide +kernel
theorem dX5_partOf_18 : decode cX5_partOf 18 = .ok (.invokestatic 65, 3) := by decide +kernel
theorem dX5_partOf_21 : decode cX5_partOf 21 = .ok (.ireturn, 1) := by decide +kernel
set_option maxRecDepth 20000 in
theorem ggX5_first_X5_partOf : GoodIn wsX5_first wsX5_partOf := goodIn_r _ [4, 5, 6, 7, 8, 9, 10, 11, 12, 13, 3, 14] (by decide +kernel) (by decide +kernel)
set_option maxRecDepth 20000 in
theorem gX5_first_X5_partOf : GoodIn wsX5_first (va_wsS RX5 69 yX5_partOf wsX5_partOf) := goodIn_app (goodIn_of _ (by decide +kernel)) ggX5_first_X5_partOf
set_option maxRecDepth 20000 in
theorem ggX5_first_X5_taste : GoodIn wsX5_first wsX5_taste := goodIn_r _ [18, 19, 20, 21, 22, 23, 3, 24, 25, 26, 27, 28, 29, 30, 31, 32, 33, 34, 35, 36, 37, 38, 39, 40, 41, 42, 43, 44, 45, 46, 47, 48, 49, 50, 51, 52, 53, 54] (by decide +kernel) (by decide +kernel)
set_option maxRecDepth 20000 in
theorem gX5_first_X5_taste : GoodIn wsX5_first (wsV RX5 72 RX5 yX5_taste wsX5_taste) := goodIn_app (goodIn_of _ (by decide +kernel)) ggX5_first_X5_taste
theorem dX5_first_0 : decode cX5_first 0 = .ok (.iconst 0, 1) := by decide +kernel
theorem dX5_first_1 : decode cX5_first 1 = .ok (.istore 4, 2) := by decide +kernel
theorem dX5_first_3 : decode cX5_first 3 = .ok (.iload 4, 2) := by decide +kernel
theorem dX5_first_5 : decode cX5_first 5 = .ok (.iload_n 2, 1) := by decide +kernel
theorem dX5_first_6 : decode cX5_first 6 = .ok (.if_icmp .ge 44, 3) := by decide +kernel
theorem dX5_first_9 : decode cX5_first 9 = .ok (.aload_n 0, 1) := by decide +kernel
theorem dX5_first_10 : decode cX5_first 10 = .ok (.iload_n 3, 1) := by decide +kernel
theorem dX5_first_11 : decode cX5_first 11 = .ok (.ifCond .eq 17, 3) := by decide +kernel
theorem dX5_first_14 : decode cX5_first 14 = .ok (.iload_n 1, 1) := by decide +kernel
theorem dX5_first_15 : decode cX5_first 15 = .ok (.iload_n 1, 1) := by decide +kernel
theorem dX5_first_16 : decode cX5_first 16 = .ok (.iload 4, 2) := by decide +kernel
theorem dX5_first_18 : decode cX5_first 18 = .ok (.iload_n 2, 1) := by decide +kernel
theorem dX5_first_19 : decode cX5_first 19 = .ok (.invokestatic 69, 3) := by decide +kernel
theorem dX5_first_22 : decode cX5_first 22 = .ok (.iconst (-1), 1) := by decide +kernel
theorem dX5_first_23 : decode cX5_first 23 = .ok (.ixor, 1) := by decide +kernel
theorem dX5_first_24 : decode cX5_first 24 = .ok (.iand, 1) := by decide +kernel
theorem dX5_first_25 : decode cX5_first 25 = .ok (.goto 10, 3) := by decide +kernel
theorem dX5_first_28 : decode cX5_first 28 = .ok (.iload_n 1, 1) := by decide +kernel
theorem dX5_first_29 : decode cX5_first 29 = .ok (.iload 4, 2) := by decide +kernel
theorem dX5_first_31 : decode cX5_first 31 = .ok (.iload_n 2, 1) := by decide +kernel
theorem dX5_first_32 : decode cX5_first 32 = .ok (.invokestatic 69, 3) := by decide +kernel
theorem dX5_first_35 : decode cX5_first 35 = .ok (.invokevirtual 72, 3) := by decide +kernel
theorem dX5_first_38 : decode cX5_first 38 = .ok (.ifCond .eq 6, 3) := by decide +kernel
theorem dX5_first_41 : decode cX5_first 41 = .ok (.iload 4, 2) := by decide +kernel
theorem dX5_first_43 : decode cX5_first 43 = .ok (.ireturn, 1) := by decide +kernel
theorem dX5_first_44 : decode cX5_first 44 = .ok (.iinc 4 1, 3) := by decide +kernel
theorem dX5_first_47 : decode cX5_first 47 = .ok (.goto (-44), 3) := by decide +kernel
theorem dX5_first_50 : decode cX5_first 50 = .ok (.iconst (-1), 1) := by decide +kernel
theorem dX5_first_51 : decode cX5_first 51 = .ok (.ireturn, 1) := by decide +kernel
set_option maxRecDepth 20000 in
theorem ggX5_halve_X5_whole : GoodIn wsX5_halve wsX5_whole := goodIn_r _ [11, 12, 56, 57, 58, 59, 60, 61, 62, 63, 64, 65, 66, 67, 68, 69, 70, 71, 72] (by decide +kernel) (by decide +kernel)
set_option maxRecDepth 20000 in
theorem gX5_halve_X5_whole : GoodIn wsX5_halve (wsV RX5 75 RX5 yX5_whole wsX5_whole) := goodIn_app (goodIn_of _ (by decide +kernel)) ggX5_halve_X5_whole
set_option maxRecDepth 20000 in
theorem ggX5_halve_X5_taste : GoodIn wsX5_halve wsX5_taste := goodIn_r _ [16, 1, 17, 18, 19, 20, 10, 21, 22, 23, 24, 25, 26, 12, 27, 28, 29, 30, 31, 32, 33, 56, 57, 58, 59, 60, 61, 62, 63, 64, 65, 66, 67, 68, 69, 70, 71, 72] (by decide +kernel) (by decide +kernel)
set_option maxRecDepth 20000 in
theorem gX5_halve_X5_taste : GoodIn wsX5_halve (wsV RX5 72 RX5 yX5_taste wsX5_taste) := goodIn_app (goodIn_of _ (by decide +kernel)) ggX5_halve_X5_taste
set_option maxRecDepth 20000 in
theorem ggX5_halve_J6_bitCount_0f7a4 : GoodIn wsX5_halve wsJ6_bitCount_0f7a4 := goodIn_r _ [37, 38, 39, 40] (by decide +kernel) (by decide +kernel)
set_option maxRecDepth 20000 in
theorem gX5_halve_J6_bitCount_0f7a4 : GoodIn wsX5_halve (va_wsS RX5 60 yJ6_bitCount_0f7a4 wsJ6_bitCount_0f7a4) := goodIn_app (goodIn_of _ (by decide +kernel)) ggX5_halve_J6_bitCount_0f7a4
set_option maxRecDepth 20000 in
theorem ggX5_halve_X5_first : GoodIn wsX5_halve wsX5_first := goodIn_r _ [44, 45, 46, 10, 47, 34, 35, 36, 37, 38, 39, 40, 48, 49, 50, 13, 14, 15, 16, 1, 17, 18, 19, 20, 21, 22, 23, 24, 25, 26, 12, 27, 28, 29, 30, 31, 32, 33, 56, 57, 58, 59, 60, 61, 62, 63, 64, 65, 66, 67, 68, 69, 70, 71, 72] (by decide +kernel) (by decide +kernel)
set_option maxRecDepth 20000 in
theorem gX5_halve_X5_first : GoodIn wsX5_halve (wsV RX5 79 RX5 yX5_first wsX5_first) := goodIn_app (goodIn_of _ (by decide +kernel)) ggX5_halve_X5_first
set_option maxRecDepth 20000 in
theorem ggX5_halve_X5_partOf : GoodIn wsX5_halve wsX5_partOf := goodIn_r _ [47, 34, 35, 36, 37, 38, 39, 40, 48, 49, 10, 50] (by decide +kernel) (by decide +kernel)
set_option maxRecDepth 20000 in
theorem gX5_halve_X5_partOf : GoodIn wsX5_halve (va_wsS RX5 69 yX5_partOf wsX5_partOf) := goodIn_app (goodIn_of _ (by decide +kernel)) ggX5_halve_X5_partOf
set_option maxRecDepth 20000 in
theorem ggX5_halve_X5_note : GoodIn wsX5_halve wsX5_note := goodIn_r _ [54, 2, 55, 56, 57, 58, 59, 60, 61, 62, 63, 64, 65, 66, 67, 68, 69, 70, 71, 72] (by decide +kernel) (by decide +kernel)
set_option maxRecDepth 20000 in
theorem gX5_halve_X5_note : GoodIn wsX5_halve (wsV RX5 83 RX5 yX5_note wsX5_note) := goodIn_app (goodIn_of _ (by decide +kernel)) ggX5_halve_X5_note
theorem dX5_halve_0 : decode cX5_halve 0 = .ok (.aload_n 0, 1) := by decide +kernel
theorem dX5_halve_1 : decode cX5_halve 1 = .ok (.iconst 0, 1) := by decide +kernel
theorem dX5_halve_2 : decode cX5_halve 2 = .ok (.putfield 50, 3) := by decide +kernel
theorem dX5_halve_5 : decode cX5_halve 5 = .ok (.aload_n 0, 1) := by decide +kernel
theorem dX5_halve_6 : decode cX5_halve 6 = .ok (.iconst 0, 1) := by decide +kernel
theorem dX5_halve_7 : decode cX5_halve 7 = .ok (.putfield 57, 3) := by decide +kernel
theorem dX5_halve_10 : decode cX5_halve 10 = .ok (.aload_n 0, 1) := by decide +kernel
theorem dX5_halve_11 : decode cX5_halve 11 = .ok (.invokevirtual 75, 3) := by decide +kernel
theorem dX5_halve_14 : decode cX5_halve 14 = .ok (.istore_n 1, 1) := by decide +kernel
theorem dX5_halve_15 : decode cX5_halve 15 = .ok (.aload_n 0, 1) := by decide +kernel
theorem dX5_halve_16 : decode cX5_halve 16 = .ok (.iload_n 1, 1) := by decide +kernel
theorem dX5_halve_17 : decode cX5_halve 17 = .ok (.invokevirtual 72, 3) := by decide +kernel
theorem dX5_halve_20 : decode cX5_halve 20 = .ok (.ifCond .ne 5, 3) := by decide +kernel
theorem dX5_halve_23 : decode cX5_halve 23 = .ok (.iconst 0, 1) := by decide +kernel
theorem dX5_halve_24 : decode cX5_halve 24 = .ok (.ireturn, 1) := by decide +kernel
theorem dX5_halve_25 : decode cX5_halve 25 = .ok (.iconst 2, 1) := by decide +kernel
theorem dX5_halve_26 : decode cX5_halve 26 = .ok (.istore_n 2, 1) := by decide +kernel
theorem dX5_halve_27 : decode cX5_halve 27 = .ok (.iload_n 1, 1) := by decide +kernel
theorem dX5_halve_28 : decode cX5_halve 28 = .ok (.invokestatic 60, 3) := by decide +kernel
theorem dX5_halve_31 : decode cX5_halve 31 = .ok (.iconst 1, 1) := by decide +kernel
theorem dX5_halve_32 : decode cX5_halve 32 = .ok (.if_icmp .le 124, 3) := by decide +kernel
theorem dX5_halve_35 : decode cX5_halve 35 = .ok (.iload_n 1, 1) := by decide +kernel
theorem dX5_halve_36 : decode cX5_halve 36 = .ok (.invokestatic 60, 3) := by decide +kernel
theorem dX5_halve_39 : decode cX5_halve 39 = .ok (.istore_n 3, 1) := by decide +kernel
theorem dX5_halve_40 : decode cX5_halve 40 = .ok (.aload_n 0, 1) := by decide +kernel
theorem dX5_halve_41 : decode cX5_halve 41 = .ok (.iload_n 1, 1) := by decide +kernel
theorem dX5_halve_42 : decode cX5_halve 42 = .ok (.iload_n 2, 1) := by decide +kernel
theorem dX5_halve_43 : decode cX5_halve 43 = .ok (.iconst 0, 1) := by decide +kernel
theorem dX5_halve_44 : decode cX5_halve 44 = .ok (.invokevirtual 79, 3) := by decide +kernel
theorem dX5_halve_47 : decode cX5_halve 47 = .ok (.istore 4, 2) := by decide +kernel
theorem dX5_halve_49 : decode cX5_halve 49 = .ok (.iload 4, 2) := by decide +kernel
theorem dX5_halve_51 : decode cX5_halve 51 = .ok (.iconst (-1), 1) := by decide +kernel
theorem dX5_halve_52 : decode cX5_halve 52 = .ok (.if_icmp .eq 26, 3) := by decide +kernel
theorem dX5_halve_55 : decode cX5_halve 55 = .ok (.iload_n 1, 1) := by decide +kernel
theorem dX5_halve_56 : decode cX5_halve 56 = .ok (.iload 4, 2) := by decide +kernel
theorem dX5_halve_58 : decode cX5_halve 58 = .ok (.iload_n 2, 1) := by decide +kernel
theorem dX5_halve_59 : decode cX5_halve 59 = .ok (.invokestatic 69, 3) := by decide +kernel
theorem dX5_halve_62 : decode cX5_halve 62 = .ok (.istore_n 1, 1) := by decide +kernel
theorem dX5_halve_63 : decode cX5_halve 63 = .ok (.aload_n 0, 1) := by decide +kernel
theorem dX5_halve_64 : decode cX5_halve 64 = .ok (.iload_n 3, 1) := by decide +kernel
theorem dX5_halve_65 : decode cX5_halve 65 = .ok (.iload_n 2, 1) := by decide +kernel
theorem dX5_halve_66 : decode cX5_halve 66 = .ok (.iconst 1, 1) := by decide +kernel
theorem dX5_halve_67 : decode cX5_halve 67 = .ok (.iload 4, 2) := by decide +kernel
theorem dX5_halve_69 : decode cX5_halve 69 = .ok (.iload_n 1, 1) := by decide +kernel
theorem dX5_halve_70 : decode cX5_halve 70 = .ok (.invokevirtual 83, 3) := by decide +kernel
theorem dX5_halve_73 : decode cX5_halve 73 = .ok (.iconst 2, 1) := by decide +kernel
theorem dX5_halve_74 : decode cX5_halve 74 = .ok (.istore_n 2, 1) := by decide +kernel
theorem dX5_halve_75 : decode cX5_halve 75 = .ok (.goto (-48), 3) := by decide +kernel
theorem dX5_halve_78 : decode cX5_halve 78 = .ok (.iload_n 2, 1) := by decide +kernel
theorem dX5_halve_79 : decode cX5_halve 79 = .ok (.iconst 2, 1) := by decide +kernel
theorem dX5_halve_80 : decode cX5_halve 80 = .ok (.if_icmp .le 12, 3) := by decide +kernel
theorem dX5_halve_83 : decode cX5_halve 83 = .ok (.aload_n 0, 1) := by decide +kernel
theorem dX5_halve_84 : decode cX5_halve 84 = .ok (.iload_n 1, 1) := by decide +kernel
theorem dX5_halve_85 : decode cX5_halve 85 = .ok (.iload_n 2, 1) := by decide +kernel
theorem dX5_halve_86 : decode cX5_halve 86 = .ok (.iconst 1, 1) := by decide +kernel
theorem dX5_halve_87 : decode cX5_halve 87 = .ok (.invokevirtual 79, 3) := by decide +kernel
theorem dX5_halve_90 : decode cX5_halve 90 = .ok (.istore 4, 2) := by decide +kernel
theorem dX5_halve_92 : decode cX5_halve 92 = .ok (.iload 4, 2) := by decide +kernel
theorem dX5_halve_94 : decode cX5_halve 94 = .ok (.iconst (-1), 1) := by decide +kernel
theorem dX5_halve_95 : decode cX5_halve 95 = .ok (.if_icmp .eq 31, 3) := by decide +kernel
theorem dX5_halve_98 : decode cX5_halve 98 = .ok (.iload_n 1, 1) := by decide +kernel
theorem dX5_halve_99 : decode cX5_halve 99 = .ok (.iload_n 1, 1) := by decide +kernel
theorem dX5_halve_100 : decode cX5_halve 100 = .ok (.iload 4, 2) := by decide +kernel
theorem dX5_halve_102 : decode cX5_halve 102 = .ok (.iload_n 2, 1) := by decide +kernel
theorem dX5_halve_103 : decode cX5_halve 103 = .ok (.invokestatic 69, 3) := by decide +kernel
theorem dX5_halve_106 : decode cX5_halve 106 = .ok (.iconst (-1), 1) := by decide +kernel
theorem dX5_halve_107 : decode cX5_halve 107 = .ok (.ixor, 1) := by decide +kernel
theorem dX5_halve_108 : decode cX5_halve 108 = .ok (.iand, 1) := by decide +kernel
theorem dX5_halve_109 : decode cX5_halve 109 = .ok (.istore_n 1, 1) := by decide +kernel
theorem dX5_halve_110 : decode cX5_halve 110 = .ok (.aload_n 0, 1) := by decide +kernel
theorem dX5_halve_111 : decode cX5_halve 111 = .ok (.iload_n 3, 1) := by decide +kernel
theorem dX5_halve_112 : decode cX5_halve 112 = .ok (.iload_n 2, 1) := by decide +kernel
theorem dX5_halve_113 : decode cX5_halve 113 = .ok (.iconst 2, 1) := by decide +kernel
theorem dX5_halve_114 : decode cX5_halve 114 = .ok (.iload 4, 2) := by decide +kernel
theorem dX5_halve_116 : decode cX5_halve 116 = .ok (.iload_n 1, 1) := by decide +kernel
theorem dX5_halve_117 : decode cX5_halve 117 = .ok (.invokevirtual 83, 3) := by decide +kernel
theorem dX5_halve_120 : decode cX5_halve 120 = .ok (.iinc 2 (-1), 3) := by decide +kernel
theorem dX5_halve_123 : decode cX5_halve 123 = .ok (.goto 30, 3) := by decide +kernel
theorem dX5_halve_126 : decode cX5_halve 126 = .ok (.iload_n 2, 1) := by decide +kernel
theorem dX5_halve_127 : decode cX5_halve 127 = .ok (.iload_n 3, 1) := by decide +kernel
theorem dX5_halve_128 : decode cX5_halve 128 = .ok (.if_icmp .ge 23, 3) := by decide +kernel
theorem dX5_halve_131 : decode cX5_halve 131 = .ok (.aload_n 0, 1) := by decide +kernel
theorem dX5_halve_132 : decode cX5_halve 132 = .ok (.iload_n 3, 1) := by decide +kernel
theorem dX5_halve_133 : decode cX5_halve 133 = .ok (.iload_n 2, 1) := by decide +kernel
theorem dX5_halve_134 : decode cX5_halve 134 = .ok (.iconst 3, 1) := by decide +kernel
theorem dX5_halve_135 : decode cX5_halve 135 = .ok (.iconst (-1), 1) := by decide +kernel
theorem dX5_halve_136 : decode cX5_halve 136 = .ok (.iload_n 1, 1) := by decide +kernel
theorem dX5_halve_137 : decode cX5_halve 137 = .ok (.invokevirtual 83, 3) := by decide +kernel
theorem dX5_halve_140 : decode cX5_halve 140 = .ok (.iload_n 3, 1) := by decide +kernel
theorem dX5_halve_141 : decode cX5_halve 141 = .ok (.iconst 2, 1) := by decide +kernel
theorem dX5_halve_142 : decode cX5_halve 142 = .ok (.iload_n 2, 1) := by decide +kernel
theorem dX5_halve_143 : decode cX5_halve 143 = .ok (.imul, 1) := by decide +kernel
theorem dX5_halve_144 : decode cX5_halve 144 = .ok (.invokestatic 87, 3) := by decide +kernel
theorem dX5_halve_147 : decode cX5_halve 147 = .ok (.istore_n 2, 1) := by decide +kernel
theorem dX5_halve_148 : decode cX5_halve 148 = .ok (.goto 5, 3) := by decide +kernel
theorem dX5_halve_151 : decode cX5_halve 151 = .ok (.iload_n 1, 1) := by decide +kernel
theorem dX5_halve_152 : decode cX5_halve 152 = .ok (.ireturn, 1) := by decide +kernel
theorem dX5_halve_153 : decode cX5_halve 153 = .ok (.goto (-126), 3) := by decide +kernel
theorem dX5_halve_156 : decode cX5_halve 156 = .ok (.iload_n 1, 1) := by decide +kernel
theorem dX5_halve_157 : decode cX5_halve 157 = .ok (.ireturn, 1) := by decide +kernel
set_option maxRecDepth 20000 in
theorem ggX5_spareEach_X5_whole : GoodIn wsX5_spareEach wsX5_whole := goodIn_r _ [7, 2, 29, 30, 31, 32, 33, 34, 35, 36, 37, 38, 39, 40, 41, 42, 43, 44, 45] (by decide +kernel) (by decide +kernel)
set_option maxRecDepth 20000 in
theorem gX5_spareEach_X5_whole : GoodIn wsX5_spareEach (wsV RX5 75 RX5 yX5_whole wsX5_whole) := goodIn_app (goodIn_of _ (by decide +kernel)) ggX5_spareEach_X5_whole
set_option maxRecDepth 20000 in
theorem ggX5_spareEach_X5_taste : GoodIn wsX5_spareEach wsX5_taste := goodIn_r _ [11, 1, 12, 13, 14, 15, 6, 16, 17, 18, 19, 20, 21, 2, 22, 23, 24, 25, 26, 27, 28, 29, 30, 31, 32, 33, 34, 35, 36, 37, 38, 39, 40, 41, 42, 43, 44, 45] (by decide +kernel) (by decide +kernel)
set_option maxRecDepth 20000 in
theorem gX5_spareEach_X5_taste : GoodIn wsX5_spareEach (wsV RX5 72 RX5 yX5_taste wsX5_taste) := goodIn_app (goodIn_of _ (by decide +kernel)) ggX5_spareEach_X5_taste
theorem dX5_spareEach_0 : decode cX5_spareEach 0 = .ok (.aload_n 0, 1) := by decide +kernel
theorem dX5_spareEach_1 : decode cX5_spareEach 1 = .ok (.iconst 0, 1) := by decide +kernel
theorem dX5_spareEach_2 : decode cX5_spareEach 2 = .ok (.putfield 50, 3) := by decide +kernel
theorem dX5_spareEach_5 : decode cX5_spareEach 5 = .ok (.aload_n 0, 1) := by decide +kernel
theorem dX5_spareEach_6 : decode cX5_spareEach 6 = .ok (.invokevirtual 75, 3) := by decide +kernel
theorem dX5_spareEach_9 : decode cX5_spareEach 9 = .ok (.istore_n 1, 1) := by decide +kernel
theorem dX5_spareEach_10 : decode cX5_spareEach 10 = .ok (.aload_n 0, 1) := by decide +kernel
theorem dX5_spareEach_11 : decode cX5_spareEach 11 = .ok (.iload_n 1, 1) := by decide +kernel
theorem dX5_spareEach_12 : decode cX5_spareEach 12 = .ok (.invokevirtual 72, 3) := by decide +kernel
theorem dX5_spareEach_15 : decode cX5_spareEach 15 = .ok (.ifCond .ne 5, 3) := by decide +kernel
theorem dX5_spareEach_18 : decode cX5_spareEach 18 = .ok (.iconst 0, 1) := by decide +kernel
theorem dX5_spareEach_19 : decode cX5_spareEach 19 = .ok (.ireturn, 1) := by decide +kernel
theorem dX5_spareEach_20 : decode cX5_spareEach 20 = .ok (.aload_n 0, 1) := by decide +kernel
theorem dX5_spareEach_21 : decode cX5_spareEach 21 = .ok (.getfield 39, 3) := by decide +kernel
theorem dX5_spareEach_24 : decode cX5_spareEach 24 = .ok (.iconst 1, 1) := by decide +kernel
theorem dX5_spareEach_25 : decode cX5_spareEach 25 = .ok (.isub, 1) := by decide +kernel
theorem dX5_spareEach_26 : decode cX5_spareEach 26 = .ok (.istore_n 2, 1) := by decide +kernel
theorem dX5_spareEach_27 : decode cX5_spareEach 27 = .ok (.iload_n 2, 1) := by decide +kernel
theorem dX5_spareEach_28 : decode cX5_spareEach 28 = .ok (.ifCond .lt 38, 3) := by decide +kernel
theorem dX5_spareEach_31 : decode cX5_spareEach 31 = .ok (.iload_n 1, 1) := by decide +kernel
theorem dX5_spareEach_32 : decode cX5_spareEach 32 = .ok (.iconst 1, 1) := by decide +kernel
theorem dX5_spareEach_33 : decode cX5_spareEach 33 = .ok (.iload_n 2, 1) := by decide +kernel
theorem dX5_spareEach_34 : decode cX5_spareEach 34 = .ok (.ishl, 1) := by decide +kernel
theorem dX5_spareEach_35 : decode cX5_spareEach 35 = .ok (.if_icmp .eq 25, 3) := by decide +kernel
theorem dX5_spareEach_38 : decode cX5_spareEach 38 = .ok (.aload_n 0, 1) := by decide +kernel
theorem dX5_spareEach_39 : decode cX5_spareEach 39 = .ok (.iload_n 1, 1) := by decide +kernel
theorem dX5_spareEach_40 : decode cX5_spareEach 40 = .ok (.iconst 1, 1) := by decide +kernel
theorem dX5_spareEach_41 : decode cX5_spareEach 41 = .ok (.iload_n 2, 1) := by decide +kernel
theorem dX5_spareEach_42 : decode cX5_spareEach 42 = .ok (.ishl, 1) := by decide +kernel
theorem dX5_spareEach_43 : decode cX5_spareEach 43 = .ok (.iconst (-1), 1) := by decide +kernel
theorem dX5_spareEach_44 : decode cX5_spareEach 44 = .ok (.ixor, 1) := by decide +kernel
theorem dX5_spareEach_45 : decode cX5_spareEach 45 = .ok (.iand, 1) := by decide +kernel
theorem dX5_spareEach_46 : decode cX5_spareEach 46 = .ok (.invokevirtual 72, 3) := by decide +kernel
theorem dX5_spareEach_49 : decode cX5_spareEach 49 = .ok (.ifCond .eq 11, 3) := by decide +kernel
theorem dX5_spareEach_52 : decode cX5_spareEach 52 = .ok (.iload_n 1, 1) := by decide +kernel
theorem dX5_spareEach_53 : decode cX5_spareEach 53 = .ok (.iconst 1, 1) := by decide +kernel
theorem dX5_spareEach_54 : decode cX5_spareEach 54 = .ok (.iload_n 2, 1) := by decide +kernel
theorem dX5_spareEach_55 : decode cX5_spareEach 55 = .ok (.ishl, 1) := by decide +kernel
theorem dX5_spareEach_56 : decode cX5_spareEach 56 = .ok (.iconst (-1), 1) := by decide +kernel
theorem dX5_spareEach_57 : decode cX5_spareEach 57 = .ok (.ixor, 1) := by decide +kernel
theorem dX5_spareEach_58 : decode cX5_spareEach 58 = .ok (.iand, 1) := by decide +kernel
theorem dX5_spareEach_59 : decode cX5_spareEach 59 = .ok (.istore_n 1, 1) := by decide +kernel
theorem dX5_spareEach_60 : decode cX5_spareEach 60 = .ok (.iinc 2 (-1), 3) := by decide +kernel
theorem dX5_spareEach_63 : decode cX5_spareEach 63 = .ok (.goto (-36), 3) := by decide +kernel
theorem dX5_spareEach_66 : decode cX5_spareEach 66 = .ok (.iload_n 1, 1) := by decide +kernel
theorem dX5_spareEach_67 : decode cX5_spareEach 67 = .ok (.ireturn, 1) := by decide +kernel
set_option maxRecDepth 20000 in
theorem ggX5_add_X5_isIn : GoodIn wsX5_add wsX5_isIn := goodIn_r _ [7] (by decide +kernel) (by decide +kernel)
set_option maxRecDepth 20000 in
theorem gX5_add_X5_isIn : GoodIn wsX5_add (va_wsS RX5 35 yX5_isIn wsX5_isIn) := goodIn_app (goodIn_of _ (by decide +kernel)) ggX5_add_X5_isIn
set_option maxRecDepth 20000 in
theorem ggX5_add_X5_no : GoodIn wsX5_add wsX5_no := goodIn_r _ [11, 1, 12, 13, 14, 15, 16, 17, 18, 19, 20, 21, 22, 23, 24, 25, 26, 27, 28] (by decide +kernel) (by decide +kernel)
set_option maxRecDepth 20000 in
theorem gX5_add_X5_no : GoodIn wsX5_add (wsV RX5 93 RX5 yX5_no wsX5_no) := goodIn_app (goodIn_of _ (by decide +kernel)) ggX5_add_X5_no
theorem dX5_add_0 : decode cX5_add 0 = .ok (.aload_n 0, 1) := by decide +kernel
theorem dX5_add_1 : decode cX5_add 1 = .ok (.iconst 0, 1) := by decide +kernel
theorem dX5_add_2 : decode cX5_add 2 = .ok (.putfield 28, 3) := by decide +kernel
theorem dX5_add_5 : decode cX5_add 5 = .ok (.iload_n 1, 1) := by decide +kernel
theorem dX5_add_6 : decode cX5_add 6 = .ok (.iconst 0, 1) := by decide +kernel
theorem dX5_add_7 : decode cX5_add 7 = .ok (.bipush 15, 2) := by decide +kernel
theorem dX5_add_9 : decode cX5_add 9 = .ok (.invokestatic 35, 3) := by decide +kernel
theorem dX5_add_12 : decode cX5_add 12 = .ok (.ifCond .ne 9, 3) := by decide +kernel
theorem dX5_add_15 : decode cX5_add 15 = .ok (.aload_n 0, 1) := by decide +kernel
theorem dX5_add_16 : decode cX5_add 16 = .ok (.iconst 1, 1) := by decide +kernel
theorem dX5_add_17 : decode cX5_add 17 = .ok (.invokevirtual 93, 3) := by decide +kernel
theorem dX5_add_20 : decode cX5_add 20 = .ok (.ireturn, 1) := by decide +kernel
theorem dX5_add_21 : decode cX5_add 21 = .ok (.aload_n 0, 1) := by decide +kernel
theorem dX5_add_22 : decode cX5_add 22 = .ok (.getfield 39, 3) := by decide +kernel
theorem dX5_add_25 : decode cX5_add 25 = .ok (.bipush 24, 2) := by decide +kernel
theorem dX5_add_27 : decode cX5_add 27 = .ok (.if_icmp .ne 9, 3) := by decide +kernel
theorem dX5_add_30 : decode cX5_add 30 = .ok (.aload_n 0, 1) := by decide +kernel
theorem dX5_add_31 : decode cX5_add 31 = .ok (.iconst 2, 1) := by decide +kernel
theorem dX5_add_32 : decode cX5_add 32 = .ok (.invokevirtual 93, 3) := by decide +kernel
theorem dX5_add_35 : decode cX5_add 35 = .ok (.ireturn, 1) := by decide +kernel
theorem dX5_add_36 : decode cX5_add 36 = .ok (.aload_n 0, 1) := by decide +kernel
theorem dX5_add_37 : decode cX5_add 37 = .ok (.getfield 9, 3) := by decide +kernel
theorem dX5_add_40 : decode cX5_add 40 = .ok (.aload_n 0, 1) := by decide +kernel
theorem dX5_add_41 : decode cX5_add 41 = .ok (.getfield 39, 3) := by decide +kernel
theorem dX5_add_44 : decode cX5_add 44 = .ok (.iload_n 1, 1) := by decide +kernel
theorem dX5_add_45 : decode cX5_add 45 = .ok (.iastore, 1) := by decide +kernel
theorem dX5_add_46 : decode cX5_add 46 = .ok (.aload_n 0, 1) := by decide +kernel
theorem dX5_add_47 : decode cX5_add 47 = .ok (.dup, 1) := by decide +kernel
theorem dX5_add_48 : decode cX5_add 48 = .ok (.getfield 39, 3) := by decide +kernel
theorem dX5_add_51 : decode cX5_add 51 = .ok (.iconst 1, 1) := by decide +kernel
theorem dX5_add_52 : decode cX5_add 52 = .ok (.iadd, 1) := by decide +kernel
theorem dX5_add_53 : decode cX5_add 53 = .ok (.putfield 39, 3) := by decide +kernel
theorem dX5_add_56 : decode cX5_add 56 = .ok (.aload_n 0, 1) := by decide +kernel
theorem dX5_add_57 : decode cX5_add 57 = .ok (.getfield 39, 3) := by decide +kernel
theorem dX5_add_60 : decode cX5_add 60 = .ok (.ireturn, 1) := by decide +kernel
theorem dX5_takeOut_0 : decode cX5_takeOut 0 = .ok (.aload_n 0, 1) := by decide +kernel
theorem dX5_takeOut_1 : decode cX5_takeOut 1 = .ok (.getfield 9, 3) := by decide +kernel
theorem dX5_takeOut_4 : decode cX5_takeOut 4 = .ok (.iload_n 1, 1) := by decide +kernel
theorem dX5_takeOut_5 : decode cX5_takeOut 5 = .ok (.iaload, 1) := by decide +kernel
theorem dX5_takeOut_6 : decode cX5_takeOut 6 = .ok (.istore_n 2, 1) := by decide +kernel
theorem dX5_takeOut_7 : decode cX5_takeOut 7 = .ok (.iload_n 1, 1) := by decide +kernel
theorem dX5_takeOut_8 : decode cX5_takeOut 8 = .ok (.istore_n 3, 1) := by decide +kernel
theorem dX5_takeOut_9 : decode cX5_takeOut 9 = .ok (.iload_n 3, 1) := by decide +kernel
theorem dX5_takeOut_10 : decode cX5_takeOut 10 = .ok (.iconst 1, 1) := by decide +kernel
theorem dX5_takeOut_11 : decode cX5_takeOut 11 = .ok (.iadd, 1) := by decide +kernel
theorem dX5_takeOut_12 : decode cX5_takeOut 12 = .ok (.aload_n 0, 1) := by decide +kernel
theorem dX5_takeOut_13 : decode cX5_takeOut 13 = .ok (.getfield 39, 3) := by decide +kernel
theorem dX5_takeOut_16 : decode cX5_takeOut 16 = .ok (.if_icmp .ge 23, 3) := by decide +kernel
theorem dX5_takeOut_19 : decode cX5_takeOut 19 = .ok (.aload_n 0, 1) := by decide +kernel
theorem dX5_takeOut_20 : decode cX5_takeOut 20 = .ok (.getfield 9, 3) := by decide +kernel
theorem dX5_takeOut_23 : decode cX5_takeOut 23 = .ok (.iload_n 3, 1) := by decide +kernel
theorem dX5_takeOut_24 : decode cX5_takeOut 24 = .ok (.aload_n 0, 1) := by decide +kernel
theorem dX5_takeOut_25 : decode cX5_takeOut 25 = .ok (.getfield 9, 3) := by decide +kernel
theorem dX5_takeOut_28 : decode cX5_takeOut 28 = .ok (.iload_n 3, 1) := by decide +kernel
theorem dX5_takeOut_29 : decode cX5_takeOut 29 = .ok (.iconst 1, 1) := by decide +kernel
theorem dX5_takeOut_30 : decode cX5_takeOut 30 = .ok (.iadd, 1) := by decide +kernel
theorem dX5_takeOut_31 : decode cX5_takeOut 31 = .ok (.iaload, 1) := by decide +kernel
theorem dX5_takeOut_32 : decode cX5_takeOut 32 = .ok (.iastore, 1) := by decide +kernel
theorem dX5_takeOut_33 : decode cX5_takeOut 33 = .ok (.iinc 3 1, 3) := by decide +kernel
theorem dX5_takeOut_36 : decode cX5_takeOut 36 = .ok (.goto (-27), 3) := by decide +kernel
theorem dX5_takeOut_39 : decode cX5_takeOut 39 = .ok (.aload_n 0, 1) := by decide +kernel
theorem dX5_takeOut_40 : decode cX5_takeOut 40 = .ok (.dup, 1) := by decide +kernel
theorem dX5_takeOut_41 : decode cX5_takeOut 41 = .ok (.getfield 39, 3) := by decide +kernel
theorem dX5_takeOut_44 : decode cX5_takeOut 44 = .ok (.iconst 1, 1) := by decide +kernel
theorem dX5_takeOut_45 : decode cX5_takeOut 45 = .ok (.isub, 1) := by decide +kernel
theorem dX5_takeOut_46 : decode cX5_takeOut 46 = .ok (.putfield 39, 3) := by decide +kernel
theorem dX5_takeOut_49 : decode cX5_takeOut 49 = .ok (.iload_n 2, 1) := by decide +kernel
theorem dX5_takeOut_50 : decode cX5_takeOut 50 = .ok (.ireturn, 1) := by decide +kernel
set_option maxRecDepth 20000 in
theorem ggX5_drop_X5_isPlace : GoodIn wsX5_drop wsX5_isPlace := goodIn_r _ [6, 7, 8, 9, 5, 10, 20, 21, 22, 23, 24, 25, 26, 27, 28, 29, 30, 31, 32, 33, 34, 35, 36] (by decide +kernel) (by decide +kernel)
set_option maxRecDepth 20000 in
theorem gX5_drop_X5_isPlace : GoodIn wsX5_drop (wsV RX5 96 RX5 yX5_isPlace wsX5_isPlace) := goodIn_app (goodIn_of _ (by decide +kernel)) ggX5_drop_X5_isPlace
set_option maxRecDepth 20000 in
theorem ggX5_drop_X5_takeOut : GoodIn wsX5_drop wsX5_takeOut := goodIn_r _ [14, 15, 7, 20, 21, 22, 23, 24, 25, 26, 27, 28, 29, 30, 31, 32, 33, 34, 35, 36] (by decide +kernel) (by decide +kernel)
set_option maxRecDepth 20000 in
theorem gX5_drop_X5_takeOut : GoodIn wsX5_drop (wsV RX5 99 RX5 yX5_takeOut wsX5_takeOut) := goodIn_app (goodIn_of _ (by decide +kernel)) ggX5_drop_X5_takeOut
set_option maxRecDepth 20000 in
theorem ggX5_drop_X5_no : GoodIn wsX5_drop wsX5_no := goodIn_r _ [19, 1, 20, 21, 22, 23, 24, 25, 26, 27, 28, 29, 30, 31, 32, 33, 34, 35, 36] (by decide +kernel) (by decide +kernel)
set_option maxRecDepth 20000 in
theorem gX5_drop_X5_no : GoodIn wsX5_drop (wsV RX5 93 RX5 yX5_no wsX5_no) := goodIn_app (goodIn_of _ (by decide +kernel)) ggX5_drop_X5_no
theorem dX5_drop_0 : decode cX5_drop 0 = .ok (.aload_n 0, 1) := by decide +kernel
theorem dX5_drop_1 : decode cX5_drop 1 = .ok (.iconst 0, 1) := by decide +kernel
theorem dX5_drop_2 : decode cX5_drop 2 = .ok (.putfield 28, 3) := by decide +kernel
theorem dX5_drop_5 : decode cX5_drop 5 = .ok (.aload_n 0, 1) := by decide +kernel
theorem dX5_drop_6 : decode cX5_drop 6 = .ok (.iload_n 1, 1) := by decide +kernel
theorem dX5_drop_7 : decode cX5_drop 7 = .ok (.invokevirtual 96, 3) := by decide +kernel
theorem dX5_drop_10 : decode cX5_drop 10 = .ok (.ifCond .eq 11, 3) := by decide +kernel
theorem dX5_drop_13 : decode cX5_drop 13 = .ok (.aload_n 0, 1) := by decide +kernel
theorem dX5_drop_14 : decode cX5_drop 14 = .ok (.iload_n 1, 1) := by decide +kernel
theorem dX5_drop_15 : decode cX5_drop 15 = .ok (.invokevirtual 99, 3) := by decide +kernel
theorem dX5_drop_18 : decode cX5_drop 18 = .ok (.goto 8, 3) := by decide +kernel
theorem dX5_drop_21 : decode cX5_drop 21 = .ok (.aload_n 0, 1) := by decide +kernel
theorem dX5_drop_22 : decode cX5_drop 22 = .ok (.iconst 1, 1) := by decide +kernel
theorem dX5_drop_23 : decode cX5_drop 23 = .ok (.invokevirtual 93, 3) := by decide +kernel
theorem dX5_drop_26 : decode cX5_drop 26 = .ok (.ireturn, 1) := by decide +kernel
set_option maxRecDepth 20000 in
theorem ggX5_kind_X5_isPlace : GoodIn wsX5_kind wsX5_isPlace := goodIn_r _ [7, 8, 9, 10, 6, 11, 16, 17, 18, 19, 20, 21, 22, 23, 24, 25, 26, 27, 28, 29, 30, 31, 32] (by decide +kernel) (by decide +kernel)
set_option maxRecDepth 20000 in
theorem gX5_kind_X5_isPlace : GoodIn wsX5_kind (wsV RX5 96 RX5 yX5_isPlace wsX5_isPlace) := goodIn_app (goodIn_of _ (by decide +kernel)) ggX5_kind_X5_isPlace
set_option maxRecDepth 20000 in
theorem ggX5_kind_X5_no : GoodIn wsX5_kind wsX5_no := goodIn_r _ [15, 1, 16, 17, 18, 19, 20, 21, 22, 23, 24, 25, 26, 27, 28, 29, 30, 31, 32] (by decide +kernel) (by decide +kernel)
set_option maxRecDepth 20000 in
theorem gX5_kind_X5_no : GoodIn wsX5_kind (wsV RX5 93 RX5 yX5_no wsX5_no) := goodIn_app (goodIn_of _ (by decide +kernel)) ggX5_kind_X5_no
theorem dX5_kind_0 : decode cX5_kind 0 = .ok (.aload_n 0, 1) := by decide +kernel
theorem dX5_kind_1 : decode cX5_kind 1 = .ok (.iconst 0, 1) := by decide +kernel
theorem dX5_kind_2 : decode cX5_kind 2 = .ok (.putfield 28, 3) := by decide +kernel
theorem dX5_kind_5 : decode cX5_kind 5 = .ok (.aload_n 0, 1) := by decide +kernel
theorem dX5_kind_6 : decode cX5_kind 6 = .ok (.iload_n 1, 1) := by decide +kernel
theorem dX5_kind_7 : decode cX5_kind 7 = .ok (.invokevirtual 96, 3) := by decide +kernel
theorem dX5_kind_10 : decode cX5_kind 10 = .ok (.ifCond .eq 12, 3) := by decide +kernel
theorem dX5_kind_13 : decode cX5_kind 13 = .ok (.aload_n 0, 1) := by decide +kernel
theorem dX5_kind_14 : decode cX5_kind 14 = .ok (.getfield 9, 3) := by decide +kernel
theorem dX5_kind_17 : decode cX5_kind 17 = .ok (.iload_n 1, 1) := by decide +kernel
theorem dX5_kind_18 : decode cX5_kind 18 = .ok (.iaload, 1) := by decide +kernel
theorem dX5_kind_19 : decode cX5_kind 19 = .ok (.goto 8, 3) := by decide +kernel
theorem dX5_kind_22 : decode cX5_kind 22 = .ok (.aload_n 0, 1) := by decide +kernel
theorem dX5_kind_23 : decode cX5_kind 23 = .ok (.iconst 1, 1) := by decide +kernel
theorem dX5_kind_24 : decode cX5_kind 24 = .ok (.invokevirtual 93, 3) := by decide +kernel
theorem dX5_kind_27 : decode cX5_kind 27 = .ok (.ireturn, 1) := by decide +kernel
set_option maxRecDepth 20000 in
theorem ggX5_rule_X5_no : GoodIn wsX5_rule wsX5_no := goodIn_r _ [7, 1, 8, 9, 10, 11, 12, 13, 14, 15, 16, 17, 18, 19, 20, 21, 22, 23, 24] (by decide +kernel) (by decide +kernel)
set_option maxRecDepth 20000 in
theorem gX5_rule_X5_no : GoodIn wsX5_rule (wsV RX5 93 RX5 yX5_no wsX5_no) := goodIn_app (goodIn_of _ (by decide +kernel)) ggX5_rule_X5_no
theorem dX5_rule_0 : decode cX5_rule 0 = .ok (.aload_n 0, 1) := by decide +kernel
theorem dX5_rule_1 : decode cX5_rule 1 = .ok (.iconst 0, 1) := by decide +kernel
theorem dX5_rule_2 : decode cX5_rule 2 = .ok (.putfield 28, 3) := by decide +kernel
theorem dX5_rule_5 : decode cX5_rule 5 = .ok (.aload_n 0, 1) := by decide +kernel
theorem dX5_rule_6 : decode cX5_rule 6 = .ok (.getfield 32, 3) := by decide +kernel
theorem dX5_rule_9 : decode cX5_rule 9 = .ok (.bipush 6, 2) := by decide +kernel
theorem dX5_rule_11 : decode cX5_rule 11 = .ok (.if_icmp .ne 9, 3) := by decide +kernel
theorem dX5_rule_14 : decode cX5_rule 14 = .ok (.aload_n 0, 1) := by decide +kernel
theorem dX5_rule_15 : decode cX5_rule 15 = .ok (.iconst 1, 1) := by decide +kernel
theorem dX5_rule_16 : decode cX5_rule 16 = .ok (.invokevirtual 93, 3) := by decide +kernel
theorem dX5_rule_19 : decode cX5_rule 19 = .ok (.ireturn, 1) := by decide +kernel
theorem dX5_rule_20 : decode cX5_rule 20 = .ok (.aload_n 0, 1) := by decide +kernel
theorem dX5_rule_21 : decode cX5_rule 21 = .ok (.dup, 1) := by decide +kernel
theorem dX5_rule_22 : decode cX5_rule 22 = .ok (.getfield 32, 3) := by decide +kernel
theorem dX5_rule_25 : decode cX5_rule 25 = .ok (.iconst 1, 1) := by decide +kernel
theorem dX5_rule_26 : decode cX5_rule 26 = .ok (.iadd, 1) := by decide +kernel
theorem dX5_rule_27 : decode cX5_rule 27 = .ok (.putfield 32, 3) := by decide +kernel
theorem dX5_rule_30 : decode cX5_rule 30 = .ok (.aload_n 0, 1) := by decide +kernel
theorem dX5_rule_31 : decode cX5_rule 31 = .ok (.getfield 32, 3) := by decide +kernel
theorem dX5_rule_34 : decode cX5_rule 34 = .ok (.iconst 1, 1) := by decide +kernel
theorem dX5_rule_35 : decode cX5_rule 35 = .ok (.isub, 1) := by decide +kernel
theorem dX5_rule_36 : decode cX5_rule 36 = .ok (.ireturn, 1) := by decide +kernel
set_option maxRecDepth 20000 in
theorem ggX5_set_X5_isRule : GoodIn wsX5_set wsX5_isRule := goodIn_r _ [6, 7, 8, 9, 5, 10, 11, 12, 13, 14, 15, 16, 17, 18, 19, 20, 21, 22, 23, 24, 25, 26, 27] (by decide +kernel) (by decide +kernel)
set_option maxRecDepth 20000 in
theorem gX5_set_X5_isRule : GoodIn wsX5_set (wsV RX5 102 RX5 yX5_isRule wsX5_isRule) := goodIn_app (goodIn_of _ (by decide +kernel)) ggX5_set_X5_isRule
set_option maxRecDepth 20000 in
theorem ggX5_set_X5_isIn : GoodIn wsX5_set wsX5_isIn := goodIn_r _ [10] (by decide +kernel) (by decide +kernel)
set_option maxRecDepth 20000 in
theorem gX5_set_X5_isIn : GoodIn wsX5_set (va_wsS RX5 35 yX5_isIn wsX5_isIn) := goodIn_app (goodIn_of _ (by decide +kernel)) ggX5_set_X5_isIn
theorem dX5_set_0 : decode cX5_set 0 = .ok (.aload_n 0, 1) := by decide +kernel
theorem dX5_set_1 : decode cX5_set 1 = .ok (.aload_n 0, 1) := by decide +kernel
theorem dX5_set_2 : decode cX5_set 2 = .ok (.iload_n 3, 1) := by decide +kernel
theorem dX5_set_3 : decode cX5_set 3 = .ok (.invokevirtual 102, 3) := by decide +kernel
theorem dX5_set_6 : decode cX5_set 6 = .ok (.ifCond .eq 14, 3) := by decide +kernel
theorem dX5_set_9 : decode cX5_set 9 = .ok (.iload 4, 2) := by decide +kernel
theorem dX5_set_11 : decode cX5_set 11 = .ok (.iconst 0, 1) := by decide +kernel
theorem dX5_set_12 : decode cX5_set 12 = .ok (.bipush 15, 2) := by decide +kernel
theorem dX5_set_14 : decode cX5_set 14 = .ok (.invokestatic 35, 3) := by decide +kernel
theorem dX5_set_17 : decode cX5_set 17 = .ok (.ifCond .ne 7, 3) := by decide +kernel
theorem dX5_set_20 : decode cX5_set 20 = .ok (.iconst 1, 1) := by decide +kernel
theorem dX5_set_21 : decode cX5_set 21 = .ok (.goto 25, 3) := by decide +kernel
theorem dX5_set_24 : decode cX5_set 24 = .ok (.iload 5, 2) := by decide +kernel
theorem dX5_set_26 : decode cX5_set 26 = .ok (.ifCond .eq 19, 3) := by decide +kernel
theorem dX5_set_29 : decode cX5_set 29 = .ok (.aload_n 2, 1) := by decide +kernel
theorem dX5_set_30 : decode cX5_set 30 = .ok (.iload_n 3, 1) := by decide +kernel
theorem dX5_set_31 : decode cX5_set 31 = .ok (.iaload, 1) := by decide +kernel
theorem dX5_set_32 : decode cX5_set 32 = .ok (.iload 4, 2) := by decide +kernel
theorem dX5_set_34 : decode cX5_set 34 = .ok (.ishr, 1) := by decide +kernel
theorem dX5_set_35 : decode cX5_set 35 = .ok (.iconst 1, 1) := by decide +kernel
theorem dX5_set_36 : decode cX5_set 36 = .ok (.iand, 1) := by decide +kernel
theorem dX5_set_37 : decode cX5_set 37 = .ok (.iconst 1, 1) := by decide +kernel
theorem dX5_set_38 : decode cX5_set 38 = .ok (.if_icmp .ne 7, 3) := by decide +kernel
theorem dX5_set_41 : decode cX5_set 41 = .ok (.iconst 2, 1) := by decide +kernel
theorem dX5_set_42 : decode cX5_set 42 = .ok (.goto 4, 3) := by decide +kernel
theorem dX5_set_45 : decode cX5_set 45 = .ok (.iconst 0, 1) := by decide +kernel
theorem dX5_set_46 : decode cX5_set 46 = .ok (.putfield 28, 3) := by decide +kernel
theorem dX5_set_49 : decode cX5_set 49 = .ok (.aload_n 0, 1) := by decide +kernel
theorem dX5_set_50 : decode cX5_set 50 = .ok (.getfield 28, 3) := by decide +kernel
theorem dX5_set_53 : decode cX5_set 53 = .ok (.ifCond .eq 5, 3) := by decide +kernel
theorem dX5_set_56 : decode cX5_set 56 = .ok (.iconst 0, 1) := by decide +kernel
theorem dX5_set_57 : decode cX5_set 57 = .ok (.ireturn, 1) := by decide +kernel
theorem dX5_set_58 : decode cX5_set 58 = .ok (.aload_n 1, 1) := by decide +kernel
theorem dX5_set_59 : decode cX5_set 59 = .ok (.iload_n 3, 1) := by decide +kernel
theorem dX5_set_60 : decode cX5_set 60 = .ok (.iaload, 1) := by decide +kernel
theorem dX5_set_61 : decode cX5_set 61 = .ok (.iload 4, 2) := by decide +kernel
theorem dX5_set_63 : decode cX5_set 63 = .ok (.ishr, 1) := by decide +kernel
theorem dX5_set_64 : decode cX5_set 64 = .ok (.iconst 1, 1) := by decide +kernel
theorem dX5_set_65 : decode cX5_set 65 = .ok (.iand, 1) := by decide +kernel
theorem dX5_set_66 : decode cX5_set 66 = .ok (.iconst 1, 1) := by decide +kernel
theorem dX5_set_67 : decode cX5_set 67 = .ok (.if_icmp .ne 7, 3) := by decide +kernel
theorem dX5_set_70 : decode cX5_set 70 = .ok (.iconst 1, 1) := by decide +kernel
theorem dX5_set_71 : decode cX5_set 71 = .ok (.goto 4, 3) := by decide +kernel
theorem dX5_set_74 : decode cX5_set 74 = .ok (.iconst 0, 1) := by decide +kernel
theorem dX5_set_75 : decode cX5_set 75 = .ok (.istore 6, 2) := by decide +kernel
theorem dX5_set_77 : decode cX5_set 77 = .ok (.iload 6, 2) := by decide +kernel
theorem dX5_set_79 : decode cX5_set 79 = .ok (.iload 5, 2) := by decide +kernel
theorem dX5_set_81 : decode cX5_set 81 = .ok (.if_icmp .eq 13, 3) := by decide +kernel
theorem dX5_set_84 : decode cX5_set 84 = .ok (.aload_n 1, 1) := by decide +kernel
theorem dX5_set_85 : decode cX5_set 85 = .ok (.iload_n 3, 1) := by decide +kernel
theorem dX5_set_86 : decode cX5_set 86 = .ok (.dup2, 1) := by decide +kernel
theorem dX5_set_87 : decode cX5_set 87 = .ok (.iaload, 1) := by decide +kernel
theorem dX5_set_88 : decode cX5_set 88 = .ok (.iconst 1, 1) := by decide +kernel
theorem dX5_set_89 : decode cX5_set 89 = .ok (.iload 4, 2) := by decide +kernel
theorem dX5_set_91 : decode cX5_set 91 = .ok (.ishl, 1) := by decide +kernel
theorem dX5_set_92 : decode cX5_set 92 = .ok (.ixor, 1) := by decide +kernel
theorem dX5_set_93 : decode cX5_set 93 = .ok (.iastore, 1) := by decide +kernel
theorem dX5_set_94 : decode cX5_set 94 = .ok (.iload 6, 2) := by decide +kernel
theorem dX5_set_96 : decode cX5_set 96 = .ok (.ireturn, 1) := by decide +kernel
set_option maxRecDepth 20000 in
theorem ggX5_setNeeds_X5_set : GoodIn wsX5_setNeeds wsX5_set := goodIn_r _ [7, 8, 9, 10, 11, 6, 12, 13, 14, 15, 16, 17, 18, 19, 20, 21, 22, 23, 24, 25, 26, 27, 28, 29, 30, 31, 32, 33] (by decide +kernel) (by decide +kernel)
set_option maxRecDepth 20000 in
theorem gX5_setNeeds_X5_set : GoodIn wsX5_setNeeds (wsV RX5 105 RX5 yX5_set wsX5_set) := goodIn_app (goodIn_of _ (by decide +kernel)) ggX5_setNeeds_X5_set
theorem dX5_setNeeds_0 : decode cX5_setNeeds 0 = .ok (.aload_n 0, 1) := by decide +kernel
theorem dX5_setNeeds_1 : decode cX5_setNeeds 1 = .ok (.aload_n 0, 1) := by decide +kernel
theorem dX5_setNeeds_2 : decode cX5_setNeeds 2 = .ok (.getfield 13, 3) := by decide +kernel
theorem dX5_setNeeds_5 : decode cX5_setNeeds 5 = .ok (.aload_n 0, 1) := by decide +kernel
theorem dX5_setNeeds_6 : decode cX5_setNeeds 6 = .ok (.getfield 16, 3) := by decide +kernel
theorem dX5_setNeeds_9 : decode cX5_setNeeds 9 = .ok (.iload_n 1, 1) := by decide +kernel
theorem dX5_setNeeds_10 : decode cX5_setNeeds 10 = .ok (.iload_n 2, 1) := by decide +kernel
theorem dX5_setNeeds_11 : decode cX5_setNeeds 11 = .ok (.iload_n 3, 1) := by decide +kernel
theorem dX5_setNeeds_12 : decode cX5_setNeeds 12 = .ok (.invokevirtual 105, 3) := by decide +kernel
theorem dX5_setNeeds_15 : decode cX5_setNeeds 15 = .ok (.ireturn, 1) := by decide +kernel
set_option maxRecDepth 20000 in
theorem ggX5_setSpares_X5_set : GoodIn wsX5_setSpares wsX5_set := goodIn_r _ [7, 8, 9, 10, 11, 6, 12, 13, 14, 15, 16, 17, 18, 19, 20, 21, 22, 23, 24, 25, 26, 27, 28, 29, 30, 31, 32, 33] (by decide +kernel) (by decide +kernel)
set_option maxRecDepth 20000 in
theorem gX5_setSpares_X5_set : GoodIn wsX5_setSpares (wsV RX5 105 RX5 yX5_set wsX5_set) := goodIn_app (goodIn_of _ (by decide +kernel)) ggX5_setSpares_X5_set
theorem dX5_setSpares_0 : decode cX5_setSpares 0 = .ok (.aload_n 0, 1) := by decide +kernel
theorem dX5_setSpares_1 : decode cX5_setSpares 1 = .ok (.aload_n 0, 1) := by decide +kernel
theorem dX5_setSpares_2 : decode cX5_setSpares 2 = .ok (.getfield 16, 3) := by decide +kernel
theorem dX5_setSpares_5 : decode cX5_setSpares 5 = .ok (.aload_n 0, 1) := by decide +kernel
theorem dX5_setSpares_6 : decode cX5_setSpares 6 = .ok (.getfield 13, 3) := by decide +kernel
theorem dX5_setSpares_9 : decode cX5_setSpares 9 = .ok (.iload_n 1, 1) := by decide +kernel
theorem dX5_setSpares_10 : decode cX5_setSpares 10 = .ok (.iload_n 2, 1) := by decide +kernel
theorem dX5_setSpares_11 : decode cX5_setSpares 11 = .ok (.iload_n 3, 1) := by decide +kernel
theorem dX5_setSpares_12 : decode cX5_setSpares 12 = .ok (.invokevirtual 105, 3) := by decide +kernel
theorem dX5_setSpares_15 : decode cX5_setSpares 15 = .ok (.ireturn, 1) := by decide +kernel
set_option maxRecDepth 20000 in
theorem ggX5_ruleTold_J6_bitCount_0f7a4 : GoodIn wsX5_ruleTold wsJ6_bitCount_0f7a4 := goodIn_r _ [8, 9, 10, 11] (by decide +kernel) (by decide +kernel)
set_option maxRecDepth 20000 in
theorem gX5_ruleTold_J6_bitCount_0f7a4 : GoodIn wsX5_ruleTold (va_wsS RX5 60 yJ6_bitCount_0f7a4 wsJ6_bitCount_0f7a4) := goodIn_app (goodIn_of _ (by decide +kernel)) ggX5_ruleTold_J6_bitCount_0f7a4
set_option maxRecDepth 20000 in
theorem ggX5_ruleTold_X5_whole : GoodIn wsX5_ruleTold wsX5_whole := goodIn_r _ [16, 17, 27, 28, 29, 30, 31, 32, 33, 34, 35, 36, 37, 38, 39, 40, 41, 42, 43] (by decide +kernel) (by decide +kernel)
set_option maxRecDepth 20000 in
theorem gX5_ruleTold_X5_whole : GoodIn wsX5_ruleTold (wsV RX5 75 RX5 yX5_whole wsX5_whole) := goodIn_app (goodIn_of _ (by decide +kernel)) ggX5_ruleTold_X5_whole
set_option maxRecDepth 20000 in
theorem ggX5_ruleTold_X5_kindsOf : GoodIn wsX5_ruleTold wsX5_kindsOf := goodIn_r _ [21, 17, 22, 27, 28, 29, 30, 31, 32, 33, 34, 35, 36, 37, 38, 39, 40, 41, 42, 43] (by decide +kernel) (by decide +kernel)
set_option maxRecDepth 20000 in
theorem gX5_ruleTold_X5_kindsOf : GoodIn wsX5_ruleTold (wsV RX5 42 RX5 yX5_kindsOf wsX5_kindsOf) := goodIn_app (goodIn_of _ (by decide +kernel)) ggX5_ruleTold_X5_kindsOf
set_option maxRecDepth 20000 in
theorem ggX5_ruleTold_X5_holds : GoodIn wsX5_ruleTold wsX5_holds := goodIn_r _ [26, 1, 2, 27, 28, 29, 30, 31, 32, 33, 34, 35, 36, 37, 38, 39, 40, 41, 42, 43] (by decide +kernel) (by decide +kernel)
set_option maxRecDepth 20000 in
theorem gX5_ruleTold_X5_holds : GoodIn wsX5_ruleTold (wsV RX5 46 RX5 yX5_holds wsX5_holds) := goodIn_app (goodIn_of _ (by decide +kernel)) ggX5_ruleTold_X5_holds
theorem dX5_ruleTold_0 : decode cX5_ruleTold 0 = .ok (.iload_n 2, 1) := by decide +kernel
theorem dX5_ruleTold_1 : decode cX5_ruleTold 1 = .ok (.tableswitch 77 0 3 #[31, 38, 45, 55], 31) := by decide +kernel
theorem dX5_ruleTold_32 : decode cX5_ruleTold 32 = .ok (.aload_n 0, 1) := by decide +kernel
theorem dX5_ruleTold_33 : decode cX5_ruleTold 33 = .ok (.getfield 13, 3) := by decide +kernel
theorem dX5_ruleTold_36 : decode cX5_ruleTold 36 = .ok (.iload_n 1, 1) := by decide +kernel
theorem dX5_ruleTold_37 : decode cX5_ruleTold 37 = .ok (.iaload, 1) := by decide +kernel
theorem dX5_ruleTold_38 : decode cX5_ruleTold 38 = .ok (.ireturn, 1) := by decide +kernel
theorem dX5_ruleTold_39 : decode cX5_ruleTold 39 = .ok (.aload_n 0, 1) := by decide +kernel
theorem dX5_ruleTold_40 : decode cX5_ruleTold 40 = .ok (.getfield 16, 3) := by decide +kernel
theorem dX5_ruleTold_43 : decode cX5_ruleTold 43 = .ok (.iload_n 1, 1) := by decide +kernel
theorem dX5_ruleTold_44 : decode cX5_ruleTold 44 = .ok (.iaload, 1) := by decide +kernel
theorem dX5_ruleTold_45 : decode cX5_ruleTold 45 = .ok (.ireturn, 1) := by decide +kernel
theorem dX5_ruleTold_46 : decode cX5_ruleTold 46 = .ok (.aload_n 0, 1) := by decide +kernel
theorem dX5_ruleTold_47 : decode cX5_ruleTold 47 = .ok (.getfield 13, 3) := by decide +kernel
theorem dX5_ruleTold_50 : decode cX5_ruleTold 50 = .ok (.iload_n 1, 1) := by decide +kernel
theorem dX5_ruleTold_51 : decode cX5_ruleTold 51 = .ok (.iaload, 1) := by decide +kernel
theorem dX5_ruleTold_52 : decode cX5_ruleTold 52 = .ok (.invokestatic 60, 3) := by decide +kernel
theorem dX5_ruleTold_55 : decode cX5_ruleTold 55 = .ok (.ireturn, 1) := by decide +kernel
theorem dX5_ruleTold_56 : decode cX5_ruleTold 56 = .ok (.aload_n 0, 1) := by decide +kernel
theorem dX5_ruleTold_57 : decode cX5_ruleTold 57 = .ok (.iload_n 1, 1) := by decide +kernel
theorem dX5_ruleTold_58 : decode cX5_ruleTold 58 = .ok (.aload_n 0, 1) := by decide +kernel
theorem dX5_ruleTold_59 : decode cX5_ruleTold 59 = .ok (.aload_n 0, 1) := by decide +kernel
theorem dX5_ruleTold_60 : decode cX5_ruleTold 60 = .ok (.invokevirtual 75, 3) := by decide +kernel
theorem dX5_ruleTold_63 : decode cX5_ruleTold 63 = .ok (.invokevirtual 42, 3) := by decide +kernel
theorem dX5_ruleTold_66 : decode cX5_ruleTold 66 = .ok (.invokevirtual 46, 3) := by decide +kernel
theorem dX5_ruleTold_69 : decode cX5_ruleTold 69 = .ok (.ifCond .eq 7, 3) := by decide +kernel
theorem dX5_ruleTold_72 : decode cX5_ruleTold 72 = .ok (.iconst 1, 1) := by decide +kernel
theorem dX5_ruleTold_73 : decode cX5_ruleTold 73 = .ok (.goto 4, 3) := by decide +kernel
theorem dX5_ruleTold_76 : decode cX5_ruleTold 76 = .ok (.iconst 0, 1) := by decide +kernel
theorem dX5_ruleTold_77 : decode cX5_ruleTold 77 = .ok (.ireturn, 1) := by decide +kernel
theorem dX5_ruleTold_78 : decode cX5_ruleTold 78 = .ok (.aload_n 0, 1) := by decide +kernel
theorem dX5_ruleTold_79 : decode cX5_ruleTold 79 = .ok (.getfield 109, 3) := by decide +kernel
theorem dX5_ruleTold_82 : decode cX5_ruleTold 82 = .ok (.ifCond .eq 19, 3) := by decide +kernel
theorem dX5_ruleTold_85 : decode cX5_ruleTold 85 = .ok (.aload_n 0, 1) := by decide +kernel
theorem dX5_ruleTold_86 : decode cX5_ruleTold 86 = .ok (.iload_n 1, 1) := by decide +kernel
theorem dX5_ruleTold_87 : decode cX5_ruleTold 87 = .ok (.aload_n 0, 1) := by decide +kernel
theorem dX5_ruleTold_88 : decode cX5_ruleTold 88 = .ok (.getfield 113, 3) := by decide +kernel
theorem dX5_ruleTold_91 : decode cX5_ruleTold 91 = .ok (.invokevirtual 46, 3) := by decide +kernel
theorem dX5_ruleTold_94 : decode cX5_ruleTold 94 = .ok (.ifCond .eq 7, 3) := by decide +kernel
theorem dX5_ruleTold_97 : decode cX5_ruleTold 97 = .ok (.iconst 1, 1) := by decide +kernel
theorem dX5_ruleTold_98 : decode cX5_ruleTold 98 = .ok (.goto 4, 3) := by decide +kernel
theorem dX5_ruleTold_101 : decode cX5_ruleTold 101 = .ok (.iconst 0, 1) := by decide +kernel
theorem dX5_ruleTold_102 : decode cX5_ruleTold 102 = .ok (.ireturn, 1) := by decide +kernel
set_option maxRecDepth 20000 in
theorem ggX5_told_X5_isRule : GoodIn wsX5_told wsX5_isRule := goodIn_r _ [6, 7, 8, 9, 5, 10, 44, 45, 46, 47, 48, 49, 50, 51, 52, 53, 54, 55, 56, 57, 58, 59, 60] (by decide +kernel) (by decide +kernel)
set_option maxRecDepth 20000 in
theorem gX5_told_X5_isRule : GoodIn wsX5_told (wsV RX5 102 RX5 yX5_isRule wsX5_isRule) := goodIn_app (goodIn_of _ (by decide +kernel)) ggX5_told_X5_isRule
set_option maxRecDepth 20000 in
theorem ggX5_told_X5_isIn : GoodIn wsX5_told wsX5_isIn := goodIn_r _ [10] (by decide +kernel) (by decide +kernel)
set_option maxRecDepth 20000 in
theorem gX5_told_X5_isIn : GoodIn wsX5_told (va_wsS RX5 35 yX5_isIn wsX5_isIn) := goodIn_app (goodIn_of _ (by decide +kernel)) ggX5_told_X5_isIn
set_option maxRecDepth 20000 in
theorem ggX5_told_X5_ruleTold : GoodIn wsX5_told wsX5_ruleTold := goodIn_r _ [14, 15, 16, 17, 18, 19, 20, 21, 22, 23, 24, 25, 26, 27, 28, 5, 29, 30, 31, 32, 33, 34, 35, 36, 37, 38, 39, 44, 45, 46, 47, 48, 49, 50, 51, 52, 53, 54, 55, 56, 57, 58, 59, 60] (by decide +kernel) (by decide +kernel)
set_option maxRecDepth 20000 in
theorem gX5_told_X5_ruleTold : GoodIn wsX5_told (wsV RX5 116 RX5 yX5_ruleTold wsX5_ruleTold) := goodIn_app (goodIn_of _ (by decide +kernel)) ggX5_told_X5_ruleTold
set_option maxRecDepth 20000 in
theorem ggX5_told_X5_no : GoodIn wsX5_told wsX5_no := goodIn_r _ [43, 1, 44, 45, 46, 47, 48, 49, 50, 51, 52, 53, 54, 55, 56, 57, 58, 59, 60] (by decide +kernel) (by decide +kernel)
set_option maxRecDepth 20000 in
theorem gX5_told_X5_no : GoodIn wsX5_told (wsV RX5 93 RX5 yX5_no wsX5_no) := goodIn_app (goodIn_of _ (by decide +kernel)) ggX5_told_X5_no
theorem dX5_told_0 : decode cX5_told 0 = .ok (.aload_n 0, 1) := by decide +kernel
theorem dX5_told_1 : decode cX5_told 1 = .ok (.iconst 0, 1) := by decide +kernel
theorem dX5_told_2 : decode cX5_told 2 = .ok (.putfield 28, 3) := by decide +kernel
theorem dX5_told_5 : decode cX5_told 5 = .ok (.aload_n 0, 1) := by decide +kernel
theorem dX5_told_6 : decode cX5_told 6 = .ok (.iload_n 1, 1) := by decide +kernel
theorem dX5_told_7 : decode cX5_told 7 = .ok (.invokevirtual 102, 3) := by decide +kernel
theorem dX5_told_10 : decode cX5_told 10 = .ok (.ifCond .eq 21, 3) := by decide +kernel
theorem dX5_told_13 : decode cX5_told 13 = .ok (.iload_n 2, 1) := by decide +kernel
theorem dX5_told_14 : decode cX5_told 14 = .ok (.iconst 0, 1) := by decide +kernel
theorem dX5_told_15 : decode cX5_told 15 = .ok (.iconst 4, 1) := by decide +kernel
theorem dX5_told_16 : decode cX5_told 16 = .ok (.invokestatic 35, 3) := by decide +kernel
theorem dX5_told_19 : decode cX5_told 19 = .ok (.ifCond .eq 12, 3) := by decide +kernel
theorem dX5_told_22 : decode cX5_told 22 = .ok (.aload_n 0, 1) := by decide +kernel
theorem dX5_told_23 : decode cX5_told 23 = .ok (.iload_n 1, 1) := by decide +kernel
theorem dX5_told_24 : decode cX5_told 24 = .ok (.iload_n 2, 1) := by decide +kernel
theorem dX5_told_25 : decode cX5_told 25 = .ok (.invokevirtual 116, 3) := by decide +kernel
theorem dX5_told_28 : decode cX5_told 28 = .ok (.goto 8, 3) := by decide +kernel
theorem dX5_told_31 : decode cX5_told 31 = .ok (.aload_n 0, 1) := by decide +kernel
theorem dX5_told_32 : decode cX5_told 32 = .ok (.iconst 1, 1) := by decide +kernel
theorem dX5_told_33 : decode cX5_told 33 = .ok (.invokevirtual 93, 3) := by decide +kernel
theorem dX5_told_36 : decode cX5_told 36 = .ok (.ireturn, 1) := by decide +kernel
set_option maxRecDepth 20000 in
theorem ggX5_spoils_X5_whole : GoodIn wsX5_spoils wsX5_whole := goodIn_r _ [6, 7, 27, 28, 29, 30, 31, 32, 33, 34, 35, 36, 37, 38, 39, 40, 41, 42, 43] (by decide +kernel) (by decide +kernel)
set_option maxRecDepth 20000 in
theorem gX5_spoils_X5_whole : GoodIn wsX5_spoils (wsV RX5 75 RX5 yX5_whole wsX5_whole) := goodIn_app (goodIn_of _ (by decide +kernel)) ggX5_spoils_X5_whole
set_option maxRecDepth 20000 in
theorem ggX5_spoils_X5_isIn : GoodIn wsX5_spoils wsX5_isIn := goodIn_r _ [10] (by decide +kernel) (by decide +kernel)
set_option maxRecDepth 20000 in
theorem gX5_spoils_X5_isIn : GoodIn wsX5_spoils (va_wsS RX5 35 yX5_isIn wsX5_isIn) := goodIn_app (goodIn_of _ (by decide +kernel)) ggX5_spoils_X5_isIn
set_option maxRecDepth 20000 in
theorem ggX5_spoils_X5_isSpoilt : GoodIn wsX5_spoils wsX5_isSpoilt := goodIn_r _ [14, 15, 16, 17, 18, 5, 19, 7, 20, 21, 22, 23, 24, 25, 26, 27, 28, 29, 30, 31, 32, 33, 34, 35, 36, 37, 38, 39, 40, 41, 42, 43] (by decide +kernel) (by decide +kernel)
set_option maxRecDepth 20000 in
theorem gX5_spoils_X5_isSpoilt : GoodIn wsX5_spoils (wsV RX5 53 RX5 yX5_isSpoilt wsX5_isSpoilt) := goodIn_app (goodIn_of _ (by decide +kernel)) ggX5_spoils_X5_isSpoilt
theorem dX5_spoils_0 : decode cX5_spoils 0 = .ok (.aload_n 0, 1) := by decide +kernel
theorem dX5_spoils_1 : decode cX5_spoils 1 = .ok (.iload_n 1, 1) := by decide +kernel
theorem dX5_spoils_2 : decode cX5_spoils 2 = .ok (.iconst 0, 1) := by decide +kernel
theorem dX5_spoils_3 : decode cX5_spoils 3 = .ok (.aload_n 0, 1) := by decide +kernel
theorem dX5_spoils_4 : decode cX5_spoils 4 = .ok (.invokevirtual 75, 3) := by decide +kernel
theorem dX5_spoils_7 : decode cX5_spoils 7 = .ok (.invokestatic 35, 3) := by decide +kernel
theorem dX5_spoils_10 : decode cX5_spoils 10 = .ok (.ifCond .eq 7, 3) := by decide +kernel
theorem dX5_spoils_13 : decode cX5_spoils 13 = .ok (.iconst 0, 1) := by decide +kernel
theorem dX5_spoils_14 : decode cX5_spoils 14 = .ok (.goto 4, 3) := by decide +kernel
theorem dX5_spoils_17 : decode cX5_spoils 17 = .ok (.iconst 1, 1) := by decide +kernel
theorem dX5_spoils_18 : decode cX5_spoils 18 = .ok (.putfield 28, 3) := by decide +kernel
theorem dX5_spoils_21 : decode cX5_spoils 21 = .ok (.aload_n 0, 1) := by decide +kernel
theorem dX5_spoils_22 : decode cX5_spoils 22 = .ok (.getfield 28, 3) := by decide +kernel
theorem dX5_spoils_25 : decode cX5_spoils 25 = .ok (.ifCond .ne 15, 3) := by decide +kernel
theorem dX5_spoils_28 : decode cX5_spoils 28 = .ok (.aload_n 0, 1) := by decide +kernel
theorem dX5_spoils_29 : decode cX5_spoils 29 = .ok (.iload_n 1, 1) := by decide +kernel
theorem dX5_spoils_30 : decode cX5_spoils 30 = .ok (.invokevirtual 53, 3) := by decide +kernel
theorem dX5_spoils_33 : decode cX5_spoils 33 = .ok (.ifCond .eq 7, 3) := by decide +kernel
theorem dX5_spoils_36 : decode cX5_spoils 36 = .ok (.iconst 1, 1) := by decide +kernel
theorem dX5_spoils_37 : decode cX5_spoils 37 = .ok (.goto 4, 3) := by decide +kernel
theorem dX5_spoils_40 : decode cX5_spoils 40 = .ok (.iconst 0, 1) := by decide +kernel
theorem dX5_spoils_41 : decode cX5_spoils 41 = .ok (.ireturn, 1) := by decide +kernel
set_option maxRecDepth 20000 in
theorem ggX5_shrink_X5_halve : GoodIn wsX5_shrink wsX5_halve := goodIn_r _ [20, 5, 7, 21, 22, 23, 24, 25, 26, 27, 19, 28, 29, 30, 31, 32, 33, 34, 35, 36, 37, 38, 39, 40, 41, 42, 43, 44, 45, 46, 47, 48, 49, 50, 51, 52, 53, 54, 55, 56, 57, 58, 59, 60, 61, 62, 63, 64, 65, 66, 67, 68, 69, 70, 71, 9, 72, 73, 74, 75, 76, 77, 78, 79, 80, 81, 82, 83, 84, 85, 86, 87, 88] (by decide +kernel) (by decide +kernel)
set_option maxRecDepth 20000 in
theorem gX5_shrink_X5_halve : GoodIn wsX5_shrink (wsV RX5 119 RX5 yX5_halve wsX5_halve) := goodIn_app (goodIn_of _ (by decide +kernel)) ggX5_shrink_X5_halve
set_option maxRecDepth 20000 in
theorem ggX5_shrink_X5_kindsOf : GoodIn wsX5_shrink wsX5_kindsOf := goodIn_r _ [43, 29, 44, 72, 73, 74, 75, 76, 77, 78, 79, 80, 81, 82, 83, 84, 85, 86, 87, 88] (by decide +kernel) (by decide +kernel)
set_option maxRecDepth 20000 in
theorem gX5_shrink_X5_kindsOf : GoodIn wsX5_shrink (wsV RX5 42 RX5 yX5_kindsOf wsX5_kindsOf) := goodIn_app (goodIn_of _ (by decide +kernel)) ggX5_shrink_X5_kindsOf
theorem dX5_shrink_0 : decode cX5_shrink 0 = .ok (.aload_n 0, 1) := by decide +kernel
theorem dX5_shrink_1 : decode cX5_shrink 1 = .ok (.iconst 0, 1) := by decide +kernel
theorem dX5_shrink_2 : decode cX5_shrink 2 = .ok (.putfield 28, 3) := by decide +kernel
theorem dX5_shrink_5 : decode cX5_shrink 5 = .ok (.aload_n 0, 1) := by decide +kernel
theorem dX5_shrink_6 : decode cX5_shrink 6 = .ok (.aload_n 0, 1) := by decide +kernel
theorem dX5_shrink_7 : decode cX5_shrink 7 = .ok (.invokevirtual 119, 3) := by decide +kernel
theorem dX5_shrink_10 : decode cX5_shrink 10 = .ok (.putfield 122, 3) := by decide +kernel
theorem dX5_shrink_13 : decode cX5_shrink 13 = .ok (.aload_n 0, 1) := by decide +kernel
theorem dX5_shrink_14 : decode cX5_shrink 14 = .ok (.iconst 1, 1) := by decide +kernel
theorem dX5_shrink_15 : decode cX5_shrink 15 = .ok (.putfield 109, 3) := by decide +kernel
theorem dX5_shrink_18 : decode cX5_shrink 18 = .ok (.aload_n 0, 1) := by decide +kernel
theorem dX5_shrink_19 : decode cX5_shrink 19 = .ok (.aload_n 0, 1) := by decide +kernel
theorem dX5_shrink_20 : decode cX5_shrink 20 = .ok (.aload_n 0, 1) := by decide +kernel
theorem dX5_shrink_21 : decode cX5_shrink 21 = .ok (.getfield 122, 3) := by decide +kernel
theorem dX5_shrink_24 : decode cX5_shrink 24 = .ok (.invokevirtual 42, 3) := by decide +kernel
theorem dX5_shrink_27 : decode cX5_shrink 27 = .ok (.putfield 113, 3) := by decide +kernel
theorem dX5_shrink_30 : decode cX5_shrink 30 = .ok (.aload_n 0, 1) := by decide +kernel
theorem dX5_shrink_31 : decode cX5_shrink 31 = .ok (.aload_n 0, 1) := by decide +kernel
theorem dX5_shrink_32 : decode cX5_shrink 32 = .ok (.getfield 50, 3) := by decide +kernel
theorem dX5_shrink_35 : decode cX5_shrink 35 = .ok (.putfield 125, 3) := by decide +kernel
theorem dX5_shrink_38 : decode cX5_shrink 38 = .ok (.aload_n 0, 1) := by decide +kernel
theorem dX5_shrink_39 : decode cX5_shrink 39 = .ok (.aload_n 0, 1) := by decide +kernel
theorem dX5_shrink_40 : decode cX5_shrink 40 = .ok (.getfield 57, 3) := by decide +kernel
theorem dX5_shrink_43 : decode cX5_shrink 43 = .ok (.putfield 128, 3) := by decide +kernel
theorem dX5_shrink_46 : decode cX5_shrink 46 = .ok (.aload_n 0, 1) := by decide +kernel
theorem dX5_shrink_47 : decode cX5_shrink 47 = .ok (.getfield 22, 3) := by decide +kernel
theorem dX5_shrink_50 : decode cX5_shrink 50 = .ok (.iconst 0, 1) := by decide +kernel
theorem dX5_shrink_51 : decode cX5_shrink 51 = .ok (.aload_n 0, 1) := by decide +kernel
theorem dX5_shrink_52 : decode cX5_shrink 52 = .ok (.getfield 25, 3) := by decide +kernel
theorem dX5_shrink_55 : decode cX5_shrink 55 = .ok (.iconst 0, 1) := by decide +kernel
theorem dX5_shrink_56 : decode cX5_shrink 56 = .ok (.iconst 5, 1) := by decide +kernel
theorem dX5_shrink_57 : decode cX5_shrink 57 = .ok (.aload_n 0, 1) := by decide +kernel
theorem dX5_shrink_58 : decode cX5_shrink 58 = .ok (.getfield 57, 3) := by decide +kernel
theorem dX5_shrink_61 : decode cX5_shrink 61 = .ok (.imul, 1) := by decide +kernel
theorem dX5_shrink_62 : decode cX5_shrink 62 = .ok (.invokestatic 131, 3) := by decide +kernel
theorem dX5_shrink_65 : decode cX5_shrink 65 = .ok (.aload_n 0, 1) := by decide +kernel
theorem dX5_shrink_66 : decode cX5_shrink 66 = .ok (.dup, 1) := by decide +kernel
theorem dX5_shrink_67 : decode cX5_shrink 67 = .ok (.getfield 137, 3) := by decide +kernel
theorem dX5_shrink_70 : decode cX5_shrink 70 = .ok (.aload_n 0, 1) := by decide +kernel
theorem dX5_shrink_71 : decode cX5_shrink 71 = .ok (.getfield 50, 3) := by decide +kernel
theorem dX5_shrink_74 : decode cX5_shrink 74 = .ok (.iadd, 1) := by decide +kernel
theorem dX5_shrink_75 : decode cX5_shrink 75 = .ok (.putfield 137, 3) := by decide +kernel
theorem dX5_shrink_78 : decode cX5_shrink 78 = .ok (.aload_n 0, 1) := by decide +kernel
theorem dX5_shrink_79 : decode cX5_shrink 79 = .ok (.getfield 50, 3) := by decide +kernel
theorem dX5_shrink_82 : decode cX5_shrink 82 = .ok (.ireturn, 1) := by decide +kernel
set_option maxRecDepth 20000 in
theorem ggX5_keptSize_J6_bitCount_0f7a4 : GoodIn wsX5_keptSize wsJ6_bitCount_0f7a4 := goodIn_r _ [5, 6, 7, 8] (by decide +kernel) (by decide +kernel)
set_option maxRecDepth 20000 in
theorem gX5_keptSize_J6_bitCount_0f7a4 : GoodIn wsX5_keptSize (va_wsS RX5 60 yJ6_bitCount_0f7a4 wsJ6_bitCount_0f7a4) := goodIn_app (goodIn_of _ (by decide +kernel)) ggX5_keptSize_J6_bitCount_0f7a4
theorem dX5_keptSize_0 : decode cX5_keptSize 0 = .ok (.aload_n 0, 1) := by decide +kernel
theorem dX5_keptSize_1 : decode cX5_keptSize 1 = .ok (.getfield 122, 3) := by decide +kernel
theorem dX5_keptSize_4 : decode cX5_keptSize 4 = .ok (.invokestatic 60, 3) := by decide +kernel
theorem dX5_keptSize_7 : decode cX5_keptSize 7 = .ok (.ireturn, 1) := by decide +kernel
set_option maxRecDepth 20000 in
theorem ggX5_keptPlace_X5_part : GoodIn wsX5_keptPlace wsX5_part := goodIn_r _ [5] (by decide +kernel) (by decide +kernel)
set_option maxRecDepth 20000 in
theorem gX5_keptPlace_X5_part : GoodIn wsX5_keptPlace (va_wsS RX5 65 yX5_part wsX5_part) := goodIn_app (goodIn_of _ (by decide +kernel)) ggX5_keptPlace_X5_part
set_option maxRecDepth 20000 in
theorem ggX5_keptPlace_J6_numberOfTrailingZeros_0f7a4 : GoodIn wsX5_keptPlace wsJ6_numberOfTrailingZeros_0f7a4 := goodIn_r _ [9, 10] (by decide +kernel) (by decide +kernel)
set_option maxRecDepth 20000 in
theorem gX5_keptPlace_J6_numberOfTrailingZeros_0f7a4 : GoodIn wsX5_keptPlace (va_wsS RX5 140 yJ6_numberOfTrailingZeros_0f7a4 wsJ6_numberOfTrailingZeros_0f7a4) := goodIn_app (goodIn_of _ (by decide +kernel)) ggX5_keptPlace_J6_numberOfTrailingZeros_0f7a4
theorem dX5_keptPlace_0 : decode cX5_keptPlace 0 = .ok (.aload_n 0, 1) := by decide +kernel
theorem dX5_keptPlace_1 : decode cX5_keptPlace 1 = .ok (.getfield 122, 3) := by decide +kernel
theorem dX5_keptPlace_4 : decode cX5_keptPlace 4 = .ok (.iload_n 1, 1) := by decide +kernel
theorem dX5_keptPlace_5 : decode cX5_keptPlace 5 = .ok (.iload_n 1, 1) := by decide +kernel
theorem dX5_keptPlace_6 : decode cX5_keptPlace 6 = .ok (.iconst 1, 1) := by decide +kernel
theorem dX5_keptPlace_7 : decode cX5_keptPlace 7 = .ok (.iadd, 1) := by decide +kernel
theorem dX5_keptPlace_8 : decode cX5_keptPlace 8 = .ok (.invokestatic 65, 3) := by decide +kernel
theorem dX5_keptPlace_11 : decode cX5_keptPlace 11 = .ok (.invokestatic 140, 3) := by decide +kernel
theorem dX5_keptPlace_14 : decode cX5_keptPlace 14 = .ok (.ireturn, 1) := by decide +kernel
set_option maxRecDepth 20000 in
theorem ggX5_kept_X5_keptSize : GoodIn wsX5_kept wsX5_keptSize := goodIn_r _ [6, 7, 8, 9, 10, 11, 12, 13, 14, 33, 34, 35, 36, 37, 38, 39, 40, 41, 42, 43, 44, 45, 46, 47, 48, 49] (by decide +kernel) (by decide +kernel)
set_option maxRecDepth 20000 in
theorem gX5_kept_X5_keptSize : GoodIn wsX5_kept (wsV RX5 143 RX5 yX5_keptSize wsX5_keptSize) := goodIn_app (goodIn_of _ (by decide +kernel)) ggX5_kept_X5_keptSize
set_option maxRecDepth 20000 in
theorem ggX5_kept_X5_isIn : GoodIn wsX5_kept wsX5_isIn := goodIn_r _ [17] (by decide +kernel) (by decide +kernel)
set_option maxRecDepth 20000 in
theorem gX5_kept_X5_isIn : GoodIn wsX5_kept (va_wsS RX5 35 yX5_isIn wsX5_isIn) := goodIn_app (goodIn_of _ (by decide +kernel)) ggX5_kept_X5_isIn
set_option maxRecDepth 20000 in
theorem ggX5_kept_X5_keptPlace : GoodIn wsX5_kept wsX5_keptPlace := goodIn_r _ [21, 7, 22, 23, 5, 24, 25, 26, 10, 27, 28, 33, 34, 35, 36, 37, 38, 39, 40, 41, 42, 43, 44, 45, 46, 47, 48, 49] (by decide +kernel) (by decide +kernel)
set_option maxRecDepth 20000 in
theorem gX5_kept_X5_keptPlace : GoodIn wsX5_kept (wsV RX5 146 RX5 yX5_keptPlace wsX5_keptPlace) := goodIn_app (goodIn_of _ (by decide +kernel)) ggX5_kept_X5_keptPlace
set_option maxRecDepth 20000 in
theorem ggX5_kept_X5_no : GoodIn wsX5_kept wsX5_no := goodIn_r _ [32, 1, 33, 34, 35, 36, 37, 38, 39, 40, 41, 42, 43, 44, 45, 46, 47, 48, 49] (by decide +kernel) (by decide +kernel)
set_option maxRecDepth 20000 in
theorem gX5_kept_X5_no : GoodIn wsX5_kept (wsV RX5 93 RX5 yX5_no wsX5_no) := goodIn_app (goodIn_of _ (by decide +kernel)) ggX5_kept_X5_no
theorem dX5_kept_0 : decode cX5_kept 0 = .ok (.aload_n 0, 1) := by decide +kernel
theorem dX5_kept_1 : decode cX5_kept 1 = .ok (.iconst 0, 1) := by decide +kernel
theorem dX5_kept_2 : decode cX5_kept 2 = .ok (.putfield 28, 3) := by decide +kernel
theorem dX5_kept_5 : decode cX5_kept 5 = .ok (.iload_n 1, 1) := by decide +kernel
theorem dX5_kept_6 : decode cX5_kept 6 = .ok (.iconst 0, 1) := by decide +kernel
theorem dX5_kept_7 : decode cX5_kept 7 = .ok (.aload_n 0, 1) := by decide +kernel
theorem dX5_kept_8 : decode cX5_kept 8 = .ok (.invokevirtual 143, 3) := by decide +kernel
theorem dX5_kept_11 : decode cX5_kept 11 = .ok (.iconst 1, 1) := by decide +kernel
theorem dX5_kept_12 : decode cX5_kept 12 = .ok (.isub, 1) := by decide +kernel
theorem dX5_kept_13 : decode cX5_kept 13 = .ok (.invokestatic 35, 3) := by decide +kernel
theorem dX5_kept_16 : decode cX5_kept 16 = .ok (.ifCond .eq 11, 3) := by decide +kernel
theorem dX5_kept_19 : decode cX5_kept 19 = .ok (.aload_n 0, 1) := by decide +kernel
theorem dX5_kept_20 : decode cX5_kept 20 = .ok (.iload_n 1, 1) := by decide +kernel
theorem dX5_kept_21 : decode cX5_kept 21 = .ok (.invokevirtual 146, 3) := by decide +kernel
theorem dX5_kept_24 : decode cX5_kept 24 = .ok (.goto 8, 3) := by decide +kernel
theorem dX5_kept_27 : decode cX5_kept 27 = .ok (.aload_n 0, 1) := by decide +kernel
theorem dX5_kept_28 : decode cX5_kept 28 = .ok (.iconst 1, 1) := by decide +kernel
theorem dX5_kept_29 : decode cX5_kept 29 = .ok (.invokevirtual 93, 3) := by decide +kernel
theorem dX5_kept_32 : decode cX5_kept 32 = .ok (.ireturn, 1) := by decide +kernel
set_option maxRecDepth 20000 in
theorem ggX5_step_X5_isIn : GoodIn wsX5_step wsX5_isIn := goodIn_r _ [7] (by decide +kernel) (by decide +kernel)
set_option maxRecDepth 20000 in
theorem gX5_step_X5_isIn : GoodIn wsX5_step (va_wsS RX5 35 yX5_isIn wsX5_isIn) := goodIn_app (goodIn_of _ (by decide +kernel)) ggX5_step_X5_isIn
set_option maxRecDepth 20000 in
theorem ggX5_step_X5_no : GoodIn wsX5_step wsX5_no := goodIn_r _ [11, 1, 12, 13, 14, 15, 16, 17, 18, 19, 20, 21, 22, 23, 24, 25, 26, 27, 28] (by decide +kernel) (by decide +kernel)
set_option maxRecDepth 20000 in
theorem gX5_step_X5_no : GoodIn wsX5_step (wsV RX5 93 RX5 yX5_no wsX5_no) := goodIn_app (goodIn_of _ (by decide +kernel)) ggX5_step_X5_no
theorem dX5_step_0 : decode cX5_step 0 = .ok (.aload_n 0, 1) := by decide +kernel
theorem dX5_step_1 : decode cX5_step 1 = .ok (.iconst 0, 1) := by decide +kernel
theorem dX5_step_2 : decode cX5_step 2 = .ok (.putfield 28, 3) := by decide +kernel
theorem dX5_step_5 : decode cX5_step 5 = .ok (.iload_n 1, 1) := by decide +kernel
theorem dX5_step_6 : decode cX5_step 6 = .ok (.iconst 0, 1) := by decide +kernel
theorem dX5_step_7 : decode cX5_step 7 = .ok (.aload_n 0, 1) := by decide +kernel
theorem dX5_step_8 : decode cX5_step 8 = .ok (.getfield 128, 3) := by decide +kernel
theorem dX5_step_11 : decode cX5_step 11 = .ok (.iconst 1, 1) := by decide +kernel
theorem dX5_step_12 : decode cX5_step 12 = .ok (.isub, 1) := by decide +kernel
theorem dX5_step_13 : decode cX5_step 13 = .ok (.invokestatic 35, 3) := by decide +kernel
theorem dX5_step_16 : decode cX5_step 16 = .ok (.ifCond .eq 25, 3) := by decide +kernel
theorem dX5_step_19 : decode cX5_step 19 = .ok (.iload_n 2, 1) := by decide +kernel
theorem dX5_step_20 : decode cX5_step 20 = .ok (.iconst 0, 1) := by decide +kernel
theorem dX5_step_21 : decode cX5_step 21 = .ok (.iconst 4, 1) := by decide +kernel
theorem dX5_step_22 : decode cX5_step 22 = .ok (.invokestatic 35, 3) := by decide +kernel
theorem dX5_step_25 : decode cX5_step 25 = .ok (.ifCond .eq 16, 3) := by decide +kernel
theorem dX5_step_28 : decode cX5_step 28 = .ok (.aload_n 0, 1) := by decide +kernel
theorem dX5_step_29 : decode cX5_step 29 = .ok (.getfield 25, 3) := by decide +kernel
theorem dX5_step_32 : decode cX5_step 32 = .ok (.iconst 5, 1) := by decide +kernel
theorem dX5_step_33 : decode cX5_step 33 = .ok (.iload_n 1, 1) := by decide +kernel
theorem dX5_step_34 : decode cX5_step 34 = .ok (.imul, 1) := by decide +kernel
theorem dX5_step_35 : decode cX5_step 35 = .ok (.iload_n 2, 1) := by decide +kernel
theorem dX5_step_36 : decode cX5_step 36 = .ok (.iadd, 1) := by decide +kernel
theorem dX5_step_37 : decode cX5_step 37 = .ok (.iaload, 1) := by decide +kernel
theorem dX5_step_38 : decode cX5_step 38 = .ok (.goto 8, 3) := by decide +kernel
theorem dX5_step_41 : decode cX5_step 41 = .ok (.aload_n 0, 1) := by decide +kernel
theorem dX5_step_42 : decode cX5_step 42 = .ok (.iconst 1, 1) := by decide +kernel
theorem dX5_step_43 : decode cX5_step 43 = .ok (.invokevirtual 93, 3) := by decide +kernel
theorem dX5_step_46 : decode cX5_step 46 = .ok (.ireturn, 1) := by decide +kernel
set_option maxRecDepth 20000 in
theorem ggX5_hold_X5_whole : GoodIn wsX5_hold wsX5_whole := goodIn_r _ [6, 7, 19, 20, 21, 22, 23, 24, 25, 26, 27, 28, 29, 30, 31, 32, 33, 34, 35] (by decide +kernel) (by decide +kernel)
set_option maxRecDepth 20000 in
theorem gX5_hold_X5_whole : GoodIn wsX5_hold (wsV RX5 75 RX5 yX5_whole wsX5_whole) := goodIn_app (goodIn_of _ (by decide +kernel)) ggX5_hold_X5_whole
set_option maxRecDepth 20000 in
theorem ggX5_hold_X5_kindsOf : GoodIn wsX5_hold wsX5_kindsOf := goodIn_r _ [11, 7, 12, 19, 20, 21, 22, 23, 24, 25, 26, 27, 28, 29, 30, 31, 32, 33, 34, 35] (by decide +kernel) (by decide +kernel)
set_option maxRecDepth 20000 in
theorem gX5_hold_X5_kindsOf : GoodIn wsX5_hold (wsV RX5 42 RX5 yX5_kindsOf wsX5_kindsOf) := goodIn_app (goodIn_of _ (by decide +kernel)) ggX5_hold_X5_kindsOf
set_option maxRecDepth 20000 in
theorem ggX5_hold_X5_holds : GoodIn wsX5_hold wsX5_holds := goodIn_r _ [16, 17, 18, 19, 20, 21, 22, 23, 24, 25, 26, 27, 28, 29, 30, 31, 32, 33, 34, 35] (by decide +kernel) (by decide +kernel)
set_option maxRecDepth 20000 in
theorem gX5_hold_X5_holds : GoodIn wsX5_hold (wsV RX5 46 RX5 yX5_holds wsX5_holds) := goodIn_app (goodIn_of _ (by decide +kernel)) ggX5_hold_X5_holds
theorem dX5_hold_0 : decode cX5_hold 0 = .ok (.aload_n 0, 1) := by decide +kernel
theorem dX5_hold_1 : decode cX5_hold 1 = .ok (.aload_n 0, 1) := by decide +kernel
theorem dX5_hold_2 : decode cX5_hold 2 = .ok (.invokevirtual 75, 3) := by decide +kernel
theorem dX5_hold_5 : decode cX5_hold 5 = .ok (.invokevirtual 42, 3) := by decide +kernel
theorem dX5_hold_8 : decode cX5_hold 8 = .ok (.istore_n 1, 1) := by decide +kernel
theorem dX5_hold_9 : decode cX5_hold 9 = .ok (.iconst 0, 1) := by decide +kernel
theorem dX5_hold_10 : decode cX5_hold 10 = .ok (.istore_n 2, 1) := by decide +kernel
theorem dX5_hold_11 : decode cX5_hold 11 = .ok (.iconst 0, 1) := by decide +kernel
theorem dX5_hold_12 : decode cX5_hold 12 = .ok (.istore_n 3, 1) := by decide +kernel
theorem dX5_hold_13 : decode cX5_hold 13 = .ok (.iload_n 3, 1) := by decide +kernel
theorem dX5_hold_14 : decode cX5_hold 14 = .ok (.aload_n 0, 1) := by decide +kernel
theorem dX5_hold_15 : decode cX5_hold 15 = .ok (.getfield 32, 3) := by decide +kernel
theorem dX5_hold_18 : decode cX5_hold 18 = .ok (.if_icmp .ge 26, 3) := by decide +kernel
theorem dX5_hold_21 : decode cX5_hold 21 = .ok (.iload_n 2, 1) := by decide +kernel
theorem dX5_hold_22 : decode cX5_hold 22 = .ok (.aload_n 0, 1) := by decide +kernel
theorem dX5_hold_23 : decode cX5_hold 23 = .ok (.iload_n 3, 1) := by decide +kernel
theorem dX5_hold_24 : decode cX5_hold 24 = .ok (.iload_n 1, 1) := by decide +kernel
theorem dX5_hold_25 : decode cX5_hold 25 = .ok (.invokevirtual 46, 3) := by decide +kernel
theorem dX5_hold_28 : decode cX5_hold 28 = .ok (.ifCond .eq 7, 3) := by decide +kernel
theorem dX5_hold_31 : decode cX5_hold 31 = .ok (.iconst 1, 1) := by decide +kernel
theorem dX5_hold_32 : decode cX5_hold 32 = .ok (.goto 4, 3) := by decide +kernel
theorem dX5_hold_35 : decode cX5_hold 35 = .ok (.iconst 0, 1) := by decide +kernel
theorem dX5_hold_36 : decode cX5_hold 36 = .ok (.iadd, 1) := by decide +kernel
theorem dX5_hold_37 : decode cX5_hold 37 = .ok (.istore_n 2, 1) := by decide +kernel
theorem dX5_hold_38 : decode cX5_hold 38 = .ok (.iinc 3 1, 3) := by decide +kernel
theorem dX5_hold_41 : decode cX5_hold 41 = .ok (.goto (-28), 3) := by decide +kernel
theorem dX5_hold_44 : decode cX5_hold 44 = .ok (.iload_n 2, 1) := by decide +kernel
theorem dX5_hold_45 : decode cX5_hold 45 = .ok (.ireturn, 1) := by decide +kernel
set_option maxRecDepth 20000 in
theorem ggX5_counted_X5_hold : GoodIn wsX5_counted wsX5_hold := goodIn_r _ [10, 2, 11, 12, 13, 9, 14, 1, 15, 16, 17, 18, 19, 20, 21, 22, 23, 24, 25, 38, 39, 40, 41, 42, 43, 44, 45, 46, 47, 48, 49, 50, 51, 52, 53, 54] (by decide +kernel) (by decide +kernel)
set_option maxRecDepth 20000 in
theorem gX5_counted_X5_hold : GoodIn wsX5_counted (wsV RX5 149 RX5 yX5_hold wsX5_hold) := goodIn_app (goodIn_of _ (by decide +kernel)) ggX5_counted_X5_hold
set_option maxRecDepth 20000 in
theorem ggX5_counted_X5_keptSize : GoodIn wsX5_counted wsX5_keptSize := goodIn_r _ [29, 30, 31, 32, 33, 34, 35, 36, 37, 38, 39, 40, 41, 42, 43, 44, 45, 46, 47, 48, 49, 50, 51, 52, 53, 54] (by decide +kernel) (by decide +kernel)
set_option maxRecDepth 20000 in
theorem gX5_counted_X5_keptSize : GoodIn wsX5_counted (wsV RX5 143 RX5 yX5_keptSize wsX5_keptSize) := goodIn_app (goodIn_of _ (by decide +kernel)) ggX5_counted_X5_keptSize
theorem dX5_counted_0 : decode cX5_counted 0 = .ok (.iload_n 1, 1) := by decide +kernel
theorem dX5_counted_1 : decode cX5_counted 1 = .ok (.tableswitch 69 0 5 #[39, 44, 49, 54, 59, 64], 39) := by decide +kernel
theorem dX5_counted_40 : decode cX5_counted 40 = .ok (.aload_n 0, 1) := by decide +kernel
theorem dX5_counted_41 : decode cX5_counted 41 = .ok (.getfield 39, 3) := by decide +kernel
theorem dX5_counted_44 : decode cX5_counted 44 = .ok (.ireturn, 1) := by decide +kernel
theorem dX5_counted_45 : decode cX5_counted 45 = .ok (.aload_n 0, 1) := by decide +kernel
theorem dX5_counted_46 : decode cX5_counted 46 = .ok (.getfield 32, 3) := by decide +kernel
theorem dX5_counted_49 : decode cX5_counted 49 = .ok (.ireturn, 1) := by decide +kernel
theorem dX5_counted_50 : decode cX5_counted 50 = .ok (.aload_n 0, 1) := by decide +kernel
theorem dX5_counted_51 : decode cX5_counted 51 = .ok (.invokevirtual 149, 3) := by decide +kernel
theorem dX5_counted_54 : decode cX5_counted 54 = .ok (.ireturn, 1) := by decide +kernel
theorem dX5_counted_55 : decode cX5_counted 55 = .ok (.aload_n 0, 1) := by decide +kernel
theorem dX5_counted_56 : decode cX5_counted 56 = .ok (.invokevirtual 143, 3) := by decide +kernel
theorem dX5_counted_59 : decode cX5_counted 59 = .ok (.ireturn, 1) := by decide +kernel
theorem dX5_counted_60 : decode cX5_counted 60 = .ok (.aload_n 0, 1) := by decide +kernel
theorem dX5_counted_61 : decode cX5_counted 61 = .ok (.getfield 128, 3) := by decide +kernel
theorem dX5_counted_64 : decode cX5_counted 64 = .ok (.ireturn, 1) := by decide +kernel
theorem dX5_counted_65 : decode cX5_counted 65 = .ok (.aload_n 0, 1) := by decide +kernel
theorem dX5_counted_66 : decode cX5_counted 66 = .ok (.getfield 125, 3) := by decide +kernel
theorem dX5_counted_69 : decode cX5_counted 69 = .ok (.ireturn, 1) := by decide +kernel
theorem dX5_counted_70 : decode cX5_counted 70 = .ok (.aload_n 0, 1) := by decide +kernel
theorem dX5_counted_71 : decode cX5_counted 71 = .ok (.getfield 137, 3) := by decide +kernel
theorem dX5_counted_74 : decode cX5_counted 74 = .ok (.ireturn, 1) := by decide +kernel
set_option maxRecDepth 20000 in
theorem ggX5_count_X5_isIn : GoodIn wsX5_count wsX5_isIn := goodIn_r _ [5] (by decide +kernel) (by decide +kernel)
set_option maxRecDepth 20000 in
theorem gX5_count_X5_isIn : GoodIn wsX5_count (va_wsS RX5 35 yX5_isIn wsX5_isIn) := goodIn_app (goodIn_of _ (by decide +kernel)) ggX5_count_X5_isIn
set_option maxRecDepth 20000 in
theorem ggX5_count_X5_counted : GoodIn wsX5_count wsX5_counted := goodIn_r _ [9, 10, 11, 12, 13, 14, 15, 16, 17, 4, 18, 19, 20, 21, 22, 23, 24, 25, 26, 27, 28, 29, 30, 31, 32, 33, 34, 35, 36, 37, 38, 39, 40, 41, 42, 43, 44, 45, 50, 51, 52, 53, 54, 55, 56, 57, 58, 59, 60, 61, 62, 63, 64, 65, 66] (by decide +kernel) (by decide +kernel)
set_option maxRecDepth 20000 in
theorem gX5_count_X5_counted : GoodIn wsX5_count (wsV RX5 152 RX5 yX5_counted wsX5_counted) := goodIn_app (goodIn_of _ (by decide +kernel)) ggX5_count_X5_counted
set_option maxRecDepth 20000 in
theorem ggX5_count_X5_no : GoodIn wsX5_count wsX5_no := goodIn_r _ [49, 1, 50, 51, 52, 53, 54, 55, 56, 57, 58, 59, 60, 61, 62, 63, 64, 65, 66] (by decide +kernel) (by decide +kernel)
set_option maxRecDepth 20000 in
theorem gX5_count_X5_no : GoodIn wsX5_count (wsV RX5 93 RX5 yX5_no wsX5_no) := goodIn_app (goodIn_of _ (by decide +kernel)) ggX5_count_X5_no
theorem dX5_count_0 : decode cX5_count 0 = .ok (.aload_n 0, 1) := by decide +kernel
theorem dX5_count_1 : decode cX5_count 1 = .ok (.iconst 0, 1) := by decide +kernel
theorem dX5_count_2 : decode cX5_count 2 = .ok (.putfield 28, 3) := by decide +kernel
theorem dX5_count_5 : decode cX5_count 5 = .ok (.iload_n 1, 1) := by decide +kernel
theorem dX5_count_6 : decode cX5_count 6 = .ok (.iconst 0, 1) := by decide +kernel
theorem dX5_count_7 : decode cX5_count 7 = .ok (.bipush 6, 2) := by decide +kernel
theorem dX5_count_9 : decode cX5_count 9 = .ok (.invokestatic 35, 3) := by decide +kernel
theorem dX5_count_12 : decode cX5_count 12 = .ok (.ifCond .eq 11, 3) := by decide +kernel
theorem dX5_count_15 : decode cX5_count 15 = .ok (.aload_n 0, 1) := by decide +kernel
theorem dX5_count_16 : decode cX5_count 16 = .ok (.iload_n 1, 1) := by decide +kernel
theorem dX5_count_17 : decode cX5_count 17 = .ok (.invokevirtual 152, 3) := by decide +kernel
theorem dX5_count_20 : decode cX5_count 20 = .ok (.goto 8, 3) := by decide +kernel
theorem dX5_count_23 : decode cX5_count 23 = .ok (.aload_n 0, 1) := by decide +kernel
theorem dX5_count_24 : decode cX5_count 24 = .ok (.iconst 1, 1) := by decide +kernel
theorem dX5_count_25 : decode cX5_count 25 = .ok (.invokevirtual 93, 3) := by decide +kernel
theorem dX5_count_28 : decode cX5_count 28 = .ok (.ireturn, 1) := by decide +kernel
set_option maxRecDepth 20000 in
theorem ggX5_wouldBe_X5_halve : GoodIn wsX5_wouldBe wsX5_halve := goodIn_r _ [7, 2, 1, 8, 9, 10, 11, 12, 13, 14, 6, 15, 16, 17, 18, 19, 20, 21, 22, 23, 24, 25, 26, 27, 28, 29, 30, 31, 32, 33, 34, 35, 36, 37, 38, 39, 40, 41, 42, 43, 44, 45, 46, 47, 48, 49, 50, 51, 52, 53, 54, 55, 56, 57, 58, 59, 64, 65, 66, 67, 68, 69, 70, 71, 72, 73, 74, 75, 76, 77, 78, 79, 80] (by decide +kernel) (by decide +kernel)
set_option maxRecDepth 20000 in
theorem gX5_wouldBe_X5_halve : GoodIn wsX5_wouldBe (wsV RX5 119 RX5 yX5_halve wsX5_halve) := goodIn_app (goodIn_of _ (by decide +kernel)) ggX5_wouldBe_X5_halve
set_option maxRecDepth 20000 in
theorem ggX5_wouldBe_X5_spareEach : GoodIn wsX5_wouldBe wsX5_spareEach := goodIn_r _ [63, 2, 16, 12, 13, 14, 6, 15, 17, 18, 19, 20, 21, 22, 23, 24, 25, 26, 27, 28, 29, 30, 31, 32, 33, 34, 35, 36, 37, 64, 65, 66, 67, 68, 69, 70, 71, 72, 73, 74, 75, 76, 77, 78, 79, 80] (by decide +kernel) (by decide +kernel)
set_option maxRecDepth 20000 in
theorem gX5_wouldBe_X5_spareEach : GoodIn wsX5_wouldBe (wsV RX5 155 RX5 yX5_spareEach wsX5_spareEach) := goodIn_app (goodIn_of _ (by decide +kernel)) ggX5_wouldBe_X5_spareEach
theorem dX5_wouldBe_0 : decode cX5_wouldBe 0 = .ok (.iload_n 1, 1) := by decide +kernel
theorem dX5_wouldBe_1 : decode cX5_wouldBe 1 = .ok (.iconst 3, 1) := by decide +kernel
theorem dX5_wouldBe_2 : decode cX5_wouldBe 2 = .ok (.if_icmp .ge 10, 3) := by decide +kernel
theorem dX5_wouldBe_5 : decode cX5_wouldBe 5 = .ok (.aload_n 0, 1) := by decide +kernel
theorem dX5_wouldBe_6 : decode cX5_wouldBe 6 = .ok (.invokevirtual 119, 3) := by decide +kernel
theorem dX5_wouldBe_9 : decode cX5_wouldBe 9 = .ok (.goto 7, 3) := by decide +kernel
theorem dX5_wouldBe_12 : decode cX5_wouldBe 12 = .ok (.aload_n 0, 1) := by decide +kernel
theorem dX5_wouldBe_13 : decode cX5_wouldBe 13 = .ok (.invokevirtual 155, 3) := by decide +kernel
theorem dX5_wouldBe_16 : decode cX5_wouldBe 16 = .ok (.istore_n 2, 1) := by decide +kernel
theorem dX5_wouldBe_17 : decode cX5_wouldBe 17 = .ok (.iload_n 1, 1) := by decide +kernel
theorem dX5_wouldBe_18 : decode cX5_wouldBe 18 = .ok (.iconst 3, 1) := by decide +kernel
theorem dX5_wouldBe_19 : decode cX5_wouldBe 19 = .ok (.irem, 1) := by decide +kernel
theorem dX5_wouldBe_20 : decode cX5_wouldBe 20 = .ok (.ifCond .ne 7, 3) := by decide +kernel
theorem dX5_wouldBe_23 : decode cX5_wouldBe 23 = .ok (.iload_n 2, 1) := by decide +kernel
theorem dX5_wouldBe_24 : decode cX5_wouldBe 24 = .ok (.goto 19, 3) := by decide +kernel
theorem dX5_wouldBe_27 : decode cX5_wouldBe 27 = .ok (.iload_n 1, 1) := by decide +kernel
theorem dX5_wouldBe_28 : decode cX5_wouldBe 28 = .ok (.iconst 2, 1) := by decide +kernel
theorem dX5_wouldBe_29 : decode cX5_wouldBe 29 = .ok (.if_icmp .ne 10, 3) := by decide +kernel
theorem dX5_wouldBe_32 : decode cX5_wouldBe 32 = .ok (.aload_n 0, 1) := by decide +kernel
theorem dX5_wouldBe_33 : decode cX5_wouldBe 33 = .ok (.getfield 57, 3) := by decide +kernel
theorem dX5_wouldBe_36 : decode cX5_wouldBe 36 = .ok (.goto 7, 3) := by decide +kernel
theorem dX5_wouldBe_39 : decode cX5_wouldBe 39 = .ok (.aload_n 0, 1) := by decide +kernel
theorem dX5_wouldBe_40 : decode cX5_wouldBe 40 = .ok (.getfield 50, 3) := by decide +kernel
theorem dX5_wouldBe_43 : decode cX5_wouldBe 43 = .ok (.ireturn, 1) := by decide +kernel
set_option maxRecDepth 20000 in
theorem ggX5_would_X5_isIn : GoodIn wsX5_would wsX5_isIn := goodIn_r _ [5] (by decide +kernel) (by decide +kernel)
set_option maxRecDepth 20000 in
theorem gX5_would_X5_isIn : GoodIn wsX5_would (va_wsS RX5 35 yX5_isIn wsX5_isIn) := goodIn_app (goodIn_of _ (by decide +kernel)) ggX5_would_X5_isIn
set_option maxRecDepth 20000 in
theorem ggX5_would_X5_wouldBe : GoodIn wsX5_would wsX5_wouldBe := goodIn_r _ [9, 10, 11, 12, 13, 14, 4, 15, 16, 17, 18, 19, 20, 21, 22, 23, 24, 25, 26, 27, 28, 29, 30, 31, 32, 33, 34, 35, 36, 37, 38, 39, 40, 41, 42, 43, 44, 45, 46, 47, 48, 49, 50, 51, 52, 53, 54, 55, 56, 57, 58, 59, 60, 61, 62, 63, 64, 65, 66, 67, 68, 69, 70, 71, 76, 77, 78, 79, 80, 81, 82, 83, 84, 85, 86, 87, 88, 89, 90, 91, 92] (by decide +kernel) (by decide +kernel)
set_option maxRecDepth 20000 in
theorem gX5_would_X5_wouldBe : GoodIn wsX5_would (wsV RX5 158 RX5 yX5_wouldBe wsX5_wouldBe) := goodIn_app (goodIn_of _ (by decide +kernel)) ggX5_would_X5_wouldBe
set_option maxRecDepth 20000 in
theorem ggX5_would_X5_no : GoodIn wsX5_would wsX5_no := goodIn_r _ [75, 1, 76, 77, 78, 79, 80, 81, 82, 83, 84, 85, 86, 87, 88, 89, 90, 91, 92] (by decide +kernel) (by decide +kernel)
set_option maxRecDepth 20000 in
theorem gX5_would_X5_no : GoodIn wsX5_would (wsV RX5 93 RX5 yX5_no wsX5_no) := goodIn_app (goodIn_of _ (by decide +kernel)) ggX5_would_X5_no
theorem dX5_would_0 : decode cX5_would 0 = .ok (.aload_n 0, 1) := by decide +kernel
theorem dX5_would_1 : decode cX5_would 1 = .ok (.iconst 0, 1) := by decide +kernel
theorem dX5_would_2 : decode cX5_would 2 = .ok (.putfield 28, 3) := by decide +kernel
theorem dX5_would_5 : decode cX5_would 5 = .ok (.iload_n 1, 1) := by decide +kernel
theorem dX5_would_6 : decode cX5_would 6 = .ok (.iconst 0, 1) := by decide +kernel
theorem dX5_would_7 : decode cX5_would 7 = .ok (.iconst 4, 1) := by decide +kernel
theorem dX5_would_8 : decode cX5_would 8 = .ok (.invokestatic 35, 3) := by decide +kernel
theorem dX5_would_11 : decode cX5_would 11 = .ok (.ifCond .eq 11, 3) := by decide +kernel
theorem dX5_would_14 : decode cX5_would 14 = .ok (.aload_n 0, 1) := by decide +kernel
theorem dX5_would_15 : decode cX5_would 15 = .ok (.iload_n 1, 1) := by decide +kernel
theorem dX5_would_16 : decode cX5_would 16 = .ok (.invokevirtual 158, 3) := by decide +kernel
theorem dX5_would_19 : decode cX5_would 19 = .ok (.goto 8, 3) := by decide +kernel
theorem dX5_would_22 : decode cX5_would 22 = .ok (.aload_n 0, 1) := by decide +kernel
theorem dX5_would_23 : decode cX5_would 23 = .ok (.iconst 1, 1) := by decide +kernel
theorem dX5_would_24 : decode cX5_would 24 = .ok (.invokevirtual 93, 3) := by decide +kernel
theorem dX5_would_27 : decode cX5_would 27 = .ok (.ireturn, 1) := by decide +kernel
set_option maxRecDepth 20000 in
theorem ggX5_leastDish_X5_whole : GoodIn wsX5_leastDish wsX5_whole := goodIn_r _ [7, 8, 21, 22, 23, 24, 25, 26, 27, 28, 29, 30, 31, 32, 33, 34, 35, 36, 37] (by decide +kernel) (by decide +kernel)
set_option maxRecDepth 20000 in
theorem gX5_leastDish_X5_whole : GoodIn wsX5_leastDish (wsV RX5 75 RX5 yX5_whole wsX5_whole) := goodIn_app (goodIn_of _ (by decide +kernel)) ggX5_leastDish_X5_whole
set_option maxRecDepth 20000 in
theorem ggX5_leastDish_X5_kindsOf : GoodIn wsX5_leastDish wsX5_kindsOf := goodIn_r _ [12, 8, 13, 21, 22, 23, 24, 25, 26, 27, 28, 29, 30, 31, 32, 33, 34, 35, 36, 37] (by decide +kernel) (by decide +kernel)
set_option maxRecDepth 20000 in
theorem gX5_leastDish_X5_kindsOf : GoodIn wsX5_leastDish (wsV RX5 42 RX5 yX5_kindsOf wsX5_kindsOf) := goodIn_app (goodIn_of _ (by decide +kernel)) ggX5_leastDish_X5_kindsOf
set_option maxRecDepth 20000 in
theorem ggX5_leastDish_J6_bitCount_0f7a4 : GoodIn wsX5_leastDish wsJ6_bitCount_0f7a4 := goodIn_r _ [17, 18, 19, 20] (by decide +kernel) (by decide +kernel)
set_option maxRecDepth 20000 in
theorem gX5_leastDish_J6_bitCount_0f7a4 : GoodIn wsX5_leastDish (va_wsS RX5 60 yJ6_bitCount_0f7a4 wsJ6_bitCount_0f7a4) := goodIn_app (goodIn_of _ (by decide +kernel)) ggX5_leastDish_J6_bitCount_0f7a4
theorem dX5_leastDish_0 : decode cX5_leastDish 0 = .ok (.aload_n 0, 1) := by decide +kernel
theorem dX5_leastDish_1 : decode cX5_leastDish 1 = .ok (.aload_n 0, 1) := by decide +kernel
theorem dX5_leastDish_2 : decode cX5_leastDish 2 = .ok (.invokevirtual 75, 3) := by decide +kernel
theorem dX5_leastDish_5 : decode cX5_leastDish 5 = .ok (.invokevirtual 42, 3) := by decide +kernel
theorem dX5_leastDish_8 : decode cX5_leastDish 8 = .ok (.istore_n 1, 1) := by decide +kernel
theorem dX5_leastDish_9 : decode cX5_leastDish 9 = .ok (.iconst 0, 1) := by decide +kernel
theorem dX5_leastDish_10 : decode cX5_leastDish 10 = .ok (.istore_n 2, 1) := by decide +kernel
theorem dX5_leastDish_11 : decode cX5_leastDish 11 = .ok (.iconst 0, 1) := by decide +kernel
theorem dX5_leastDish_12 : decode cX5_leastDish 12 = .ok (.istore_n 3, 1) := by decide +kernel
theorem dX5_leastDish_13 : decode cX5_leastDish 13 = .ok (.iload_n 3, 1) := by decide +kernel
theorem dX5_leastDish_14 : decode cX5_leastDish 14 = .ok (.aload_n 0, 1) := by decide +kernel
theorem dX5_leastDish_15 : decode cX5_leastDish 15 = .ok (.getfield 32, 3) := by decide +kernel
theorem dX5_leastDish_18 : decode cX5_leastDish 18 = .ok (.if_icmp .ge 58, 3) := by decide +kernel
theorem dX5_leastDish_21 : decode cX5_leastDish 21 = .ok (.aload_n 0, 1) := by decide +kernel
theorem dX5_leastDish_22 : decode cX5_leastDish 22 = .ok (.getfield 13, 3) := by decide +kernel
theorem dX5_leastDish_25 : decode cX5_leastDish 25 = .ok (.iload_n 3, 1) := by decide +kernel
theorem dX5_leastDish_26 : decode cX5_leastDish 26 = .ok (.iaload, 1) := by decide +kernel
theorem dX5_leastDish_27 : decode cX5_leastDish 27 = .ok (.ifCond .eq 43, 3) := by decide +kernel
theorem dX5_leastDish_30 : decode cX5_leastDish 30 = .ok (.aload_n 0, 1) := by decide +kernel
theorem dX5_leastDish_31 : decode cX5_leastDish 31 = .ok (.getfield 13, 3) := by decide +kernel
theorem dX5_leastDish_34 : decode cX5_leastDish 34 = .ok (.iload_n 3, 1) := by decide +kernel
theorem dX5_leastDish_35 : decode cX5_leastDish 35 = .ok (.iaload, 1) := by decide +kernel
theorem dX5_leastDish_36 : decode cX5_leastDish 36 = .ok (.iload_n 1, 1) := by decide +kernel
theorem dX5_leastDish_37 : decode cX5_leastDish 37 = .ok (.iconst (-1), 1) := by decide +kernel
theorem dX5_leastDish_38 : decode cX5_leastDish 38 = .ok (.ixor, 1) := by decide +kernel
theorem dX5_leastDish_39 : decode cX5_leastDish 39 = .ok (.iand, 1) := by decide +kernel
theorem dX5_leastDish_40 : decode cX5_leastDish 40 = .ok (.ifCond .eq 6, 3) := by decide +kernel
theorem dX5_leastDish_43 : decode cX5_leastDish 43 = .ok (.goto 27, 3) := by decide +kernel
theorem dX5_leastDish_46 : decode cX5_leastDish 46 = .ok (.aload_n 0, 1) := by decide +kernel
theorem dX5_leastDish_47 : decode cX5_leastDish 47 = .ok (.getfield 13, 3) := by decide +kernel
theorem dX5_leastDish_50 : decode cX5_leastDish 50 = .ok (.iload_n 3, 1) := by decide +kernel
theorem dX5_leastDish_51 : decode cX5_leastDish 51 = .ok (.iaload, 1) := by decide +kernel
theorem dX5_leastDish_52 : decode cX5_leastDish 52 = .ok (.invokestatic 60, 3) := by decide +kernel
theorem dX5_leastDish_55 : decode cX5_leastDish 55 = .ok (.istore 4, 2) := by decide +kernel
theorem dX5_leastDish_57 : decode cX5_leastDish 57 = .ok (.iload_n 2, 1) := by decide +kernel
theorem dX5_leastDish_58 : decode cX5_leastDish 58 = .ok (.ifCond .eq 9, 3) := by decide +kernel
theorem dX5_leastDish_61 : decode cX5_leastDish 61 = .ok (.iload 4, 2) := by decide +kernel
theorem dX5_leastDish_63 : decode cX5_leastDish 63 = .ok (.iload_n 2, 1) := by decide +kernel
theorem dX5_leastDish_64 : decode cX5_leastDish 64 = .ok (.if_icmp .ge 6, 3) := by decide +kernel
theorem dX5_leastDish_67 : decode cX5_leastDish 67 = .ok (.iload 4, 2) := by decide +kernel
theorem dX5_leastDish_69 : decode cX5_leastDish 69 = .ok (.istore_n 2, 1) := by decide +kernel
theorem dX5_leastDish_70 : decode cX5_leastDish 70 = .ok (.iinc 3 1, 3) := by decide +kernel
theorem dX5_leastDish_73 : decode cX5_leastDish 73 = .ok (.goto (-60), 3) := by decide +kernel
theorem dX5_leastDish_76 : decode cX5_leastDish 76 = .ok (.iload_n 2, 1) := by decide +kernel
theorem dX5_leastDish_77 : decode cX5_leastDish 77 = .ok (.ireturn, 1) := by decide +kernel
set_option maxRecDepth 20000 in
theorem ggX5_least_X5_leastDish : GoodIn wsX5_least wsX5_leastDish := goodIn_r _ [6, 7, 8, 9, 10, 11, 5, 12, 13, 14, 15, 16, 17, 18, 19, 20, 21, 22, 23, 24, 25, 26, 27, 28, 29, 30, 31, 32, 33, 34, 35, 36, 37, 38, 39, 40, 41, 42] (by decide +kernel) (by decide +kernel)
set_option maxRecDepth 20000 in
theorem gX5_least_X5_leastDish : GoodIn wsX5_least (wsV RX5 161 RX5 yX5_leastDish wsX5_leastDish) := goodIn_app (goodIn_of _ (by decide +kernel)) ggX5_least_X5_leastDish
theorem dX5_least_0 : decode cX5_least 0 = .ok (.aload_n 0, 1) := by decide +kernel
theorem dX5_least_1 : decode cX5_least 1 = .ok (.iconst 0, 1) := by decide +kernel
theorem dX5_least_2 : decode cX5_least 2 = .ok (.putfield 28, 3) := by decide +kernel
theorem dX5_least_5 : decode cX5_least 5 = .ok (.aload_n 0, 1) := by decide +kernel
theorem dX5_least_6 : decode cX5_least 6 = .ok (.invokevirtual 161, 3) := by decide +kernel
theorem dX5_least_9 : decode cX5_least 9 = .ok (.ireturn, 1) := by decide +kernel
set_option maxRecDepth 20000 in
theorem ggX5_isTightDish_X5_isSpoilt : GoodIn wsX5_isTightDish wsX5_isSpoilt := goodIn_r _ [6, 7, 8, 9, 10, 5, 11, 1, 12, 13, 14, 15, 16, 17, 18, 19, 20, 21, 22, 23, 24, 25, 26, 27, 28, 29, 30, 31, 32, 33, 34, 35] (by decide +kernel) (by decide +kernel)
set_option maxRecDepth 20000 in
theorem gX5_isTightDish_X5_isSpoilt : GoodIn wsX5_isTightDish (wsV RX5 53 RX5 yX5_isSpoilt wsX5_isSpoilt) := goodIn_app (goodIn_of _ (by decide +kernel)) ggX5_isTightDish_X5_isSpoilt
theorem dX5_isTightDish_0 : decode cX5_isTightDish 0 = .ok (.aload_n 0, 1) := by decide +kernel
theorem dX5_isTightDish_1 : decode cX5_isTightDish 1 = .ok (.iload_n 1, 1) := by decide +kernel
theorem dX5_isTightDish_2 : decode cX5_isTightDish 2 = .ok (.invokevirtual 53, 3) := by decide +kernel
theorem dX5_isTightDish_5 : decode cX5_isTightDish 5 = .ok (.ifCond .ne 5, 3) := by decide +kernel
theorem dX5_isTightDish_8 : decode cX5_isTightDish 8 = .ok (.iconst 0, 1) := by decide +kernel
theorem dX5_isTightDish_9 : decode cX5_isTightDish 9 = .ok (.ireturn, 1) := by decide +kernel
theorem dX5_isTightDish_10 : decode cX5_isTightDish 10 = .ok (.iconst 0, 1) := by decide +kernel
theorem dX5_isTightDish_11 : decode cX5_isTightDish 11 = .ok (.istore_n 2, 1) := by decide +kernel
theorem dX5_isTightDish_12 : decode cX5_isTightDish 12 = .ok (.iload_n 2, 1) := by decide +kernel
theorem dX5_isTightDish_13 : decode cX5_isTightDish 13 = .ok (.aload_n 0, 1) := by decide +kernel
theorem dX5_isTightDish_14 : decode cX5_isTightDish 14 = .ok (.getfield 39, 3) := by decide +kernel
theorem dX5_isTightDish_17 : decode cX5_isTightDish 17 = .ok (.if_icmp .ge 34, 3) := by decide +kernel
theorem dX5_isTightDish_20 : decode cX5_isTightDish 20 = .ok (.iload_n 1, 1) := by decide +kernel
theorem dX5_isTightDish_21 : decode cX5_isTightDish 21 = .ok (.iload_n 2, 1) := by decide +kernel
theorem dX5_isTightDish_22 : decode cX5_isTightDish 22 = .ok (.ishr, 1) := by decide +kernel
theorem dX5_isTightDish_23 : decode cX5_isTightDish 23 = .ok (.iconst 1, 1) := by decide +kernel
theorem dX5_isTightDish_24 : decode cX5_isTightDish 24 = .ok (.iand, 1) := by decide +kernel
theorem dX5_isTightDish_25 : decode cX5_isTightDish 25 = .ok (.iconst 1, 1) := by decide +kernel
theorem dX5_isTightDish_26 : decode cX5_isTightDish 26 = .ok (.if_icmp .ne 19, 3) := by decide +kernel
theorem dX5_isTightDish_29 : decode cX5_isTightDish 29 = .ok (.aload_n 0, 1) := by decide +kernel
theorem dX5_isTightDish_30 : decode cX5_isTightDish 30 = .ok (.iload_n 1, 1) := by decide +kernel
theorem dX5_isTightDish_31 : decode cX5_isTightDish 31 = .ok (.iconst 1, 1) := by decide +kernel
theorem dX5_isTightDish_32 : decode cX5_isTightDish 32 = .ok (.iload_n 2, 1) := by decide +kernel
theorem dX5_isTightDish_33 : decode cX5_isTightDish 33 = .ok (.ishl, 1) := by decide +kernel
theorem dX5_isTightDish_34 : decode cX5_isTightDish 34 = .ok (.iconst (-1), 1) := by decide +kernel
theorem dX5_isTightDish_35 : decode cX5_isTightDish 35 = .ok (.ixor, 1) := by decide +kernel
theorem dX5_isTightDish_36 : decode cX5_isTightDish 36 = .ok (.iand, 1) := by decide +kernel
theorem dX5_isTightDish_37 : decode cX5_isTightDish 37 = .ok (.invokevirtual 53, 3) := by decide +kernel
theorem dX5_isTightDish_40 : decode cX5_isTightDish 40 = .ok (.ifCond .eq 5, 3) := by decide +kernel
theorem dX5_isTightDish_43 : decode cX5_isTightDish 43 = .ok (.iconst 0, 1) := by decide +kernel
theorem dX5_isTightDish_44 : decode cX5_isTightDish 44 = .ok (.ireturn, 1) := by decide +kernel
theorem dX5_isTightDish_45 : decode cX5_isTightDish 45 = .ok (.iinc 2 1, 3) := by decide +kernel
theorem dX5_isTightDish_48 : decode cX5_isTightDish 48 = .ok (.goto (-36), 3) := by decide +kernel
theorem dX5_isTightDish_51 : decode cX5_isTightDish 51 = .ok (.iconst 1, 1) := by decide +kernel
theorem dX5_isTightDish_52 : decode cX5_isTightDish 52 = .ok (.ireturn, 1) := by decide +kernel
set_option maxRecDepth 20000 in
theorem ggX5_isTight_X5_whole : GoodIn wsX5_isTight wsX5_whole := goodIn_r _ [6, 7, 31, 32, 33, 34, 35, 36, 37, 38, 39, 40, 41, 42, 43, 44, 45, 46, 47] (by decide +kernel) (by decide +kernel)
set_option maxRecDepth 20000 in
theorem gX5_isTight_X5_whole : GoodIn wsX5_isTight (wsV RX5 75 RX5 yX5_whole wsX5_whole) := goodIn_app (goodIn_of _ (by decide +kernel)) ggX5_isTight_X5_whole
set_option maxRecDepth 20000 in
theorem ggX5_isTight_X5_isIn : GoodIn wsX5_isTight wsX5_isIn := goodIn_r _ [10] (by decide +kernel) (by decide +kernel)
set_option maxRecDepth 20000 in
theorem gX5_isTight_X5_isIn : GoodIn wsX5_isTight (va_wsS RX5 35 yX5_isIn wsX5_isIn) := goodIn_app (goodIn_of _ (by decide +kernel)) ggX5_isTight_X5_isIn
set_option maxRecDepth 20000 in
theorem ggX5_isTight_X5_isTightDish : GoodIn wsX5_isTight wsX5_isTightDish := goodIn_r _ [14, 7, 15, 16, 17, 5, 18, 19, 20, 21, 22, 23, 24, 25, 26, 27, 28, 29, 30, 31, 32, 33, 34, 35, 36, 37, 38, 39, 40, 41, 42, 43, 44, 45, 46, 47] (by decide +kernel) (by decide +kernel)
set_option maxRecDepth 20000 in
theorem gX5_isTight_X5_isTightDish : GoodIn wsX5_isTight (wsV RX5 164 RX5 yX5_isTightDish wsX5_isTightDish) := goodIn_app (goodIn_of _ (by decide +kernel)) ggX5_isTight_X5_isTightDish
theorem dX5_isTight_0 : decode cX5_isTight 0 = .ok (.aload_n 0, 1) := by decide +kernel
theorem dX5_isTight_1 : decode cX5_isTight 1 = .ok (.iload_n 1, 1) := by decide +kernel
theorem dX5_isTight_2 : decode cX5_isTight 2 = .ok (.iconst 0, 1) := by decide +kernel
theorem dX5_isTight_3 : decode cX5_isTight 3 = .ok (.aload_n 0, 1) := by decide +kernel
theorem dX5_isTight_4 : decode cX5_isTight 4 = .ok (.invokevirtual 75, 3) := by decide +kernel
theorem dX5_isTight_7 : decode cX5_isTight 7 = .ok (.invokestatic 35, 3) := by decide +kernel
theorem dX5_isTight_10 : decode cX5_isTight 10 = .ok (.ifCond .eq 7, 3) := by decide +kernel
theorem dX5_isTight_13 : decode cX5_isTight 13 = .ok (.iconst 0, 1) := by decide +kernel
theorem dX5_isTight_14 : decode cX5_isTight 14 = .ok (.goto 4, 3) := by decide +kernel
theorem dX5_isTight_17 : decode cX5_isTight 17 = .ok (.iconst 1, 1) := by decide +kernel
theorem dX5_isTight_18 : decode cX5_isTight 18 = .ok (.putfield 28, 3) := by decide +kernel
theorem dX5_isTight_21 : decode cX5_isTight 21 = .ok (.aload_n 0, 1) := by decide +kernel
theorem dX5_isTight_22 : decode cX5_isTight 22 = .ok (.getfield 28, 3) := by decide +kernel
theorem dX5_isTight_25 : decode cX5_isTight 25 = .ok (.ifCond .ne 15, 3) := by decide +kernel
theorem dX5_isTight_28 : decode cX5_isTight 28 = .ok (.aload_n 0, 1) := by decide +kernel
theorem dX5_isTight_29 : decode cX5_isTight 29 = .ok (.iload_n 1, 1) := by decide +kernel
theorem dX5_isTight_30 : decode cX5_isTight 30 = .ok (.invokevirtual 164, 3) := by decide +kernel
theorem dX5_isTight_33 : decode cX5_isTight 33 = .ok (.ifCond .eq 7, 3) := by decide +kernel
theorem dX5_isTight_36 : decode cX5_isTight 36 = .ok (.iconst 1, 1) := by decide +kernel
theorem dX5_isTight_37 : decode cX5_isTight 37 = .ok (.goto 4, 3) := by decide +kernel
theorem dX5_isTight_40 : decode cX5_isTight 40 = .ok (.iconst 0, 1) := by decide +kernel
theorem dX5_isTight_41 : decode cX5_isTight 41 = .ok (.ireturn, 1) := by decide +kernel
set_option maxRecDepth 20000 in
theorem ggX5_without_X5_takeOut : GoodIn wsX5_without wsX5_takeOut := goodIn_r _ [8, 2, 1, 64, 65, 66, 67, 68, 69, 70, 71, 72, 73, 74, 75, 76, 77, 78, 79, 80] (by decide +kernel) (by decide +kernel)
set_option maxRecDepth 20000 in
theorem gX5_without_X5_takeOut : GoodIn wsX5_without (wsV RX5 99 RX5 yX5_takeOut wsX5_takeOut) := goodIn_app (goodIn_of _ (by decide +kernel)) ggX5_without_X5_takeOut
set_option maxRecDepth 20000 in
theorem ggX5_without_X5_halve : GoodIn wsX5_without wsX5_halve := goodIn_r _ [12, 3, 13, 14, 15, 16, 17, 18, 19, 20, 7, 21, 1, 22, 23, 24, 25, 26, 27, 28, 29, 30, 31, 32, 33, 34, 35, 2, 36, 37, 38, 39, 40, 41, 42, 43, 44, 45, 46, 47, 48, 49, 50, 51, 52, 53, 54, 55, 56, 57, 58, 59, 60, 61, 62, 63, 64, 65, 66, 67, 68, 69, 70, 71, 72, 73, 74, 75, 76, 77, 78, 79, 80] (by decide +kernel) (by decide +kernel)
set_option maxRecDepth 20000 in
theorem gX5_without_X5_halve : GoodIn wsX5_without (wsV RX5 119 RX5 yX5_halve wsX5_halve) := goodIn_app (goodIn_of _ (by decide +kernel)) ggX5_without_X5_halve
theorem dX5_without_0 : decode cX5_without 0 = .ok (.aload_n 0, 1) := by decide +kernel
theorem dX5_without_1 : decode cX5_without 1 = .ok (.iload_n 1, 1) := by decide +kernel
theorem dX5_without_2 : decode cX5_without 2 = .ok (.invokevirtual 99, 3) := by decide +kernel
theorem dX5_without_5 : decode cX5_without 5 = .ok (.istore_n 2, 1) := by decide +kernel
theorem dX5_without_6 : decode cX5_without 6 = .ok (.aload_n 0, 1) := by decide +kernel
theorem dX5_without_7 : decode cX5_without 7 = .ok (.invokevirtual 119, 3) := by decide +kernel
theorem dX5_without_10 : decode cX5_without 10 = .ok (.pop, 1) := by decide +kernel
theorem dX5_without_11 : decode cX5_without 11 = .ok (.aload_n 0, 1) := by decide +kernel
theorem dX5_without_12 : decode cX5_without 12 = .ok (.getfield 39, 3) := by decide +kernel
theorem dX5_without_15 : decode cX5_without 15 = .ok (.istore_n 3, 1) := by decide +kernel
theorem dX5_without_16 : decode cX5_without 16 = .ok (.iload_n 3, 1) := by decide +kernel
theorem dX5_without_17 : decode cX5_without 17 = .ok (.iload_n 1, 1) := by decide +kernel
theorem dX5_without_18 : decode cX5_without 18 = .ok (.if_icmp .le 23, 3) := by decide +kernel
theorem dX5_without_21 : decode cX5_without 21 = .ok (.aload_n 0, 1) := by decide +kernel
theorem dX5_without_22 : decode cX5_without 22 = .ok (.getfield 9, 3) := by decide +kernel
theorem dX5_without_25 : decode cX5_without 25 = .ok (.iload_n 3, 1) := by decide +kernel
theorem dX5_without_26 : decode cX5_without 26 = .ok (.aload_n 0, 1) := by decide +kernel
theorem dX5_without_27 : decode cX5_without 27 = .ok (.getfield 9, 3) := by decide +kernel
theorem dX5_without_30 : decode cX5_without 30 = .ok (.iload_n 3, 1) := by decide +kernel
theorem dX5_without_31 : decode cX5_without 31 = .ok (.iconst 1, 1) := by decide +kernel
theorem dX5_without_32 : decode cX5_without 32 = .ok (.isub, 1) := by decide +kernel
theorem dX5_without_33 : decode cX5_without 33 = .ok (.iaload, 1) := by decide +kernel
theorem dX5_without_34 : decode cX5_without 34 = .ok (.iastore, 1) := by decide +kernel
theorem dX5_without_35 : decode cX5_without 35 = .ok (.iinc 3 (-1), 3) := by decide +kernel
theorem dX5_without_38 : decode cX5_without 38 = .ok (.goto (-22), 3) := by decide +kernel
theorem dX5_without_41 : decode cX5_without 41 = .ok (.aload_n 0, 1) := by decide +kernel
theorem dX5_without_42 : decode cX5_without 42 = .ok (.getfield 9, 3) := by decide +kernel
theorem dX5_without_45 : decode cX5_without 45 = .ok (.iload_n 1, 1) := by decide +kernel
theorem dX5_without_46 : decode cX5_without 46 = .ok (.iload_n 2, 1) := by decide +kernel
theorem dX5_without_47 : decode cX5_without 47 = .ok (.iastore, 1) := by decide +kernel
theorem dX5_without_48 : decode cX5_without 48 = .ok (.aload_n 0, 1) := by decide +kernel
theorem dX5_without_49 : decode cX5_without 49 = .ok (.dup, 1) := by decide +kernel
theorem dX5_without_50 : decode cX5_without 50 = .ok (.getfield 39, 3) := by decide +kernel
theorem dX5_without_53 : decode cX5_without 53 = .ok (.iconst 1, 1) := by decide +kernel
theorem dX5_without_54 : decode cX5_without 54 = .ok (.iadd, 1) := by decide +kernel
theorem dX5_without_55 : decode cX5_without 55 = .ok (.putfield 39, 3) := by decide +kernel
theorem dX5_without_58 : decode cX5_without 58 = .ok (.aload_n 0, 1) := by decide +kernel
theorem dX5_without_59 : decode cX5_without 59 = .ok (.getfield 50, 3) := by decide +kernel
theorem dX5_without_62 : decode cX5_without 62 = .ok (.ireturn, 1) := by decide +kernel
set_option maxRecDepth 20000 in
theorem ggX5_advise_X5_without : GoodIn wsX5_advise wsX5_without := goodIn_r _ [7, 2, 8, 9, 10, 11, 12, 6, 13, 14, 15, 16, 17, 18, 19, 20, 21, 22, 23, 24, 25, 26, 27, 28, 29, 30, 31, 32, 33, 34, 35, 36, 37, 38, 39, 40, 41, 42, 43, 44, 45, 46, 47, 48, 49, 50, 51, 52, 53, 54, 55, 56, 57, 58, 59, 60, 61, 62, 63, 64, 65, 66, 67, 68, 69, 70, 71, 72, 73, 74, 75, 76, 77, 78, 79, 80, 81, 82, 83, 84, 85] (by decide +kernel) (by decide +kernel)
set_option maxRecDepth 20000 in
theorem gX5_advise_X5_without : GoodIn wsX5_advise (wsV RX5 167 RX5 yX5_without wsX5_without) := goodIn_app (goodIn_of _ (by decide +kernel)) ggX5_advise_X5_without
theorem dX5_advise_0 : decode cX5_advise 0 = .ok (.aload_n 0, 1) := by decide +kernel
theorem dX5_advise_1 : decode cX5_advise 1 = .ok (.iconst 0, 1) := by decide +kernel
theorem dX5_advise_2 : decode cX5_advise 2 = .ok (.putfield 28, 3) := by decide +kernel
theorem dX5_advise_5 : decode cX5_advise 5 = .ok (.iconst (-1), 1) := by decide +kernel
theorem dX5_advise_6 : decode cX5_advise 6 = .ok (.istore_n 1, 1) := by decide +kernel
theorem dX5_advise_7 : decode cX5_advise 7 = .ok (.iconst 0, 1) := by decide +kernel
theorem dX5_advise_8 : decode cX5_advise 8 = .ok (.istore_n 2, 1) := by decide +kernel
theorem dX5_advise_9 : decode cX5_advise 9 = .ok (.iconst 0, 1) := by decide +kernel
theorem dX5_advise_10 : decode cX5_advise 10 = .ok (.istore_n 3, 1) := by decide +kernel
theorem dX5_advise_11 : decode cX5_advise 11 = .ok (.iload_n 3, 1) := by decide +kernel
theorem dX5_advise_12 : decode cX5_advise 12 = .ok (.aload_n 0, 1) := by decide +kernel
theorem dX5_advise_13 : decode cX5_advise 13 = .ok (.getfield 39, 3) := by decide +kernel
theorem dX5_advise_16 : decode cX5_advise 16 = .ok (.if_icmp .ge 35, 3) := by decide +kernel
theorem dX5_advise_19 : decode cX5_advise 19 = .ok (.aload_n 0, 1) := by decide +kernel
theorem dX5_advise_20 : decode cX5_advise 20 = .ok (.iload_n 3, 1) := by decide +kernel
theorem dX5_advise_21 : decode cX5_advise 21 = .ok (.invokevirtual 167, 3) := by decide +kernel
theorem dX5_advise_24 : decode cX5_advise 24 = .ok (.istore 4, 2) := by decide +kernel
theorem dX5_advise_26 : decode cX5_advise 26 = .ok (.iload_n 1, 1) := by decide +kernel
theorem dX5_advise_27 : decode cX5_advise 27 = .ok (.iconst (-1), 1) := by decide +kernel
theorem dX5_advise_28 : decode cX5_advise 28 = .ok (.if_icmp .eq 12, 3) := by decide +kernel
theorem dX5_advise_31 : decode cX5_advise 31 = .ok (.iload 4, 2) := by decide +kernel
theorem dX5_advise_33 : decode cX5_advise 33 = .ok (.iload_n 2, 1) := by decide +kernel
theorem dX5_advise_34 : decode cX5_advise 34 = .ok (.if_icmp .lt 6, 3) := by decide +kernel
theorem dX5_advise_37 : decode cX5_advise 37 = .ok (.goto 8, 3) := by decide +kernel
theorem dX5_advise_40 : decode cX5_advise 40 = .ok (.iload_n 3, 1) := by decide +kernel
theorem dX5_advise_41 : decode cX5_advise 41 = .ok (.istore_n 1, 1) := by decide +kernel
theorem dX5_advise_42 : decode cX5_advise 42 = .ok (.iload 4, 2) := by decide +kernel
theorem dX5_advise_44 : decode cX5_advise 44 = .ok (.istore_n 2, 1) := by decide +kernel
theorem dX5_advise_45 : decode cX5_advise 45 = .ok (.iinc 3 1, 3) := by decide +kernel
theorem dX5_advise_48 : decode cX5_advise 48 = .ok (.goto (-37), 3) := by decide +kernel
theorem dX5_advise_51 : decode cX5_advise 51 = .ok (.iload_n 1, 1) := by decide +kernel
theorem dX5_advise_52 : decode cX5_advise 52 = .ok (.ireturn, 1) := by decide +kernel
set_option maxRecDepth 20000 in
theorem ggX5_mean_J6_bitCount_0f7a4 : GoodIn wsX5_mean wsJ6_bitCount_0f7a4 := goodIn_r _ [7, 8, 9, 10] (by decide +kernel) (by decide +kernel)
set_option maxRecDepth 20000 in
theorem gX5_mean_J6_bitCount_0f7a4 : GoodIn wsX5_mean (va_wsS RX5 60 yJ6_bitCount_0f7a4 wsJ6_bitCount_0f7a4) := goodIn_app (goodIn_of _ (by decide +kernel)) ggX5_mean_J6_bitCount_0f7a4
theorem dX5_mean_0 : decode cX5_mean 0 = .ok (.aload_n 0, 1) := by decide +kernel
theorem dX5_mean_1 : decode cX5_mean 1 = .ok (.iconst 0, 1) := by decide +kernel
theorem dX5_mean_2 : decode cX5_mean 2 = .ok (.putfield 28, 3) := by decide +kernel
theorem dX5_mean_5 : decode cX5_mean 5 = .ok (.iconst 0, 1) := by decide +kernel
theorem dX5_mean_6 : decode cX5_mean 6 = .ok (.istore_n 1, 1) := by decide +kernel
theorem dX5_mean_7 : decode cX5_mean 7 = .ok (.iconst 0, 1) := by decide +kernel
theorem dX5_mean_8 : decode cX5_mean 8 = .ok (.istore_n 2, 1) := by decide +kernel
theorem dX5_mean_9 : decode cX5_mean 9 = .ok (.iload_n 2, 1) := by decide +kernel
theorem dX5_mean_10 : decode cX5_mean 10 = .ok (.aload_n 0, 1) := by decide +kernel
theorem dX5_mean_11 : decode cX5_mean 11 = .ok (.getfield 32, 3) := by decide +kernel
theorem dX5_mean_14 : decode cX5_mean 14 = .ok (.if_icmp .ge 21, 3) := by decide +kernel
theorem dX5_mean_17 : decode cX5_mean 17 = .ok (.iload_n 1, 1) := by decide +kernel
theorem dX5_mean_18 : decode cX5_mean 18 = .ok (.aload_n 0, 1) := by decide +kernel
theorem dX5_mean_19 : decode cX5_mean 19 = .ok (.getfield 13, 3) := by decide +kernel
theorem dX5_mean_22 : decode cX5_mean 22 = .ok (.iload_n 2, 1) := by decide +kernel
theorem dX5_mean_23 : decode cX5_mean 23 = .ok (.iaload, 1) := by decide +kernel
theorem dX5_mean_24 : decode cX5_mean 24 = .ok (.invokestatic 60, 3) := by decide +kernel
theorem dX5_mean_27 : decode cX5_mean 27 = .ok (.iadd, 1) := by decide +kernel
theorem dX5_mean_28 : decode cX5_mean 28 = .ok (.istore_n 1, 1) := by decide +kernel
theorem dX5_mean_29 : decode cX5_mean 29 = .ok (.iinc 2 1, 3) := by decide +kernel
theorem dX5_mean_32 : decode cX5_mean 32 = .ok (.goto (-23), 3) := by decide +kernel
theorem dX5_mean_35 : decode cX5_mean 35 = .ok (.aload_n 0, 1) := by decide +kernel
theorem dX5_mean_36 : decode cX5_mean 36 = .ok (.getfield 32, 3) := by decide +kernel
theorem dX5_mean_39 : decode cX5_mean 39 = .ok (.ifCond .ne 7, 3) := by decide +kernel
theorem dX5_mean_42 : decode cX5_mean 42 = .ok (.dconst 0, 1) := by decide +kernel
theorem dX5_mean_43 : decode cX5_mean 43 = .ok (.goto 11, 3) := by decide +kernel
theorem dX5_mean_46 : decode cX5_mean 46 = .ok (.iload_n 1, 1) := by decide +kernel
theorem dX5_mean_47 : decode cX5_mean 47 = .ok (.i2d, 1) := by decide +kernel
theorem dX5_mean_48 : decode cX5_mean 48 = .ok (.aload_n 0, 1) := by decide +kernel
theorem dX5_mean_49 : decode cX5_mean 49 = .ok (.getfield 32, 3) := by decide +kernel
theorem dX5_mean_52 : decode cX5_mean 52 = .ok (.i2d, 1) := by decide +kernel
theorem dX5_mean_53 : decode cX5_mean 53 = .ok (.ddiv, 1) := by decide +kernel
theorem dX5_mean_54 : decode cX5_mean 54 = .ok (.dreturn, 1) := by decide +kernel
set_option maxRecDepth 20000 in
theorem ggX5_digest_X5_counted : GoodIn wsX5_digest wsX5_counted := goodIn_r _ [13, 4, 6, 7, 14, 15, 16, 17, 18, 12, 19, 20, 21, 22, 23, 24, 25, 26, 27, 5, 28, 29, 30, 31, 32, 33, 34, 35, 36, 37, 38, 39, 40, 41, 42, 43, 44, 45, 106, 107, 108, 109, 110, 111, 112, 113, 114, 115, 116, 117, 118, 119, 120, 121, 122] (by decide +kernel) (by decide +kernel)
set_option maxRecDepth 20000 in
theorem gX5_digest_X5_counted : GoodIn wsX5_digest (wsV RX5 152 RX5 yX5_counted wsX5_counted) := goodIn_app (goodIn_of _ (by decide +kernel)) ggX5_digest_X5_counted
set_option maxRecDepth 20000 in
theorem ggX5_digest_X5_ruleTold : GoodIn wsX5_digest wsX5_ruleTold := goodIn_r _ [49, 32, 33, 50, 51, 39, 40, 41, 42, 43, 44, 45, 20, 21, 22, 12, 23, 4, 24, 25, 26, 27, 5, 28, 29, 30, 31, 106, 107, 108, 109, 110, 111, 112, 113, 114, 115, 116, 117, 118, 119, 120, 121, 122] (by decide +kernel) (by decide +kernel)
set_option maxRecDepth 20000 in
theorem gX5_digest_X5_ruleTold : GoodIn wsX5_digest (wsV RX5 116 RX5 yX5_ruleTold wsX5_ruleTold) := goodIn_app (goodIn_of _ (by decide +kernel)) ggX5_digest_X5_ruleTold
set_option maxRecDepth 20000 in
theorem ggX5_digest_X5_keptSize : GoodIn wsX5_digest wsX5_keptSize := goodIn_r _ [37, 38, 39, 40, 41, 42, 43, 44, 45, 106, 107, 108, 109, 110, 111, 112, 113, 114, 115, 116, 117, 118, 119, 120, 121, 122] (by decide +kernel) (by decide +kernel)
set_option maxRecDepth 20000 in
theorem gX5_digest_X5_keptSize : GoodIn wsX5_digest (wsV RX5 143 RX5 yX5_keptSize wsX5_keptSize) := goodIn_app (goodIn_of _ (by decide +kernel)) ggX5_digest_X5_keptSize
set_option maxRecDepth 20000 in
theorem ggX5_digest_X5_keptPlace : GoodIn wsX5_digest wsX5_keptPlace := goodIn_r _ [55, 38, 56, 57, 12, 58, 59, 60, 41, 61, 62, 106, 107, 108, 109, 110, 111, 112, 113, 114, 115, 116, 117, 118, 119, 120, 121, 122] (by decide +kernel) (by decide +kernel)
set_option maxRecDepth 20000 in
theorem gX5_digest_X5_keptPlace : GoodIn wsX5_digest (wsV RX5 146 RX5 yX5_keptPlace wsX5_keptPlace) := goodIn_app (goodIn_of _ (by decide +kernel)) ggX5_digest_X5_keptPlace
set_option maxRecDepth 20000 in
theorem ggX5_digest_X5_wouldBe : GoodIn wsX5_digest wsX5_wouldBe := goodIn_r _ [66, 67, 68, 69, 70, 71, 12, 72, 73, 74, 75, 76, 20, 21, 22, 23, 4, 77, 78, 79, 80, 81, 82, 83, 84, 85, 6, 24, 25, 26, 27, 5, 28, 29, 30, 31, 32, 33, 39, 40, 41, 42, 43, 44, 45, 86, 87, 88, 89, 90, 91, 92, 56, 57, 58, 93, 94, 95, 96, 97, 98, 99, 100, 101, 106, 107, 108, 109, 110, 111, 112, 113, 114, 115, 116, 117, 118, 119, 120, 121, 122] (by decide +kernel) (by decide +kernel)
set_option maxRecDepth 20000 in
theorem gX5_digest_X5_wouldBe : GoodIn wsX5_digest (wsV RX5 158 RX5 yX5_wouldBe wsX5_wouldBe) := goodIn_app (goodIn_of _ (by decide +kernel)) ggX5_digest_X5_wouldBe
set_option maxRecDepth 20000 in
theorem ggX5_digest_X5_leastDish : GoodIn wsX5_digest wsX5_leastDish := goodIn_r _ [105, 6, 32, 20, 21, 22, 12, 23, 4, 24, 25, 26, 27, 5, 39, 40, 41, 42, 43, 44, 45, 106, 107, 108, 109, 110, 111, 112, 113, 114, 115, 116, 117, 118, 119, 120, 121, 122] (by decide +kernel) (by decide +kernel)
set_option maxRecDepth 20000 in
theorem gX5_digest_X5_leastDish : GoodIn wsX5_digest (wsV RX5 161 RX5 yX5_leastDish wsX5_leastDish) := goodIn_app (goodIn_of _ (by decide +kernel)) ggX5_digest_X5_leastDish
theorem dX5_digest_0 : decode cX5_digest 0 = .ok (.aload_n 0, 1) := by decide +kernel
theorem dX5_digest_1 : decode cX5_digest 1 = .ok (.iconst 0, 1) := by decide +kernel
theorem dX5_digest_2 : decode cX5_digest 2 = .ok (.putfield 28, 3) := by decide +kernel
theorem dX5_digest_5 : decode cX5_digest 5 = .ok (.ldc2_w 170, 3) := by decide +kernel
theorem dX5_digest_8 : decode cX5_digest 8 = .ok (.lstore_n 1, 1) := by decide +kernel
theorem dX5_digest_9 : decode cX5_digest 9 = .ok (.iconst 0, 1) := by decide +kernel
theorem dX5_digest_10 : decode cX5_digest 10 = .ok (.istore_n 3, 1) := by decide +kernel
theorem dX5_digest_11 : decode cX5_digest 11 = .ok (.iload_n 3, 1) := by decide +kernel
theorem dX5_digest_12 : decode cX5_digest 12 = .ok (.bipush 7, 2) := by decide +kernel
theorem dX5_digest_14 : decode cX5_digest 14 = .ok (.if_icmp .ge 22, 3) := by decide +kernel
theorem dX5_digest_17 : decode cX5_digest 17 = .ok (.lload_n 1, 1) := by decide +kernel
theorem dX5_digest_18 : decode cX5_digest 18 = .ok (.ldc2_w 172, 3) := by decide +kernel
theorem dX5_digest_21 : decode cX5_digest 21 = .ok (.lmul, 1) := by decide +kernel
theorem dX5_digest_22 : decode cX5_digest 22 = .ok (.aload_n 0, 1) := by decide +kernel
theorem dX5_digest_23 : decode cX5_digest 23 = .ok (.iload_n 3, 1) := by decide +kernel
theorem dX5_digest_24 : decode cX5_digest 24 = .ok (.invokevirtual 152, 3) := by decide +kernel
theorem dX5_digest_27 : decode cX5_digest 27 = .ok (.i2l, 1) := by decide +kernel
theorem dX5_digest_28 : decode cX5_digest 28 = .ok (.ladd, 1) := by decide +kernel
theorem dX5_digest_29 : decode cX5_digest 29 = .ok (.lstore_n 1, 1) := by decide +kernel
theorem dX5_digest_30 : decode cX5_digest 30 = .ok (.iinc 3 1, 3) := by decide +kernel
theorem dX5_digest_33 : decode cX5_digest 33 = .ok (.goto (-22), 3) := by decide +kernel
theorem dX5_digest_36 : decode cX5_digest 36 = .ok (.iconst 0, 1) := by decide +kernel
theorem dX5_digest_37 : decode cX5_digest 37 = .ok (.istore_n 3, 1) := by decide +kernel
theorem dX5_digest_38 : decode cX5_digest 38 = .ok (.iload_n 3, 1) := by decide +kernel
theorem dX5_digest_39 : decode cX5_digest 39 = .ok (.aload_n 0, 1) := by decide +kernel
theorem dX5_digest_40 : decode cX5_digest 40 = .ok (.getfield 39, 3) := by decide +kernel
theorem dX5_digest_43 : decode cX5_digest 43 = .ok (.if_icmp .ge 23, 3) := by decide +kernel
theorem dX5_digest_46 : decode cX5_digest 46 = .ok (.lload_n 1, 1) := by decide +kernel
theorem dX5_digest_47 : decode cX5_digest 47 = .ok (.ldc2_w 172, 3) := by decide +kernel
theorem dX5_digest_50 : decode cX5_digest 50 = .ok (.lmul, 1) := by decide +kernel
theorem dX5_digest_51 : decode cX5_digest 51 = .ok (.aload_n 0, 1) := by decide +kernel
theorem dX5_digest_52 : decode cX5_digest 52 = .ok (.getfield 9, 3) := by decide +kernel
theorem dX5_digest_55 : decode cX5_digest 55 = .ok (.iload_n 3, 1) := by decide +kernel
theorem dX5_digest_56 : decode cX5_digest 56 = .ok (.iaload, 1) := by decide +kernel
theorem dX5_digest_57 : decode cX5_digest 57 = .ok (.i2l, 1) := by decide +kernel
theorem dX5_digest_58 : decode cX5_digest 58 = .ok (.ladd, 1) := by decide +kernel
theorem dX5_digest_59 : decode cX5_digest 59 = .ok (.lstore_n 1, 1) := by decide +kernel
theorem dX5_digest_60 : decode cX5_digest 60 = .ok (.iinc 3 1, 3) := by decide +kernel
theorem dX5_digest_63 : decode cX5_digest 63 = .ok (.goto (-25), 3) := by decide +kernel
theorem dX5_digest_66 : decode cX5_digest 66 = .ok (.iconst 0, 1) := by decide +kernel
theorem dX5_digest_67 : decode cX5_digest 67 = .ok (.istore_n 3, 1) := by decide +kernel
theorem dX5_digest_68 : decode cX5_digest 68 = .ok (.iload_n 3, 1) := by decide +kernel
theorem dX5_digest_69 : decode cX5_digest 69 = .ok (.aload_n 0, 1) := by decide +kernel
theorem dX5_digest_70 : decode cX5_digest 70 = .ok (.getfield 32, 3) := by decide +kernel
theorem dX5_digest_73 : decode cX5_digest 73 = .ok (.if_icmp .ge 39, 3) := by decide +kernel
theorem dX5_digest_76 : decode cX5_digest 76 = .ok (.iconst 0, 1) := by decide +kernel
theorem dX5_digest_77 : decode cX5_digest 77 = .ok (.istore 4, 2) := by decide +kernel
theorem dX5_digest_79 : decode cX5_digest 79 = .ok (.iload 4, 2) := by decide +kernel
theorem dX5_digest_81 : decode cX5_digest 81 = .ok (.iconst 5, 1) := by decide +kernel
theorem dX5_digest_82 : decode cX5_digest 82 = .ok (.if_icmp .ge 24, 3) := by decide +kernel
theorem dX5_digest_85 : decode cX5_digest 85 = .ok (.lload_n 1, 1) := by decide +kernel
theorem dX5_digest_86 : decode cX5_digest 86 = .ok (.ldc2_w 172, 3) := by decide +kernel
theorem dX5_digest_89 : decode cX5_digest 89 = .ok (.lmul, 1) := by decide +kernel
theorem dX5_digest_90 : decode cX5_digest 90 = .ok (.aload_n 0, 1) := by decide +kernel
theorem dX5_digest_91 : decode cX5_digest 91 = .ok (.iload_n 3, 1) := by decide +kernel
theorem dX5_digest_92 : decode cX5_digest 92 = .ok (.iload 4, 2) := by decide +kernel
theorem dX5_digest_94 : decode cX5_digest 94 = .ok (.invokevirtual 116, 3) := by decide +kernel
theorem dX5_digest_97 : decode cX5_digest 97 = .ok (.i2l, 1) := by decide +kernel
theorem dX5_digest_98 : decode cX5_digest 98 = .ok (.ladd, 1) := by decide +kernel
theorem dX5_digest_99 : decode cX5_digest 99 = .ok (.lstore_n 1, 1) := by decide +kernel
theorem dX5_digest_100 : decode cX5_digest 100 = .ok (.iinc 4 1, 3) := by decide +kernel
theorem dX5_digest_103 : decode cX5_digest 103 = .ok (.goto (-24), 3) := by decide +kernel
theorem dX5_digest_106 : decode cX5_digest 106 = .ok (.iinc 3 1, 3) := by decide +kernel
theorem dX5_digest_109 : decode cX5_digest 109 = .ok (.goto (-41), 3) := by decide +kernel
theorem dX5_digest_112 : decode cX5_digest 112 = .ok (.iconst 0, 1) := by decide +kernel
theorem dX5_digest_113 : decode cX5_digest 113 = .ok (.istore_n 3, 1) := by decide +kernel
theorem dX5_digest_114 : decode cX5_digest 114 = .ok (.iload_n 3, 1) := by decide +kernel
theorem dX5_digest_115 : decode cX5_digest 115 = .ok (.aload_n 0, 1) := by decide +kernel
theorem dX5_digest_116 : decode cX5_digest 116 = .ok (.invokevirtual 143, 3) := by decide +kernel
theorem dX5_digest_119 : decode cX5_digest 119 = .ok (.if_icmp .ge 22, 3) := by decide +kernel
theorem dX5_digest_122 : decode cX5_digest 122 = .ok (.lload_n 1, 1) := by decide +kernel
theorem dX5_digest_123 : decode cX5_digest 123 = .ok (.ldc2_w 172, 3) := by decide +kernel
theorem dX5_digest_126 : decode cX5_digest 126 = .ok (.lmul, 1) := by decide +kernel
theorem dX5_digest_127 : decode cX5_digest 127 = .ok (.aload_n 0, 1) := by decide +kernel
theorem dX5_digest_128 : decode cX5_digest 128 = .ok (.iload_n 3, 1) := by decide +kernel
theorem dX5_digest_129 : decode cX5_digest 129 = .ok (.invokevirtual 146, 3) := by decide +kernel
theorem dX5_digest_132 : decode cX5_digest 132 = .ok (.i2l, 1) := by decide +kernel
theorem dX5_digest_133 : decode cX5_digest 133 = .ok (.ladd, 1) := by decide +kernel
theorem dX5_digest_134 : decode cX5_digest 134 = .ok (.lstore_n 1, 1) := by decide +kernel
theorem dX5_digest_135 : decode cX5_digest 135 = .ok (.iinc 3 1, 3) := by decide +kernel
theorem dX5_digest_138 : decode cX5_digest 138 = .ok (.goto (-24), 3) := by decide +kernel
theorem dX5_digest_141 : decode cX5_digest 141 = .ok (.iconst 0, 1) := by decide +kernel
theorem dX5_digest_142 : decode cX5_digest 142 = .ok (.istore_n 3, 1) := by decide +kernel
theorem dX5_digest_143 : decode cX5_digest 143 = .ok (.iload_n 3, 1) := by decide +kernel
theorem dX5_digest_144 : decode cX5_digest 144 = .ok (.iconst 5, 1) := by decide +kernel
theorem dX5_digest_145 : decode cX5_digest 145 = .ok (.aload_n 0, 1) := by decide +kernel
theorem dX5_digest_146 : decode cX5_digest 146 = .ok (.getfield 128, 3) := by decide +kernel
theorem dX5_digest_149 : decode cX5_digest 149 = .ok (.imul, 1) := by decide +kernel
theorem dX5_digest_150 : decode cX5_digest 150 = .ok (.if_icmp .ge 23, 3) := by decide +kernel
theorem dX5_digest_153 : decode cX5_digest 153 = .ok (.lload_n 1, 1) := by decide +kernel
theorem dX5_digest_154 : decode cX5_digest 154 = .ok (.ldc2_w 172, 3) := by decide +kernel
theorem dX5_digest_157 : decode cX5_digest 157 = .ok (.lmul, 1) := by decide +kernel
theorem dX5_digest_158 : decode cX5_digest 158 = .ok (.aload_n 0, 1) := by decide +kernel
theorem dX5_digest_159 : decode cX5_digest 159 = .ok (.getfield 25, 3) := by decide +kernel
theorem dX5_digest_162 : decode cX5_digest 162 = .ok (.iload_n 3, 1) := by decide +kernel
theorem dX5_digest_163 : decode cX5_digest 163 = .ok (.iaload, 1) := by decide +kernel
theorem dX5_digest_164 : decode cX5_digest 164 = .ok (.i2l, 1) := by decide +kernel
theorem dX5_digest_165 : decode cX5_digest 165 = .ok (.ladd, 1) := by decide +kernel
theorem dX5_digest_166 : decode cX5_digest 166 = .ok (.lstore_n 1, 1) := by decide +kernel
theorem dX5_digest_167 : decode cX5_digest 167 = .ok (.iinc 3 1, 3) := by decide +kernel
theorem dX5_digest_170 : decode cX5_digest 170 = .ok (.goto (-27), 3) := by decide +kernel
theorem dX5_digest_173 : decode cX5_digest 173 = .ok (.iconst 0, 1) := by decide +kernel
theorem dX5_digest_174 : decode cX5_digest 174 = .ok (.istore_n 3, 1) := by decide +kernel
theorem dX5_digest_175 : decode cX5_digest 175 = .ok (.iload_n 3, 1) := by decide +kernel
theorem dX5_digest_176 : decode cX5_digest 176 = .ok (.iconst 5, 1) := by decide +kernel
theorem dX5_digest_177 : decode cX5_digest 177 = .ok (.if_icmp .ge 22, 3) := by decide +kernel
theorem dX5_digest_180 : decode cX5_digest 180 = .ok (.lload_n 1, 1) := by decide +kernel
theorem dX5_digest_181 : decode cX5_digest 181 = .ok (.ldc2_w 172, 3) := by decide +kernel
theorem dX5_digest_184 : decode cX5_digest 184 = .ok (.lmul, 1) := by decide +kernel
theorem dX5_digest_185 : decode cX5_digest 185 = .ok (.aload_n 0, 1) := by decide +kernel
theorem dX5_digest_186 : decode cX5_digest 186 = .ok (.iload_n 3, 1) := by decide +kernel
theorem dX5_digest_187 : decode cX5_digest 187 = .ok (.invokevirtual 158, 3) := by decide +kernel
theorem dX5_digest_190 : decode cX5_digest 190 = .ok (.i2l, 1) := by decide +kernel
theorem dX5_digest_191 : decode cX5_digest 191 = .ok (.ladd, 1) := by decide +kernel
theorem dX5_digest_192 : decode cX5_digest 192 = .ok (.lstore_n 1, 1) := by decide +kernel
theorem dX5_digest_193 : decode cX5_digest 193 = .ok (.iinc 3 1, 3) := by decide +kernel
theorem dX5_digest_196 : decode cX5_digest 196 = .ok (.goto (-21), 3) := by decide +kernel
theorem dX5_digest_199 : decode cX5_digest 199 = .ok (.lload_n 1, 1) := by decide +kernel
theorem dX5_digest_200 : decode cX5_digest 200 = .ok (.ldc2_w 172, 3) := by decide +kernel
theorem dX5_digest_203 : decode cX5_digest 203 = .ok (.lmul, 1) := by decide +kernel
theorem dX5_digest_204 : decode cX5_digest 204 = .ok (.aload_n 0, 1) := by decide +kernel
theorem dX5_digest_205 : decode cX5_digest 205 = .ok (.invokevirtual 161, 3) := by decide +kernel
theorem dX5_digest_208 : decode cX5_digest 208 = .ok (.i2l, 1) := by decide +kernel
theorem dX5_digest_209 : decode cX5_digest 209 = .ok (.ladd, 1) := by decide +kernel
theorem dX5_digest_210 : decode cX5_digest 210 = .ok (.lreturn, 1) := by decide +kernel
theorem dJ6_numberOfTrailingZeros_0f7a4_0 : decode cJ6_numberOfTrailingZeros_0f7a4 0 = .ok (.iload_n 0, 1) := by decide +kernel
theorem dJ6_numberOfTrailingZeros_0f7a4_1 : decode cJ6_numberOfTrailingZeros_0f7a4 1 = .ok (.iconst (-1), 1) := by decide +kernel
theorem dJ6_numberOfTrailingZeros_0f7a4_2 : decode cJ6_numberOfTrailingZeros_0f7a4 2 = .ok (.ixor, 1) := by decide +kernel
theorem dJ6_numberOfTrailingZeros_0f7a4_3 : decode cJ6_numberOfTrailingZeros_0f7a4 3 = .ok (.iload_n 0, 1) := by decide +kernel
theorem dJ6_numberOfTrailingZeros_0f7a4_4 : decode cJ6_numberOfTrailingZeros_0f7a4 4 = .ok (.iconst 1, 1) := by decide +kernel
theorem dJ6_numberOfTrailingZeros_0f7a4_5 : decode cJ6_numberOfTrailingZeros_0f7a4 5 = .ok (.isub, 1) := by decide +kernel
theorem dJ6_numberOfTrailingZeros_0f7a4_6 : decode cJ6_numberOfTrailingZeros_0f7a4 6 = .ok (.iand, 1) := by decide +kernel
theorem dJ6_numberOfTrailingZeros_0f7a4_7 : decode cJ6_numberOfTrailingZeros_0f7a4 7 = .ok (.istore_n 0, 1) := by decide +kernel
theorem dJ6_numberOfTrailingZeros_0f7a4_8 : decode cJ6_numberOfTrailingZeros_0f7a4 8 = .ok (.iload_n 0, 1) := by decide +kernel
theorem dJ6_numberOfTrailingZeros_0f7a4_9 : decode cJ6_numberOfTrailingZeros_0f7a4 9 = .ok (.ifCond .gt 8, 3) := by decide +kernel
theorem dJ6_numberOfTrailingZeros_0f7a4_12 : decode cJ6_numberOfTrailingZeros_0f7a4 12 = .ok (.iload_n 0, 1) := by decide +kernel
theorem dJ6_numberOfTrailingZeros_0f7a4_13 : decode cJ6_numberOfTrailingZeros_0f7a4 13 = .ok (.bipush 32, 2) := by decide +kernel
theorem dJ6_numberOfTrailingZeros_0f7a4_15 : decode cJ6_numberOfTrailingZeros_0f7a4 15 = .ok (.iand, 1) := by decide +kernel
theorem dJ6_numberOfTrailingZeros_0f7a4_16 : decode cJ6_numberOfTrailingZeros_0f7a4 16 = .ok (.ireturn, 1) := by decide +kernel
theorem dJ6_numberOfTrailingZeros_0f7a4_17 : decode cJ6_numberOfTrailingZeros_0f7a4 17 = .ok (.iconst 1, 1) := by decide +kernel
theorem dJ6_numberOfTrailingZeros_0f7a4_18 : decode cJ6_numberOfTrailingZeros_0f7a4 18 = .ok (.istore_n 1, 1) := by decide +kernel
theorem dJ6_numberOfTrailingZeros_0f7a4_19 : decode cJ6_numberOfTrailingZeros_0f7a4 19 = .ok (.iload_n 0, 1) := by decide +kernel
theorem dJ6_numberOfTrailingZeros_0f7a4_20 : decode cJ6_numberOfTrailingZeros_0f7a4 20 = .ok (.ldc_w 264, 3) := by decide +kernel
theorem dJ6_numberOfTrailingZeros_0f7a4_23 : decode cJ6_numberOfTrailingZeros_0f7a4 23 = .ok (.if_icmp .le 11, 3) := by decide +kernel
theorem dJ6_numberOfTrailingZeros_0f7a4_26 : decode cJ6_numberOfTrailingZeros_0f7a4 26 = .ok (.iinc 1 16, 3) := by decide +kernel
theorem dJ6_numberOfTrailingZeros_0f7a4_29 : decode cJ6_numberOfTrailingZeros_0f7a4 29 = .ok (.iload_n 0, 1) := by decide +kernel
theorem dJ6_numberOfTrailingZeros_0f7a4_30 : decode cJ6_numberOfTrailingZeros_0f7a4 30 = .ok (.bipush 16, 2) := by decide +kernel
theorem dJ6_numberOfTrailingZeros_0f7a4_32 : decode cJ6_numberOfTrailingZeros_0f7a4 32 = .ok (.iushr, 1) := by decide +kernel
theorem dJ6_numberOfTrailingZeros_0f7a4_33 : decode cJ6_numberOfTrailingZeros_0f7a4 33 = .ok (.istore_n 0, 1) := by decide +kernel
theorem dJ6_numberOfTrailingZeros_0f7a4_34 : decode cJ6_numberOfTrailingZeros_0f7a4 34 = .ok (.iload_n 0, 1) := by decide +kernel
theorem dJ6_numberOfTrailingZeros_0f7a4_35 : decode cJ6_numberOfTrailingZeros_0f7a4 35 = .ok (.sipush 256, 3) := by decide +kernel
theorem dJ6_numberOfTrailingZeros_0f7a4_38 : decode cJ6_numberOfTrailingZeros_0f7a4 38 = .ok (.if_icmp .le 11, 3) := by decide +kernel
theorem dJ6_numberOfTrailingZeros_0f7a4_41 : decode cJ6_numberOfTrailingZeros_0f7a4 41 = .ok (.iinc 1 8, 3) := by decide +kernel
theorem dJ6_numberOfTrailingZeros_0f7a4_44 : decode cJ6_numberOfTrailingZeros_0f7a4 44 = .ok (.iload_n 0, 1) := by decide +kernel
theorem dJ6_numberOfTrailingZeros_0f7a4_45 : decode cJ6_numberOfTrailingZeros_0f7a4 45 = .ok (.bipush 8, 2) := by decide +kernel
theorem dJ6_numberOfTrailingZeros_0f7a4_47 : decode cJ6_numberOfTrailingZeros_0f7a4 47 = .ok (.iushr, 1) := by decide +kernel
theorem dJ6_numberOfTrailingZeros_0f7a4_48 : decode cJ6_numberOfTrailingZeros_0f7a4 48 = .ok (.istore_n 0, 1) := by decide +kernel
theorem dJ6_numberOfTrailingZeros_0f7a4_49 : decode cJ6_numberOfTrailingZeros_0f7a4 49 = .ok (.iload_n 0, 1) := by decide +kernel
theorem dJ6_numberOfTrailingZeros_0f7a4_50 : decode cJ6_numberOfTrailingZeros_0f7a4 50 = .ok (.bipush 16, 2) := by decide +kernel
theorem dJ6_numberOfTrailingZeros_0f7a4_52 : decode cJ6_numberOfTrailingZeros_0f7a4 52 = .ok (.if_icmp .le 10, 3) := by decide +kernel
theorem dJ6_numberOfTrailingZeros_0f7a4_55 : decode cJ6_numberOfTrailingZeros_0f7a4 55 = .ok (.iinc 1 4, 3) := by decide +kernel
theorem dJ6_numberOfTrailingZeros_0f7a4_58 : decode cJ6_numberOfTrailingZeros_0f7a4 58 = .ok (.iload_n 0, 1) := by decide +kernel
theorem dJ6_numberOfTrailingZeros_0f7a4_59 : decode cJ6_numberOfTrailingZeros_0f7a4 59 = .ok (.iconst 4, 1) := by decide +kernel
theorem dJ6_numberOfTrailingZeros_0f7a4_60 : decode cJ6_numberOfTrailingZeros_0f7a4 60 = .ok (.iushr, 1) := by decide +kernel
theorem dJ6_numberOfTrailingZeros_0f7a4_61 : decode cJ6_numberOfTrailingZeros_0f7a4 61 = .ok (.istore_n 0, 1) := by decide +kernel
theorem dJ6_numberOfTrailingZeros_0f7a4_62 : decode cJ6_numberOfTrailingZeros_0f7a4 62 = .ok (.iload_n 0, 1) := by decide +kernel
theorem dJ6_numberOfTrailingZeros_0f7a4_63 : decode cJ6_numberOfTrailingZeros_0f7a4 63 = .ok (.iconst 4, 1) := by decide +kernel
theorem dJ6_numberOfTrailingZeros_0f7a4_64 : decode cJ6_numberOfTrailingZeros_0f7a4 64 = .ok (.if_icmp .le 10, 3) := by decide +kernel
theorem dJ6_numberOfTrailingZeros_0f7a4_67 : decode cJ6_numberOfTrailingZeros_0f7a4 67 = .ok (.iinc 1 2, 3) := by decide +kernel
theorem dJ6_numberOfTrailingZeros_0f7a4_70 : decode cJ6_numberOfTrailingZeros_0f7a4 70 = .ok (.iload_n 0, 1) := by decide +kernel
theorem dJ6_numberOfTrailingZeros_0f7a4_71 : decode cJ6_numberOfTrailingZeros_0f7a4 71 = .ok (.iconst 2, 1) := by decide +kernel
theorem dJ6_numberOfTrailingZeros_0f7a4_72 : decode cJ6_numberOfTrailingZeros_0f7a4 72 = .ok (.iushr, 1) := by decide +kernel
theorem dJ6_numberOfTrailingZeros_0f7a4_73 : decode cJ6_numberOfTrailingZeros_0f7a4 73 = .ok (.istore_n 0, 1) := by decide +kernel
theorem dJ6_numberOfTrailingZeros_0f7a4_74 : decode cJ6_numberOfTrailingZeros_0f7a4 74 = .ok (.iload_n 1, 1) := by decide +kernel
theorem dJ6_numberOfTrailingZeros_0f7a4_75 : decode cJ6_numberOfTrailingZeros_0f7a4 75 = .ok (.iload_n 0, 1) := by decide +kernel
theorem dJ6_numberOfTrailingZeros_0f7a4_76 : decode cJ6_numberOfTrailingZeros_0f7a4 76 = .ok (.iconst 1, 1) := by decide +kernel
theorem dJ6_numberOfTrailingZeros_0f7a4_77 : decode cJ6_numberOfTrailingZeros_0f7a4 77 = .ok (.iushr, 1) := by decide +kernel
theorem dJ6_numberOfTrailingZeros_0f7a4_78 : decode cJ6_numberOfTrailingZeros_0f7a4 78 = .ok (.iadd, 1) := by decide +kernel
theorem dJ6_numberOfTrailingZeros_0f7a4_79 : decode cJ6_numberOfTrailingZeros_0f7a4 79 = .ok (.ireturn, 1) := by decide +kernel
theorem dJ6_bitCount_0f7a4_0 : decode cJ6_bitCount_0f7a4 0 = .ok (.iload_n 0, 1) := by decide +kernel
theorem dJ6_bitCount_0f7a4_1 : decode cJ6_bitCount_0f7a4 1 = .ok (.iload_n 0, 1) := by decide +kernel
theorem dJ6_bitCount_0f7a4_2 : decode cJ6_bitCount_0f7a4 2 = .ok (.iconst 1, 1) := by decide +kernel
theorem dJ6_bitCount_0f7a4_3 : decode cJ6_bitCount_0f7a4 3 = .ok (.iushr, 1) := by decide +kernel
theorem dJ6_bitCount_0f7a4_4 : decode cJ6_bitCount_0f7a4 4 = .ok (.ldc_w 265, 3) := by decide +kernel
theorem dJ6_bitCount_0f7a4_7 : decode cJ6_bitCount_0f7a4 7 = .ok (.iand, 1) := by decide +kernel
theorem dJ6_bitCount_0f7a4_8 : decode cJ6_bitCount_0f7a4 8 = .ok (.isub, 1) := by decide +kernel
theorem dJ6_bitCount_0f7a4_9 : decode cJ6_bitCount_0f7a4 9 = .ok (.istore_n 0, 1) := by decide +kernel
theorem dJ6_bitCount_0f7a4_10 : decode cJ6_bitCount_0f7a4 10 = .ok (.iload_n 0, 1) := by decide +kernel
theorem dJ6_bitCount_0f7a4_11 : decode cJ6_bitCount_0f7a4 11 = .ok (.ldc_w 266, 3) := by decide +kernel
theorem dJ6_bitCount_0f7a4_14 : decode cJ6_bitCount_0f7a4 14 = .ok (.iand, 1) := by decide +kernel
theorem dJ6_bitCount_0f7a4_15 : decode cJ6_bitCount_0f7a4 15 = .ok (.iload_n 0, 1) := by decide +kernel
theorem dJ6_bitCount_0f7a4_16 : decode cJ6_bitCount_0f7a4 16 = .ok (.iconst 2, 1) := by decide +kernel
theorem dJ6_bitCount_0f7a4_17 : decode cJ6_bitCount_0f7a4 17 = .ok (.iushr, 1) := by decide +kernel
theorem dJ6_bitCount_0f7a4_18 : decode cJ6_bitCount_0f7a4 18 = .ok (.ldc_w 266, 3) := by decide +kernel
theorem dJ6_bitCount_0f7a4_21 : decode cJ6_bitCount_0f7a4 21 = .ok (.iand, 1) := by decide +kernel
theorem dJ6_bitCount_0f7a4_22 : decode cJ6_bitCount_0f7a4 22 = .ok (.iadd, 1) := by decide +kernel
theorem dJ6_bitCount_0f7a4_23 : decode cJ6_bitCount_0f7a4 23 = .ok (.istore_n 0, 1) := by decide +kernel
theorem dJ6_bitCount_0f7a4_24 : decode cJ6_bitCount_0f7a4 24 = .ok (.iload_n 0, 1) := by decide +kernel
theorem dJ6_bitCount_0f7a4_25 : decode cJ6_bitCount_0f7a4 25 = .ok (.iload_n 0, 1) := by decide +kernel
theorem dJ6_bitCount_0f7a4_26 : decode cJ6_bitCount_0f7a4 26 = .ok (.iconst 4, 1) := by decide +kernel
theorem dJ6_bitCount_0f7a4_27 : decode cJ6_bitCount_0f7a4 27 = .ok (.iushr, 1) := by decide +kernel
theorem dJ6_bitCount_0f7a4_28 : decode cJ6_bitCount_0f7a4 28 = .ok (.iadd, 1) := by decide +kernel
theorem dJ6_bitCount_0f7a4_29 : decode cJ6_bitCount_0f7a4 29 = .ok (.ldc_w 267, 3) := by decide +kernel
theorem dJ6_bitCount_0f7a4_32 : decode cJ6_bitCount_0f7a4 32 = .ok (.iand, 1) := by decide +kernel
theorem dJ6_bitCount_0f7a4_33 : decode cJ6_bitCount_0f7a4 33 = .ok (.istore_n 0, 1) := by decide +kernel
theorem dJ6_bitCount_0f7a4_34 : decode cJ6_bitCount_0f7a4 34 = .ok (.iload_n 0, 1) := by decide +kernel
theorem dJ6_bitCount_0f7a4_35 : decode cJ6_bitCount_0f7a4 35 = .ok (.iload_n 0, 1) := by decide +kernel
theorem dJ6_bitCount_0f7a4_36 : decode cJ6_bitCount_0f7a4 36 = .ok (.bipush 8, 2) := by decide +kernel
theorem dJ6_bitCount_0f7a4_38 : decode cJ6_bitCount_0f7a4 38 = .ok (.iushr, 1) := by decide +kernel
theorem dJ6_bitCount_0f7a4_39 : decode cJ6_bitCount_0f7a4 39 = .ok (.iadd, 1) := by decide +kernel
theorem dJ6_bitCount_0f7a4_40 : decode cJ6_bitCount_0f7a4 40 = .ok (.istore_n 0, 1) := by decide +kernel
theorem dJ6_bitCount_0f7a4_41 : decode cJ6_bitCount_0f7a4 41 = .ok (.iload_n 0, 1) := by decide +kernel
theorem dJ6_bitCount_0f7a4_42 : decode cJ6_bitCount_0f7a4 42 = .ok (.iload_n 0, 1) := by decide +kernel
theorem dJ6_bitCount_0f7a4_43 : decode cJ6_bitCount_0f7a4 43 = .ok (.bipush 16, 2) := by decide +kernel
theorem dJ6_bitCount_0f7a4_45 : decode cJ6_bitCount_0f7a4 45 = .ok (.iushr, 1) := by decide +kernel
theorem dJ6_bitCount_0f7a4_46 : decode cJ6_bitCount_0f7a4 46 = .ok (.iadd, 1) := by decide +kernel
theorem dJ6_bitCount_0f7a4_47 : decode cJ6_bitCount_0f7a4 47 = .ok (.istore_n 0, 1) := by decide +kernel
theorem dJ6_bitCount_0f7a4_48 : decode cJ6_bitCount_0f7a4 48 = .ok (.iload_n 0, 1) := by decide +kernel
theorem dJ6_bitCount_0f7a4_49 : decode cJ6_bitCount_0f7a4 49 = .ok (.bipush 63, 2) := by decide +kernel
theorem dJ6_bitCount_0f7a4_51 : decode cJ6_bitCount_0f7a4 51 = .ok (.iand, 1) := by decide +kernel
theorem dJ6_bitCount_0f7a4_52 : decode cJ6_bitCount_0f7a4 52 = .ok (.ireturn, 1) := by decide +kernel
theorem dJ9_max_7cf53_0 : decode cJ9_max_7cf53 0 = .ok (.iload_n 0, 1) := by decide +kernel
theorem dJ9_max_7cf53_1 : decode cJ9_max_7cf53 1 = .ok (.iload_n 1, 1) := by decide +kernel
theorem dJ9_max_7cf53_2 : decode cJ9_max_7cf53 2 = .ok (.if_icmp .lt 7, 3) := by decide +kernel
theorem dJ9_max_7cf53_5 : decode cJ9_max_7cf53 5 = .ok (.iload_n 0, 1) := by decide +kernel
theorem dJ9_max_7cf53_6 : decode cJ9_max_7cf53 6 = .ok (.goto 4, 3) := by decide +kernel
theorem dJ9_max_7cf53_9 : decode cJ9_max_7cf53 9 = .ok (.iload_n 1, 1) := by decide +kernel
theorem dJ9_max_7cf53_10 : decode cJ9_max_7cf53 10 = .ok (.ireturn, 1) := by decide +kernel
theorem dJ9_min_7cf53_0 : decode cJ9_min_7cf53 0 = .ok (.iload_n 0, 1) := by decide +kernel
theorem dJ9_min_7cf53_1 : decode cJ9_min_7cf53 1 = .ok (.iload_n 1, 1) := by decide +kernel
theorem dJ9_min_7cf53_2 : decode cJ9_min_7cf53 2 = .ok (.if_icmp .gt 7, 3) := by decide +kernel
theorem dJ9_min_7cf53_5 : decode cJ9_min_7cf53 5 = .ok (.iload_n 0, 1) := by decide +kernel
theorem dJ9_min_7cf53_6 : decode cJ9_min_7cf53 6 = .ok (.goto 4, 3) := by decide +kernel
theorem dJ9_min_7cf53_9 : decode cJ9_min_7cf53 9 = .ok (.iload_n 1, 1) := by decide +kernel
theorem dJ9_min_7cf53_10 : decode cJ9_min_7cf53 10 = .ok (.ireturn, 1) := by decide +kernel
set_option maxRecDepth 20000 in
theorem ggL_add_X4_add : GoodIn wsL_add wsX4_add := goodIn_ca (goodIn_ca (goodIn_r _ [7, 8, 9, 10, 11, 12, 13, 14, 6, 15, 16, 17, 18, 19, 20, 21, 22, 23, 24, 25, 26, 27, 28, 29, 30, 31, 32, 33, 34, 35, 36, 37, 38, 39, 40] (by decide +kernel) (by decide +kernel)) (goodIn_sub (fun _ h => List.mem_cons_of_mem _ (List.mem_append_left _ (List.mem_append_right _ h))) (by decide +kernel))) (goodIn_sub (fun _ h => List.mem_cons_of_mem _ (List.mem_append_right _ h)) (by decide +kernel))
set_option maxRecDepth 20000 in
theorem gL_add_X4_add : GoodIn wsL_add (wsV RL 7 RX4 yX4_add wsX4_add) := goodIn_app (goodIn_of _ (by decide +kernel)) ggL_add_X4_add
theorem dL_add_0 : decode cL_add 0 = .ok (.aload_n 2, 1) := by decide +kernel
theorem dL_add_1 : decode cL_add 1 = .ok (.iconst 0, 1) := by decide +kernel
theorem dL_add_2 : decode cL_add 2 = .ok (.aload_n 0, 1) := by decide +kernel
theorem dL_add_3 : decode cL_add 3 = .ok (.iload_n 1, 1) := by decide +kernel
theorem dL_add_4 : decode cL_add 4 = .ok (.invokevirtual 7, 3) := by decide +kernel
theorem dL_add_7 : decode cL_add 7 = .ok (.i2l, 1) := by decide +kernel
theorem dL_add_8 : decode cL_add 8 = .ok (.lastore, 1) := by decide +kernel
theorem dL_add_9 : decode cL_add 9 = .ok (.goto 9, 3) := by decide +kernel
theorem dL_add_12 : decode cL_add 12 = .ok (.astore_n 3, 1) := by decide +kernel
theorem dL_add_13 : decode cL_add 13 = .ok (.iconst 1, 1) := by decide +kernel
theorem dL_add_14 : decode cL_add 14 = .ok (.ireturn, 1) := by decide +kernel
theorem dL_add_15 : decode cL_add 15 = .ok (.astore_n 3, 1) := by decide +kernel
theorem dL_add_16 : decode cL_add 16 = .ok (.iconst 2, 1) := by decide +kernel
theorem dL_add_17 : decode cL_add 17 = .ok (.ireturn, 1) := by decide +kernel
theorem dL_add_18 : decode cL_add 18 = .ok (.iconst 0, 1) := by decide +kernel
theorem dL_add_19 : decode cL_add 19 = .ok (.ireturn, 1) := by decide +kernel
set_option maxRecDepth 20000 in
theorem ggL_drop_X4_drop : GoodIn wsL_drop wsX4_drop := goodIn_ca (goodIn_r _ [6, 7, 8, 9, 10, 11, 12, 13, 14, 15, 16, 17, 18, 19, 20, 21, 22, 23, 24, 25, 26, 27, 28, 29, 30, 31, 32, 33, 34] (by decide +kernel) (by decide +kernel)) (goodIn_sub (fun _ h => List.mem_cons_of_mem _ (List.mem_append_right _ h)) (by decide +kernel))
set_option maxRecDepth 20000 in
theorem gL_drop_X4_drop : GoodIn wsL_drop (wsV RL 17 RX4 yX4_drop wsX4_drop) := goodIn_app (goodIn_of _ (by decide +kernel)) ggL_drop_X4_drop
theorem dL_drop_0 : decode cL_drop 0 = .ok (.aload_n 2, 1) := by decide +kernel
theorem dL_drop_1 : decode cL_drop 1 = .ok (.iconst 0, 1) := by decide +kernel
theorem dL_drop_2 : decode cL_drop 2 = .ok (.aload_n 0, 1) := by decide +kernel
theorem dL_drop_3 : decode cL_drop 3 = .ok (.iload_n 1, 1) := by decide +kernel
theorem dL_drop_4 : decode cL_drop 4 = .ok (.invokevirtual 17, 3) := by decide +kernel
theorem dL_drop_7 : decode cL_drop 7 = .ok (.i2l, 1) := by decide +kernel
theorem dL_drop_8 : decode cL_drop 8 = .ok (.lastore, 1) := by decide +kernel
theorem dL_drop_9 : decode cL_drop 9 = .ok (.goto 6, 3) := by decide +kernel
theorem dL_drop_12 : decode cL_drop 12 = .ok (.astore_n 3, 1) := by decide +kernel
theorem dL_drop_13 : decode cL_drop 13 = .ok (.iconst 1, 1) := by decide +kernel
theorem dL_drop_14 : decode cL_drop 14 = .ok (.ireturn, 1) := by decide +kernel
theorem dL_drop_15 : decode cL_drop 15 = .ok (.iconst 0, 1) := by decide +kernel
theorem dL_drop_16 : decode cL_drop 16 = .ok (.ireturn, 1) := by decide +kernel
set_option maxRecDepth 20000 in
theorem ggL_kind_X4_kind : GoodIn wsL_kind wsX4_kind := goodIn_ca (goodIn_r _ [6, 7, 8, 9, 10, 11, 12, 13, 14, 15, 16, 17, 18, 19, 20, 21, 22, 23, 24, 25, 26, 27, 28, 29, 30] (by decide +kernel) (by decide +kernel)) (goodIn_sub (fun _ h => List.mem_cons_of_mem _ (List.mem_append_right _ h)) (by decide +kernel))
set_option maxRecDepth 20000 in
theorem gL_kind_X4_kind : GoodIn wsL_kind (wsV RL 20 RX4 yX4_kind wsX4_kind) := goodIn_app (goodIn_of _ (by decide +kernel)) ggL_kind_X4_kind
theorem dL_kind_0 : decode cL_kind 0 = .ok (.aload_n 2, 1) := by decide +kernel
theorem dL_kind_1 : decode cL_kind 1 = .ok (.iconst 0, 1) := by decide +kernel
theorem dL_kind_2 : decode cL_kind 2 = .ok (.aload_n 0, 1) := by decide +kernel
theorem dL_kind_3 : decode cL_kind 3 = .ok (.iload_n 1, 1) := by decide +kernel
theorem dL_kind_4 : decode cL_kind 4 = .ok (.invokevirtual 20, 3) := by decide +kernel
theorem dL_kind_7 : decode cL_kind 7 = .ok (.i2l, 1) := by decide +kernel
theorem dL_kind_8 : decode cL_kind 8 = .ok (.lastore, 1) := by decide +kernel
theorem dL_kind_9 : decode cL_kind 9 = .ok (.goto 6, 3) := by decide +kernel
theorem dL_kind_12 : decode cL_kind 12 = .ok (.astore_n 3, 1) := by decide +kernel
theorem dL_kind_13 : decode cL_kind 13 = .ok (.iconst 1, 1) := by decide +kernel
theorem dL_kind_14 : decode cL_kind 14 = .ok (.ireturn, 1) := by decide +kernel
theorem dL_kind_15 : decode cL_kind 15 = .ok (.iconst 0, 1) := by decide +kernel
theorem dL_kind_16 : decode cL_kind 16 = .ok (.ireturn, 1) := by decide +kernel
set_option maxRecDepth 20000 in
theorem ggL_rule_X4_rule : GoodIn wsL_rule wsX4_rule := goodIn_ca (goodIn_r _ [6, 7, 8, 9, 10, 11, 12, 13, 14, 15, 16, 17, 18, 19, 20, 21, 22, 23, 24, 25, 26, 27, 28, 29, 30, 31, 32, 33, 34] (by decide +kernel) (by decide +kernel)) (goodIn_sub (fun _ h => List.mem_cons_of_mem _ (List.mem_append_right _ h)) (by decide +kernel))
set_option maxRecDepth 20000 in
theorem gL_rule_X4_rule : GoodIn wsL_rule (wsV RL 23 RX4 yX4_rule wsX4_rule) := goodIn_app (goodIn_of _ (by decide +kernel)) ggL_rule_X4_rule
theorem dL_rule_0 : decode cL_rule 0 = .ok (.aload_n 1, 1) := by decide +kernel
theorem dL_rule_1 : decode cL_rule 1 = .ok (.iconst 0, 1) := by decide +kernel
theorem dL_rule_2 : decode cL_rule 2 = .ok (.aload_n 0, 1) := by decide +kernel
theorem dL_rule_3 : decode cL_rule 3 = .ok (.invokevirtual 23, 3) := by decide +kernel
theorem dL_rule_6 : decode cL_rule 6 = .ok (.i2l, 1) := by decide +kernel
theorem dL_rule_7 : decode cL_rule 7 = .ok (.lastore, 1) := by decide +kernel
theorem dL_rule_8 : decode cL_rule 8 = .ok (.goto 6, 3) := by decide +kernel
theorem dL_rule_11 : decode cL_rule 11 = .ok (.astore_n 2, 1) := by decide +kernel
theorem dL_rule_12 : decode cL_rule 12 = .ok (.iconst 1, 1) := by decide +kernel
theorem dL_rule_13 : decode cL_rule 13 = .ok (.ireturn, 1) := by decide +kernel
theorem dL_rule_14 : decode cL_rule 14 = .ok (.iconst 0, 1) := by decide +kernel
theorem dL_rule_15 : decode cL_rule 15 = .ok (.ireturn, 1) := by decide +kernel
set_option maxRecDepth 20000 in
theorem ggL_setNeeds_X4_setNeeds : GoodIn wsL_setNeeds wsX4_setNeeds := goodIn_ca (goodIn_ca (goodIn_r _ [7, 8, 9, 10, 11, 12, 13, 14, 15, 16, 17, 18, 19, 20, 6, 21, 22, 23, 24, 25, 26, 27, 28, 29, 30, 31, 32, 33, 34, 35, 36, 37, 38, 39, 40, 41, 42, 43, 44, 45, 46, 47, 48, 49, 50, 51, 52] (by decide +kernel) (by decide +kernel)) (goodIn_sub (fun _ h => List.mem_cons_of_mem _ (List.mem_append_left _ (List.mem_append_right _ h))) (by decide +kernel))) (goodIn_sub (fun _ h => List.mem_cons_of_mem _ (List.mem_append_right _ h)) (by decide +kernel))
set_option maxRecDepth 20000 in
theorem gL_setNeeds_X4_setNeeds : GoodIn wsL_setNeeds (wsV RL 27 RX4 yX4_setNeeds wsX4_setNeeds) := goodIn_app (goodIn_of _ (by decide +kernel)) ggL_setNeeds_X4_setNeeds
theorem dL_setNeeds_0 : decode cL_setNeeds 0 = .ok (.aload 4, 2) := by decide +kernel
theorem dL_setNeeds_2 : decode cL_setNeeds 2 = .ok (.iconst 0, 1) := by decide +kernel
theorem dL_setNeeds_3 : decode cL_setNeeds 3 = .ok (.aload_n 0, 1) := by decide +kernel
theorem dL_setNeeds_4 : decode cL_setNeeds 4 = .ok (.iload_n 1, 1) := by decide +kernel
theorem dL_setNeeds_5 : decode cL_setNeeds 5 = .ok (.iload_n 2, 1) := by decide +kernel
theorem dL_setNeeds_6 : decode cL_setNeeds 6 = .ok (.iload_n 3, 1) := by decide +kernel
theorem dL_setNeeds_7 : decode cL_setNeeds 7 = .ok (.invokevirtual 27, 3) := by decide +kernel
theorem dL_setNeeds_10 : decode cL_setNeeds 10 = .ok (.ifCond .eq 7, 3) := by decide +kernel
theorem dL_setNeeds_13 : decode cL_setNeeds 13 = .ok (.lconst 1, 1) := by decide +kernel
theorem dL_setNeeds_14 : decode cL_setNeeds 14 = .ok (.goto 4, 3) := by decide +kernel
theorem dL_setNeeds_17 : decode cL_setNeeds 17 = .ok (.lconst 0, 1) := by decide +kernel
theorem dL_setNeeds_18 : decode cL_setNeeds 18 = .ok (.lastore, 1) := by decide +kernel
theorem dL_setNeeds_19 : decode cL_setNeeds 19 = .ok (.goto 11, 3) := by decide +kernel
theorem dL_setNeeds_22 : decode cL_setNeeds 22 = .ok (.astore 5, 2) := by decide +kernel
theorem dL_setNeeds_24 : decode cL_setNeeds 24 = .ok (.iconst 1, 1) := by decide +kernel
theorem dL_setNeeds_25 : decode cL_setNeeds 25 = .ok (.ireturn, 1) := by decide +kernel
theorem dL_setNeeds_26 : decode cL_setNeeds 26 = .ok (.astore 5, 2) := by decide +kernel
theorem dL_setNeeds_28 : decode cL_setNeeds 28 = .ok (.iconst 2, 1) := by decide +kernel
theorem dL_setNeeds_29 : decode cL_setNeeds 29 = .ok (.ireturn, 1) := by decide +kernel
theorem dL_setNeeds_30 : decode cL_setNeeds 30 = .ok (.iconst 0, 1) := by decide +kernel
theorem dL_setNeeds_31 : decode cL_setNeeds 31 = .ok (.ireturn, 1) := by decide +kernel
set_option maxRecDepth 20000 in
theorem ggL_setSpares_X4_setSpares : GoodIn wsL_setSpares wsX4_setSpares := goodIn_ca (goodIn_ca (goodIn_r _ [7, 8, 9, 10, 11, 12, 13, 14, 15, 16, 17, 18, 19, 20, 6, 21, 22, 23, 24, 25, 26, 27, 28, 29, 30, 31, 32, 33, 34, 35, 36, 37, 38, 39, 40, 41, 42, 43, 44, 45, 46, 47, 48, 49, 50, 51, 52] (by decide +kernel) (by decide +kernel)) (goodIn_sub (fun _ h => List.mem_cons_of_mem _ (List.mem_append_left _ (List.mem_append_right _ h))) (by decide +kernel))) (goodIn_sub (fun _ h => List.mem_cons_of_mem _ (List.mem_append_right _ h)) (by decide +kernel))
set_option maxRecDepth 20000 in
theorem gL_setSpares_X4_setSpares : GoodIn wsL_setSpares (wsV RL 31 RX4 yX4_setSpares wsX4_setSpares) := goodIn_app (goodIn_of _ (by decide +kernel)) ggL_setSpares_X4_setSpares
theorem dL_setSpares_0 : decode cL_setSpares 0 = .ok (.aload 4, 2) := by decide +kernel
theorem dL_setSpares_2 : decode cL_setSpares 2 = .ok (.iconst 0, 1) := by decide +kernel
theorem dL_setSpares_3 : decode cL_setSpares 3 = .ok (.aload_n 0, 1) := by decide +kernel
theorem dL_setSpares_4 : decode cL_setSpares 4 = .ok (.iload_n 1, 1) := by decide +kernel
theorem dL_setSpares_5 : decode cL_setSpares 5 = .ok (.iload_n 2, 1) := by decide +kernel
theorem dL_setSpares_6 : decode cL_setSpares 6 = .ok (.iload_n 3, 1) := by decide +kernel
theorem dL_setSpares_7 : decode cL_setSpares 7 = .ok (.invokevirtual 31, 3) := by decide +kernel
theorem dL_setSpares_10 : decode cL_setSpares 10 = .ok (.ifCond .eq 7, 3) := by decide +kernel
theorem dL_setSpares_13 : decode cL_setSpares 13 = .ok (.lconst 1, 1) := by decide +kernel
theorem dL_setSpares_14 : decode cL_setSpares 14 = .ok (.goto 4, 3) := by decide +kernel
theorem dL_setSpares_17 : decode cL_setSpares 17 = .ok (.lconst 0, 1) := by decide +kernel
theorem dL_setSpares_18 : decode cL_setSpares 18 = .ok (.lastore, 1) := by decide +kernel
theorem dL_setSpares_19 : decode cL_setSpares 19 = .ok (.goto 11, 3) := by decide +kernel
theorem dL_setSpares_22 : decode cL_setSpares 22 = .ok (.astore 5, 2) := by decide +kernel
theorem dL_setSpares_24 : decode cL_setSpares 24 = .ok (.iconst 1, 1) := by decide +kernel
theorem dL_setSpares_25 : decode cL_setSpares 25 = .ok (.ireturn, 1) := by decide +kernel
theorem dL_setSpares_26 : decode cL_setSpares 26 = .ok (.astore 5, 2) := by decide +kernel
theorem dL_setSpares_28 : decode cL_setSpares 28 = .ok (.iconst 2, 1) := by decide +kernel
theorem dL_setSpares_29 : decode cL_setSpares 29 = .ok (.ireturn, 1) := by decide +kernel
theorem dL_setSpares_30 : decode cL_setSpares 30 = .ok (.iconst 0, 1) := by decide +kernel
theorem dL_setSpares_31 : decode cL_setSpares 31 = .ok (.ireturn, 1) := by decide +kernel
set_option maxRecDepth 20000 in
theorem ggL_told_X4_told : GoodIn wsL_told wsX4_told := goodIn_ca (goodIn_r _ [6, 7, 8, 9, 10, 11, 12, 13, 14, 15, 16, 17, 18, 5, 19, 20, 21, 22, 23, 24, 25, 26, 27, 28, 29, 30, 31, 32, 33, 34, 35, 36, 37, 38, 39, 40, 41, 42, 43, 44, 45, 46, 47, 48, 49, 50, 51, 52, 53, 54, 55, 56, 57, 58, 59, 60, 61, 62, 63, 64, 65, 66] (by decide +kernel) (by decide +kernel)) (goodIn_sub (fun _ h => List.mem_cons_of_mem _ (List.mem_append_right _ h)) (by decide +kernel))
set_option maxRecDepth 20000 in
theorem gL_told_X4_told : GoodIn wsL_told (wsV RL 34 RX4 yX4_told wsX4_told) := goodIn_app (goodIn_of _ (by decide +kernel)) ggL_told_X4_told
theorem dL_told_0 : decode cL_told 0 = .ok (.aload_n 3, 1) := by decide +kernel
theorem dL_told_1 : decode cL_told 1 = .ok (.iconst 0, 1) := by decide +kernel
theorem dL_told_2 : decode cL_told 2 = .ok (.aload_n 0, 1) := by decide +kernel
theorem dL_told_3 : decode cL_told 3 = .ok (.iload_n 1, 1) := by decide +kernel
theorem dL_told_4 : decode cL_told 4 = .ok (.iload_n 2, 1) := by decide +kernel
theorem dL_told_5 : decode cL_told 5 = .ok (.invokevirtual 34, 3) := by decide +kernel
theorem dL_told_8 : decode cL_told 8 = .ok (.i2l, 1) := by decide +kernel
theorem dL_told_9 : decode cL_told 9 = .ok (.lastore, 1) := by decide +kernel
theorem dL_told_10 : decode cL_told 10 = .ok (.goto 7, 3) := by decide +kernel
theorem dL_told_13 : decode cL_told 13 = .ok (.astore 4, 2) := by decide +kernel
theorem dL_told_15 : decode cL_told 15 = .ok (.iconst 1, 1) := by decide +kernel
theorem dL_told_16 : decode cL_told 16 = .ok (.ireturn, 1) := by decide +kernel
theorem dL_told_17 : decode cL_told 17 = .ok (.iconst 0, 1) := by decide +kernel
theorem dL_told_18 : decode cL_told 18 = .ok (.ireturn, 1) := by decide +kernel
set_option maxRecDepth 20000 in
theorem ggL_spoils_X4_spoils : GoodIn wsL_spoils wsX4_spoils := goodIn_ca (goodIn_r _ [6, 7, 8, 9, 10, 11, 12, 13, 14, 15, 16, 17, 18, 5, 19, 20, 21, 22, 23, 24, 25, 26, 27, 28, 29, 30, 31, 32, 33, 34, 35, 36, 37, 38, 39, 40, 41, 42, 43, 44, 45, 46, 47, 48, 49] (by decide +kernel) (by decide +kernel)) (goodIn_sub (fun _ h => List.mem_cons_of_mem _ (List.mem_append_right _ h)) (by decide +kernel))
set_option maxRecDepth 20000 in
theorem gL_spoils_X4_spoils : GoodIn wsL_spoils (wsV RL 38 RX4 yX4_spoils wsX4_spoils) := goodIn_app (goodIn_of _ (by decide +kernel)) ggL_spoils_X4_spoils
theorem dL_spoils_0 : decode cL_spoils 0 = .ok (.aload_n 2, 1) := by decide +kernel
theorem dL_spoils_1 : decode cL_spoils 1 = .ok (.iconst 0, 1) := by decide +kernel
theorem dL_spoils_2 : decode cL_spoils 2 = .ok (.aload_n 0, 1) := by decide +kernel
theorem dL_spoils_3 : decode cL_spoils 3 = .ok (.iload_n 1, 1) := by decide +kernel
theorem dL_spoils_4 : decode cL_spoils 4 = .ok (.invokevirtual 38, 3) := by decide +kernel
theorem dL_spoils_7 : decode cL_spoils 7 = .ok (.ifCond .eq 7, 3) := by decide +kernel
theorem dL_spoils_10 : decode cL_spoils 10 = .ok (.lconst 1, 1) := by decide +kernel
theorem dL_spoils_11 : decode cL_spoils 11 = .ok (.goto 4, 3) := by decide +kernel
theorem dL_spoils_14 : decode cL_spoils 14 = .ok (.lconst 0, 1) := by decide +kernel
theorem dL_spoils_15 : decode cL_spoils 15 = .ok (.lastore, 1) := by decide +kernel
theorem dL_spoils_16 : decode cL_spoils 16 = .ok (.goto 6, 3) := by decide +kernel
theorem dL_spoils_19 : decode cL_spoils 19 = .ok (.astore_n 3, 1) := by decide +kernel
theorem dL_spoils_20 : decode cL_spoils 20 = .ok (.iconst 1, 1) := by decide +kernel
theorem dL_spoils_21 : decode cL_spoils 21 = .ok (.ireturn, 1) := by decide +kernel
theorem dL_spoils_22 : decode cL_spoils 22 = .ok (.iconst 0, 1) := by decide +kernel
theorem dL_spoils_23 : decode cL_spoils 23 = .ok (.ireturn, 1) := by decide +kernel
set_option maxRecDepth 20000 in
theorem ggL_kept_X4_kept : GoodIn wsL_kept wsX4_kept := goodIn_ca (goodIn_r _ [6, 7, 8, 9, 10, 11, 12, 13, 14, 15, 16, 17, 18, 19, 20, 21, 22, 23, 24, 25, 26, 27, 28, 29, 30, 31, 32, 33, 34, 35, 36, 37, 38, 39] (by decide +kernel) (by decide +kernel)) (goodIn_sub (fun _ h => List.mem_cons_of_mem _ (List.mem_append_right _ h)) (by decide +kernel))
set_option maxRecDepth 20000 in
theorem gL_kept_X4_kept : GoodIn wsL_kept (wsV RL 44 RX4 yX4_kept wsX4_kept) := goodIn_app (goodIn_of _ (by decide +kernel)) ggL_kept_X4_kept
theorem dL_kept_0 : decode cL_kept 0 = .ok (.aload_n 2, 1) := by decide +kernel
theorem dL_kept_1 : decode cL_kept 1 = .ok (.iconst 0, 1) := by decide +kernel
theorem dL_kept_2 : decode cL_kept 2 = .ok (.aload_n 0, 1) := by decide +kernel
theorem dL_kept_3 : decode cL_kept 3 = .ok (.iload_n 1, 1) := by decide +kernel
theorem dL_kept_4 : decode cL_kept 4 = .ok (.invokevirtual 44, 3) := by decide +kernel
theorem dL_kept_7 : decode cL_kept 7 = .ok (.i2l, 1) := by decide +kernel
theorem dL_kept_8 : decode cL_kept 8 = .ok (.lastore, 1) := by decide +kernel
theorem dL_kept_9 : decode cL_kept 9 = .ok (.goto 6, 3) := by decide +kernel
theorem dL_kept_12 : decode cL_kept 12 = .ok (.astore_n 3, 1) := by decide +kernel
theorem dL_kept_13 : decode cL_kept 13 = .ok (.iconst 1, 1) := by decide +kernel
theorem dL_kept_14 : decode cL_kept 14 = .ok (.ireturn, 1) := by decide +kernel
theorem dL_kept_15 : decode cL_kept 15 = .ok (.iconst 0, 1) := by decide +kernel
theorem dL_kept_16 : decode cL_kept 16 = .ok (.ireturn, 1) := by decide +kernel
set_option maxRecDepth 20000 in
theorem ggL_step_X4_step : GoodIn wsL_step wsX4_step := goodIn_ca (goodIn_r _ [6, 7, 8, 9, 10, 11, 12, 13, 14, 15, 16, 17, 18, 19, 20, 21, 22, 23, 24, 25, 26, 27, 28, 29, 30, 31, 32, 33] (by decide +kernel) (by decide +kernel)) (goodIn_sub (fun _ h => List.mem_cons_of_mem _ (List.mem_append_right _ h)) (by decide +kernel))
set_option maxRecDepth 20000 in
theorem gL_step_X4_step : GoodIn wsL_step (wsV RL 47 RX4 yX4_step wsX4_step) := goodIn_app (goodIn_of _ (by decide +kernel)) ggL_step_X4_step
theorem dL_step_0 : decode cL_step 0 = .ok (.aload_n 3, 1) := by decide +kernel
theorem dL_step_1 : decode cL_step 1 = .ok (.iconst 0, 1) := by decide +kernel
theorem dL_step_2 : decode cL_step 2 = .ok (.aload_n 0, 1) := by decide +kernel
theorem dL_step_3 : decode cL_step 3 = .ok (.iload_n 1, 1) := by decide +kernel
theorem dL_step_4 : decode cL_step 4 = .ok (.iload_n 2, 1) := by decide +kernel
theorem dL_step_5 : decode cL_step 5 = .ok (.invokevirtual 47, 3) := by decide +kernel
theorem dL_step_8 : decode cL_step 8 = .ok (.i2l, 1) := by decide +kernel
theorem dL_step_9 : decode cL_step 9 = .ok (.lastore, 1) := by decide +kernel
theorem dL_step_10 : decode cL_step 10 = .ok (.goto 7, 3) := by decide +kernel
theorem dL_step_13 : decode cL_step 13 = .ok (.astore 4, 2) := by decide +kernel
theorem dL_step_15 : decode cL_step 15 = .ok (.iconst 1, 1) := by decide +kernel
theorem dL_step_16 : decode cL_step 16 = .ok (.ireturn, 1) := by decide +kernel
theorem dL_step_17 : decode cL_step 17 = .ok (.iconst 0, 1) := by decide +kernel
theorem dL_step_18 : decode cL_step 18 = .ok (.ireturn, 1) := by decide +kernel
set_option maxRecDepth 20000 in
theorem ggL_count_X4_count : GoodIn wsL_count wsX4_count := goodIn_ca (goodIn_r _ [6, 7, 8, 9, 10, 11, 5, 12, 13, 14, 15, 16, 17, 18, 19, 20, 21, 22, 23, 24, 25, 26, 27, 28, 29, 30, 31, 32, 33, 34, 35, 36, 37, 38, 39, 40, 41, 42, 43, 44, 45, 46, 47, 48, 49, 50, 51, 52, 53, 54, 55, 56, 57, 58, 59, 60, 61, 62, 63, 64, 65, 66, 67, 68, 69, 70, 71, 72, 73, 74, 75, 76, 77, 78, 79, 80, 81, 82, 83, 84, 85, 86, 87, 88] (by decide +kernel) (by decide +kernel)) (goodIn_sub (fun _ h => List.mem_cons_of_mem _ (List.mem_append_right _ h)) (by decide +kernel))
set_option maxRecDepth 20000 in
theorem gL_count_X4_count : GoodIn wsL_count (wsV RL 50 RX4 yX4_count wsX4_count) := goodIn_app (goodIn_of _ (by decide +kernel)) ggL_count_X4_count
theorem dL_count_0 : decode cL_count 0 = .ok (.aload_n 2, 1) := by decide +kernel
theorem dL_count_1 : decode cL_count 1 = .ok (.iconst 0, 1) := by decide +kernel
theorem dL_count_2 : decode cL_count 2 = .ok (.aload_n 0, 1) := by decide +kernel
theorem dL_count_3 : decode cL_count 3 = .ok (.iload_n 1, 1) := by decide +kernel
theorem dL_count_4 : decode cL_count 4 = .ok (.invokevirtual 50, 3) := by decide +kernel
theorem dL_count_7 : decode cL_count 7 = .ok (.i2l, 1) := by decide +kernel
theorem dL_count_8 : decode cL_count 8 = .ok (.lastore, 1) := by decide +kernel
theorem dL_count_9 : decode cL_count 9 = .ok (.goto 6, 3) := by decide +kernel
theorem dL_count_12 : decode cL_count 12 = .ok (.astore_n 3, 1) := by decide +kernel
theorem dL_count_13 : decode cL_count 13 = .ok (.iconst 1, 1) := by decide +kernel
theorem dL_count_14 : decode cL_count 14 = .ok (.ireturn, 1) := by decide +kernel
theorem dL_count_15 : decode cL_count 15 = .ok (.iconst 0, 1) := by decide +kernel
theorem dL_count_16 : decode cL_count 16 = .ok (.ireturn, 1) := by decide +kernel
set_option maxRecDepth 20000 in
theorem ggL_would_X4_would : GoodIn wsL_would wsX4_would := goodIn_ca (goodIn_r _ [6, 7, 8, 9, 10, 11, 12, 13, 14, 15, 16, 17, 18, 19, 20, 21, 22, 23, 24, 25, 26, 27, 28, 29, 30, 31, 32, 33, 34, 35, 36, 37, 38, 39, 40, 41, 42, 43, 44, 45, 46, 47, 48, 49, 50, 51, 52, 53, 54, 55, 56, 57, 58, 59, 60, 61, 62, 63, 64, 65, 66, 67, 68, 69, 70, 71, 72, 73, 74, 75, 76, 77, 78, 79, 80, 81, 82, 83, 84, 85, 86, 87, 88, 89, 90, 91, 92, 93, 94, 95, 96, 97, 98, 99, 100, 101, 102, 103, 104, 105, 106, 107, 108, 109, 110, 111, 112, 113, 114, 115, 116, 117, 118, 119, 120, 121, 122, 123, 124, 125, 126, 127, 128, 129, 130, 131, 132, 133, 134, 135, 136, 137, 138, 139, 140, 141, 142, 143, 144, 145, 146, 147, 148, 149] (by decide +kernel) (by decide +kernel)) (goodIn_sub (fun _ h => List.mem_cons_of_mem _ (List.mem_append_right _ h)) (by decide +kernel))
set_option maxRecDepth 20000 in
theorem gL_would_X4_would : GoodIn wsL_would (wsV RL 53 RX4 yX4_would wsX4_would) := goodIn_app (goodIn_of _ (by decide +kernel)) ggL_would_X4_would
theorem dL_would_0 : decode cL_would 0 = .ok (.aload_n 2, 1) := by decide +kernel
theorem dL_would_1 : decode cL_would 1 = .ok (.iconst 0, 1) := by decide +kernel
theorem dL_would_2 : decode cL_would 2 = .ok (.aload_n 0, 1) := by decide +kernel
theorem dL_would_3 : decode cL_would 3 = .ok (.iload_n 1, 1) := by decide +kernel
theorem dL_would_4 : decode cL_would 4 = .ok (.invokevirtual 53, 3) := by decide +kernel
theorem dL_would_7 : decode cL_would 7 = .ok (.i2l, 1) := by decide +kernel
theorem dL_would_8 : decode cL_would 8 = .ok (.lastore, 1) := by decide +kernel
theorem dL_would_9 : decode cL_would 9 = .ok (.goto 6, 3) := by decide +kernel
theorem dL_would_12 : decode cL_would 12 = .ok (.astore_n 3, 1) := by decide +kernel
theorem dL_would_13 : decode cL_would 13 = .ok (.iconst 1, 1) := by decide +kernel
theorem dL_would_14 : decode cL_would 14 = .ok (.ireturn, 1) := by decide +kernel
theorem dL_would_15 : decode cL_would 15 = .ok (.iconst 0, 1) := by decide +kernel
theorem dL_would_16 : decode cL_would 16 = .ok (.ireturn, 1) := by decide +kernel
set_option maxRecDepth 20000 in
theorem ggL_isTight_X4_isTight : GoodIn wsL_isTight wsX4_isTight := goodIn_ca (goodIn_r _ [6, 7, 8, 9, 10, 11, 12, 13, 14, 15, 16, 17, 18, 5, 19, 20, 21, 22, 23, 24, 25, 26, 27, 28, 29, 30, 31, 32, 33, 34, 35, 36, 37, 38, 39, 40, 41, 42, 43, 44, 45, 46, 47, 48, 49, 50, 51, 52, 53, 54, 55] (by decide +kernel) (by decide +kernel)) (goodIn_sub (fun _ h => List.mem_cons_of_mem _ (List.mem_append_right _ h)) (by decide +kernel))
set_option maxRecDepth 20000 in
theorem gL_isTight_X4_isTight : GoodIn wsL_isTight (wsV RL 56 RX4 yX4_isTight wsX4_isTight) := goodIn_app (goodIn_of _ (by decide +kernel)) ggL_isTight_X4_isTight
theorem dL_isTight_0 : decode cL_isTight 0 = .ok (.aload_n 2, 1) := by decide +kernel
theorem dL_isTight_1 : decode cL_isTight 1 = .ok (.iconst 0, 1) := by decide +kernel
theorem dL_isTight_2 : decode cL_isTight 2 = .ok (.aload_n 0, 1) := by decide +kernel
theorem dL_isTight_3 : decode cL_isTight 3 = .ok (.iload_n 1, 1) := by decide +kernel
theorem dL_isTight_4 : decode cL_isTight 4 = .ok (.invokevirtual 56, 3) := by decide +kernel
theorem dL_isTight_7 : decode cL_isTight 7 = .ok (.ifCond .eq 7, 3) := by decide +kernel
theorem dL_isTight_10 : decode cL_isTight 10 = .ok (.lconst 1, 1) := by decide +kernel
theorem dL_isTight_11 : decode cL_isTight 11 = .ok (.goto 4, 3) := by decide +kernel
theorem dL_isTight_14 : decode cL_isTight 14 = .ok (.lconst 0, 1) := by decide +kernel
theorem dL_isTight_15 : decode cL_isTight 15 = .ok (.lastore, 1) := by decide +kernel
theorem dL_isTight_16 : decode cL_isTight 16 = .ok (.goto 6, 3) := by decide +kernel
theorem dL_isTight_19 : decode cL_isTight 19 = .ok (.astore_n 3, 1) := by decide +kernel
theorem dL_isTight_20 : decode cL_isTight 20 = .ok (.iconst 1, 1) := by decide +kernel
theorem dL_isTight_21 : decode cL_isTight 21 = .ok (.ireturn, 1) := by decide +kernel
theorem dL_isTight_22 : decode cL_isTight 22 = .ok (.iconst 0, 1) := by decide +kernel
theorem dL_isTight_23 : decode cL_isTight 23 = .ok (.ireturn, 1) := by decide +kernel
set_option maxRecDepth 20000 in
theorem ggL_law_X4_init : GoodIn wsL_law wsX4_init := goodIn_r _ [9, 10, 11, 12, 13, 14, 15, 16, 17, 18, 19, 20, 21, 22, 23, 24, 25, 26, 27, 28, 29, 30, 31, 32, 33, 34, 35, 36, 37, 38, 39, 40, 41, 42, 43, 6, 44, 45, 46, 47, 48, 49, 50, 51, 631, 632, 607, 608, 609, 610, 611, 612, 613, 633, 634, 635, 636, 637, 638, 639, 640, 641, 642, 643, 644, 645, 646] (by decide +kernel) (by decide +kernel)
set_option maxRecDepth 20000 in
theorem gL_law_X4_init : GoodIn wsL_law (wsX4_init) := ggL_law_X4_init
set_option maxRecDepth 20000 in
theorem ggL_law_X5_init : GoodIn wsL_law wsX5_init := goodIn_r _ [54, 55, 11, 12, 33, 56, 57, 58, 59, 60, 61, 614, 615, 616, 617, 618, 619, 620, 621, 622, 623, 624, 625, 626, 627, 628, 629, 630] (by decide +kernel) (by decide +kernel)
set_option maxRecDepth 20000 in
theorem gL_law_X5_init : GoodIn wsL_law (wsX5_init) := ggL_law_X5_init
set_option maxRecDepth 20000 in
theorem ggL_law_L_add : GoodIn wsL_law wsL_add := goodIn_ca (goodIn_ca (goodIn_r _ [65, 66, 67, 68, 69, 70, 2, 71, 72, 73, 74, 75, 16, 76, 77, 78, 79, 80, 81, 15, 82, 83, 34, 84, 85, 86, 87, 88, 89, 90, 91, 92, 607, 608, 609, 610, 611, 612, 613, 631, 632] (by decide +kernel) (by decide +kernel)) (goodIn_sub (fun _ h => List.mem_append_left _ (List.mem_append_left _ (List.mem_append_right _ h))) (by decide +kernel))) (goodIn_sub (fun _ h => List.mem_append_left _ (List.mem_append_right _ h)) (by decide +kernel))
set_option maxRecDepth 20000 in
theorem gL_law_L_add : GoodIn wsL_law (va_wsS RL 63 yL_add wsL_add) := goodIn_app (goodIn_of _ (by decide +kernel)) ggL_law_L_add
set_option maxRecDepth 20000 in
theorem ggL_law_X5_add : GoodIn wsL_law wsX5_add := goodIn_r _ [96, 97, 98, 56, 99, 100, 5, 101, 102, 103, 104, 105, 614, 615, 616, 617, 618, 619, 620, 621, 622, 623, 624, 625, 626, 627, 628, 629, 630] (by decide +kernel) (by decide +kernel)
set_option maxRecDepth 20000 in
theorem gL_law_X5_add : GoodIn wsL_law (wsV RL 68 RX5 yX5_add wsX5_add) := goodIn_app (goodIn_of _ (by decide +kernel)) ggL_law_X5_add
set_option maxRecDepth 20000 in
theorem ggL_law_X5_thrown : GoodIn wsL_law wsX5_thrown := goodIn_r _ [109, 97, 614, 615, 616, 617, 618, 619, 620, 621, 622, 623, 624, 625, 626, 627, 628, 629, 630] (by decide +kernel) (by decide +kernel)
set_option maxRecDepth 20000 in
theorem gL_law_X5_thrown : GoodIn wsL_law (wsV RL 69 RX5 yX5_thrown wsX5_thrown) := goodIn_app (goodIn_of _ (by decide +kernel)) ggL_law_X5_thrown
set_option maxRecDepth 20000 in
theorem ggL_law_L_drop : GoodIn wsL_law wsL_drop := goodIn_ca (goodIn_r _ [112, 66, 113, 114, 115, 2, 116, 72, 73, 16, 117, 118, 119, 15, 120, 83, 121, 122, 123, 124, 34, 125, 126, 127, 128, 129, 607, 608, 609, 610, 611, 612, 613, 631, 632] (by decide +kernel) (by decide +kernel)) (goodIn_sub (fun _ h => List.mem_append_left _ (List.mem_append_left _ (List.mem_append_right _ h))) (by decide +kernel))
set_option maxRecDepth 20000 in
theorem gL_law_L_drop : GoodIn wsL_law (va_wsS RL 72 yL_drop wsL_drop) := goodIn_app (goodIn_of _ (by decide +kernel)) ggL_law_L_drop
set_option maxRecDepth 20000 in
theorem ggL_law_X5_drop : GoodIn wsL_law wsX5_drop := goodIn_r _ [133, 97, 134, 135, 136, 5, 137, 98, 99, 100, 101, 138, 139, 140, 141, 56, 102, 103, 104, 105, 614, 615, 616, 617, 618, 619, 620, 621, 622, 623, 624, 625, 626, 627, 628, 629, 630] (by decide +kernel) (by decide +kernel)
set_option maxRecDepth 20000 in
theorem gL_law_X5_drop : GoodIn wsL_law (wsV RL 74 RX5 yX5_drop wsX5_drop) := goodIn_app (goodIn_of _ (by decide +kernel)) ggL_law_X5_drop
set_option maxRecDepth 20000 in
theorem ggL_law_L_kind : GoodIn wsL_law wsL_kind := goodIn_ca (goodIn_r _ [144, 66, 145, 146, 147, 2, 148, 72, 73, 16, 117, 118, 119, 15, 120, 83, 121, 122, 123, 124, 34, 125, 607, 608, 609, 610, 611, 612, 613, 631, 632] (by decide +kernel) (by decide +kernel)) (goodIn_sub (fun _ h => List.mem_append_left _ (List.mem_append_left _ (List.mem_append_right _ h))) (by decide +kernel))
set_option maxRecDepth 20000 in
theorem gL_law_L_kind : GoodIn wsL_law (va_wsS RL 75 yL_kind wsL_kind) := goodIn_app (goodIn_of _ (by decide +kernel)) ggL_law_L_kind
set_option maxRecDepth 20000 in
theorem ggL_law_X5_kind : GoodIn wsL_law wsX5_kind := goodIn_r _ [152, 97, 56, 134, 135, 136, 5, 137, 98, 99, 100, 101, 102, 103, 104, 105, 614, 615, 616, 617, 618, 619, 620, 621, 622, 623, 624, 625, 626, 627, 628, 629, 630] (by decide +kernel) (by decide +kernel)
set_option maxRecDepth 20000 in
theorem gL_law_X5_kind : GoodIn wsL_law (wsV RL 77 RX5 yX5_kind wsX5_kind) := goodIn_app (goodIn_of _ (by decide +kernel)) ggL_law_X5_kind
set_option maxRecDepth 20000 in
theorem ggL_law_L_rule : GoodIn wsL_law wsL_rule := goodIn_ca (goodIn_r _ [155, 67, 156, 157, 158, 2, 159, 74, 75, 20, 160, 161, 162, 19, 163, 164, 165, 166, 167, 168, 169, 170, 171, 172, 173, 607, 608, 609, 610, 611, 612, 613, 633, 634, 635] (by decide +kernel) (by decide +kernel)) (goodIn_sub (fun _ h => List.mem_append_left _ (List.mem_append_right _ h)) (by decide +kernel))
set_option maxRecDepth 20000 in
theorem gL_law_L_rule : GoodIn wsL_law (va_wsS RL 78 yL_rule wsL_rule) := goodIn_app (goodIn_of _ (by decide +kernel)) ggL_law_L_rule
set_option maxRecDepth 20000 in
theorem ggL_law_X5_rule : GoodIn wsL_law wsX5_rule := goodIn_r _ [177, 97, 178, 102, 103, 104, 5, 105, 614, 615, 616, 617, 618, 619, 620, 621, 622, 623, 624, 625, 626, 627, 628, 629, 630] (by decide +kernel) (by decide +kernel)
set_option maxRecDepth 20000 in
theorem gL_law_X5_rule : GoodIn wsL_law (wsV RL 81 RX5 yX5_rule wsX5_rule) := goodIn_app (goodIn_of _ (by decide +kernel)) ggL_law_X5_rule
set_option maxRecDepth 20000 in
theorem ggL_law_L_setNeeds : GoodIn wsL_law wsL_setNeeds := goodIn_ca (goodIn_ca (goodIn_r _ [181, 66, 67, 182, 183, 184, 2, 185, 72, 73, 74, 75, 20, 186, 187, 188, 19, 189, 164, 76, 77, 78, 190, 191, 192, 193, 39, 194, 195, 196, 197, 198, 199, 200, 201, 38, 202, 203, 204, 205, 206, 207, 208, 607, 608, 609, 610, 611, 612, 613, 633, 634, 635] (by decide +kernel) (by decide +kernel)) (goodIn_sub (fun _ h => List.mem_append_left _ (List.mem_append_left _ (List.mem_append_right _ h))) (by decide +kernel))) (goodIn_sub (fun _ h => List.mem_append_left _ (List.mem_append_right _ h)) (by decide +kernel))
set_option maxRecDepth 20000 in
theorem gL_law_L_setNeeds : GoodIn wsL_law (va_wsS RL 82 yL_setNeeds wsL_setNeeds) := goodIn_app (goodIn_of _ (by decide +kernel)) ggL_law_L_setNeeds
set_option maxRecDepth 20000 in
theorem ggL_law_X5_setNeeds : GoodIn wsL_law wsX5_setNeeds := goodIn_r _ [212, 57, 58, 213, 214, 215, 5, 216, 97, 217, 218, 219, 220, 178, 99, 100, 101, 614, 615, 616, 617, 618, 619, 620, 621, 622, 623, 624, 625, 626, 627, 628, 629, 630] (by decide +kernel) (by decide +kernel)
set_option maxRecDepth 20000 in
theorem gL_law_X5_setNeeds : GoodIn wsL_law (wsV RL 85 RX5 yX5_setNeeds wsX5_setNeeds) := goodIn_app (goodIn_of _ (by decide +kernel)) ggL_law_X5_setNeeds
set_option maxRecDepth 20000 in
theorem ggL_law_L_setSpares : GoodIn wsL_law wsL_setSpares := goodIn_ca (goodIn_ca (goodIn_r _ [223, 66, 67, 224, 225, 226, 2, 227, 72, 73, 74, 75, 20, 186, 187, 188, 19, 189, 164, 76, 77, 78, 198, 199, 200, 201, 38, 194, 195, 196, 197, 190, 191, 192, 193, 39, 202, 203, 204, 228, 229, 230, 231, 607, 608, 609, 610, 611, 612, 613, 633, 634, 635] (by decide +kernel) (by decide +kernel)) (goodIn_sub (fun _ h => List.mem_append_left _ (List.mem_append_left _ (List.mem_append_right _ h))) (by decide +kernel))) (goodIn_sub (fun _ h => List.mem_append_left _ (List.mem_append_right _ h)) (by decide +kernel))
set_option maxRecDepth 20000 in
theorem gL_law_L_setSpares : GoodIn wsL_law (va_wsS RL 86 yL_setSpares wsL_setSpares) := goodIn_app (goodIn_of _ (by decide +kernel)) ggL_law_L_setSpares
set_option maxRecDepth 20000 in
theorem ggL_law_X5_setSpares : GoodIn wsL_law wsX5_setSpares := goodIn_r _ [235, 58, 57, 213, 214, 215, 5, 216, 97, 217, 218, 219, 220, 178, 99, 100, 101, 614, 615, 616, 617, 618, 619, 620, 621, 622, 623, 624, 625, 626, 627, 628, 629, 630] (by decide +kernel) (by decide +kernel)
set_option maxRecDepth 20000 in
theorem gL_law_X5_setSpares : GoodIn wsL_law (wsV RL 88 RX5 yX5_setSpares wsX5_setSpares) := goodIn_app (goodIn_of _ (by decide +kernel)) ggL_law_X5_setSpares
set_option maxRecDepth 20000 in
theorem ggL_law_L_told : GoodIn wsL_law wsL_told := goodIn_ca (goodIn_r _ [238, 66, 239, 240, 241, 2, 242, 72, 73, 20, 186, 187, 188, 19, 189, 164, 243, 244, 245, 246, 16, 247, 198, 199, 200, 201, 38, 194, 190, 191, 192, 193, 39, 248, 249, 250, 251, 252, 253, 254, 255, 256, 257, 15, 258, 83, 259, 260, 261, 262, 34, 263, 264, 265, 266, 607, 608, 609, 610, 611, 612, 613, 633, 634, 635, 631, 632] (by decide +kernel) (by decide +kernel)) (goodIn_sub (fun _ h => List.mem_append_left _ (List.mem_append_left _ (List.mem_append_right _ h))) (by decide +kernel))
set_option maxRecDepth 20000 in
theorem gL_law_L_told : GoodIn wsL_law (va_wsS RL 89 yL_told wsL_told) := goodIn_app (goodIn_of _ (by decide +kernel)) ggL_law_L_told
set_option maxRecDepth 20000 in
theorem ggL_law_X5_told : GoodIn wsL_law wsX5_told := goodIn_r _ [270, 97, 217, 218, 219, 5, 220, 178, 99, 100, 101, 271, 272, 273, 274, 57, 58, 275, 276, 277, 249, 250, 251, 252, 253, 254, 278, 279, 280, 281, 98, 282, 283, 284, 285, 56, 286, 287, 288, 289, 102, 103, 104, 105, 614, 615, 616, 617, 618, 619, 620, 621, 622, 623, 624, 625, 626, 627, 628, 629, 630] (by decide +kernel) (by decide +kernel)
set_option maxRecDepth 20000 in
theorem gL_law_X5_told : GoodIn wsL_law (wsV RL 92 RX5 yX5_told wsX5_told) := goodIn_app (goodIn_of _ (by decide +kernel)) ggL_law_X5_told
set_option maxRecDepth 20000 in
theorem ggL_law_L_spoils : GoodIn wsL_law wsL_spoils := goodIn_ca (goodIn_r _ [292, 293, 294, 295, 296, 2, 297, 298, 299, 16, 300, 301, 302, 15, 303, 83, 304, 305, 306, 307, 20, 259, 260, 261, 262, 34, 308, 309, 310, 19, 311, 164, 312, 264, 265, 266, 38, 39, 607, 608, 609, 610, 611, 612, 613, 631, 632, 633, 634, 635] (by decide +kernel) (by decide +kernel)) (goodIn_sub (fun _ h => List.mem_append_right _ h) (by decide +kernel))
set_option maxRecDepth 20000 in
theorem gL_law_L_spoils : GoodIn wsL_law (va_wsS RL 93 yL_spoils wsL_spoils) := goodIn_app (goodIn_of _ (by decide +kernel)) ggL_law_L_spoils
set_option maxRecDepth 20000 in
theorem ggL_law_X5_spoils : GoodIn wsL_law wsX5_spoils := goodIn_r _ [316, 97, 278, 279, 280, 5, 281, 98, 99, 100, 101, 317, 318, 319, 320, 178, 282, 283, 284, 285, 56, 286, 287, 288, 289, 57, 58, 614, 615, 616, 617, 618, 619, 620, 621, 622, 623, 624, 625, 626, 627, 628, 629, 630] (by decide +kernel) (by decide +kernel)
set_option maxRecDepth 20000 in
theorem gL_law_X5_spoils : GoodIn wsL_law (wsV RL 95 RX5 yX5_spoils wsX5_spoils) := goodIn_app (goodIn_of _ (by decide +kernel)) ggL_law_X5_spoils
set_option maxRecDepth 20000 in
theorem ggL_law_X4_shrink : GoodIn wsL_law wsX4_shrink := goodIn_r _ [324, 28, 24, 16, 247, 325, 255, 256, 257, 15, 258, 83, 326, 327, 328, 27, 329, 330, 331, 332, 333, 334, 335, 336, 337, 338, 339, 340, 23, 341, 342, 343, 344, 345, 346, 347, 46, 45, 348, 349, 350, 351, 352, 44, 353, 260, 261, 262, 34, 354, 309, 310, 19, 311, 164, 312, 264, 265, 266, 38, 39, 355, 356, 357, 358, 359, 360, 361, 362, 363, 364, 365, 366, 249, 250, 251, 252, 253, 254, 367, 368, 369, 370, 51, 371, 372, 373, 374, 375, 376, 377, 378, 379, 380, 381, 382, 50, 383, 384, 385, 386, 387, 388, 389, 390, 391, 392, 393, 394, 259, 395, 396, 397, 398, 607, 608, 609, 610, 611, 612, 613, 631, 632, 641, 642, 643, 644, 645, 646, 636, 637, 638, 639, 640, 633, 634, 635] (by decide +kernel) (by decide +kernel)
set_option maxRecDepth 20000 in
theorem gL_law_X4_shrink : GoodIn wsL_law (wsV RL 96 RX4 yX4_shrink wsX4_shrink) := goodIn_app (goodIn_of _ (by decide +kernel)) ggL_law_X4_shrink
set_option maxRecDepth 20000 in
theorem ggL_law_X5_shrink : GoodIn wsL_law wsX5_shrink := goodIn_r _ [402, 97, 403, 275, 276, 404, 405, 406, 407, 60, 61, 408, 409, 410, 411, 412, 413, 414, 415, 5, 416, 417, 364, 361, 365, 278, 279, 280, 281, 98, 418, 419, 420, 421, 59, 317, 318, 319, 320, 178, 282, 283, 284, 285, 56, 286, 287, 288, 289, 57, 58, 277, 249, 250, 251, 252, 253, 254, 422, 423, 424, 425, 426, 427, 428, 429, 430, 431, 432, 433, 434, 435, 614, 615, 616, 617, 618, 619, 620, 621, 622, 623, 624, 625, 626, 627, 628, 629, 630] (by decide +kernel) (by decide +kernel)
set_option maxRecDepth 20000 in
theorem gL_law_X5_shrink : GoodIn wsL_law (wsV RL 99 RX5 yX5_shrink wsX5_shrink) := goodIn_app (goodIn_of _ (by decide +kernel)) ggL_law_X5_shrink
set_option maxRecDepth 20000 in
theorem ggL_law_L_kept : GoodIn wsL_law wsL_kept := goodIn_ca (goodIn_r _ [438, 66, 439, 440, 441, 2, 442, 72, 73, 28, 443, 444, 445, 27, 446, 335, 366, 249, 250, 251, 252, 253, 254, 447, 448, 449, 450, 607, 608, 609, 610, 611, 612, 613, 641, 642, 643, 644, 645, 646] (by decide +kernel) (by decide +kernel)) (goodIn_sub (fun _ h => List.mem_append_left _ (List.mem_append_left _ (List.mem_append_right _ h))) (by decide +kernel))
set_option maxRecDepth 20000 in
theorem gL_law_L_kept : GoodIn wsL_law (va_wsS RL 100 yL_kept wsL_kept) := goodIn_app (goodIn_of _ (by decide +kernel)) ggL_law_L_kept
set_option maxRecDepth 20000 in
theorem ggL_law_X5_kept : GoodIn wsL_law wsX5_kept := goodIn_r _ [454, 97, 455, 456, 457, 5, 458, 403, 277, 249, 250, 251, 252, 253, 254, 99, 100, 101, 459, 460, 461, 462, 429, 430, 431, 463, 464, 465, 466, 102, 103, 104, 105, 614, 615, 616, 617, 618, 619, 620, 621, 622, 623, 624, 625, 626, 627, 628, 629, 630] (by decide +kernel) (by decide +kernel)
set_option maxRecDepth 20000 in
theorem gL_law_X5_kept : GoodIn wsL_law (wsV RL 102 RX5 yX5_kept wsX5_kept) := goodIn_app (goodIn_of _ (by decide +kernel)) ggL_law_X5_kept
set_option maxRecDepth 20000 in
theorem ggL_law_L_step : GoodIn wsL_law wsL_step := goodIn_ca (goodIn_r _ [469, 66, 470, 471, 472, 2, 473, 72, 73, 28, 474, 475, 476, 27, 477, 337, 478, 479, 480, 481, 50, 607, 608, 609, 610, 611, 612, 613, 641, 642, 643, 644, 645, 646] (by decide +kernel) (by decide +kernel)) (goodIn_sub (fun _ h => List.mem_append_left _ (List.mem_append_left _ (List.mem_append_right _ h))) (by decide +kernel))
set_option maxRecDepth 20000 in
theorem gL_law_L_step : GoodIn wsL_law (va_wsS RL 103 yL_step wsL_step) := goodIn_app (goodIn_of _ (by decide +kernel)) ggL_law_L_step
set_option maxRecDepth 20000 in
theorem ggL_law_X5_step : GoodIn wsL_law wsX5_step := goodIn_r _ [485, 97, 407, 61, 99, 100, 5, 101, 102, 103, 104, 105, 614, 615, 616, 617, 618, 619, 620, 621, 622, 623, 624, 625, 626, 627, 628, 629, 630] (by decide +kernel) (by decide +kernel)
set_option maxRecDepth 20000 in
theorem gL_law_X5_step : GoodIn wsL_law (wsV RL 105 RX5 yX5_step wsX5_step) := goodIn_app (goodIn_of _ (by decide +kernel)) ggL_law_X5_step
set_option maxRecDepth 20000 in
theorem ggL_law_L_count : GoodIn wsL_law wsL_count := goodIn_ca (goodIn_r _ [488, 66, 489, 490, 491, 2, 492, 72, 73, 493, 494, 495, 496, 16, 20, 28, 325, 89, 90, 91, 15, 92, 83, 170, 171, 172, 19, 173, 164, 255, 256, 257, 258, 259, 260, 261, 262, 34, 308, 309, 310, 311, 312, 264, 265, 266, 38, 39, 443, 444, 445, 27, 446, 335, 366, 249, 250, 251, 252, 253, 254, 474, 475, 476, 477, 337, 395, 396, 397, 398, 330, 607, 608, 609, 610, 611, 612, 613, 631, 632, 633, 634, 635, 641, 642, 643, 644, 645, 646] (by decide +kernel) (by decide +kernel)) (goodIn_sub (fun _ h => List.mem_append_left _ (List.mem_append_left _ (List.mem_append_right _ h))) (by decide +kernel))
set_option maxRecDepth 20000 in
theorem gL_law_L_count : GoodIn wsL_law (va_wsS RL 106 yL_count wsL_count) := goodIn_app (goodIn_of _ (by decide +kernel)) ggL_law_L_count
set_option maxRecDepth 20000 in
theorem ggL_law_X5_count : GoodIn wsL_law wsX5_count := goodIn_r _ [500, 97, 99, 100, 5, 101, 501, 502, 503, 504, 98, 178, 407, 405, 412, 505, 506, 507, 508, 278, 279, 280, 281, 282, 283, 284, 285, 56, 286, 287, 288, 289, 57, 58, 455, 456, 457, 458, 403, 277, 249, 250, 251, 252, 253, 254, 102, 103, 104, 105, 614, 615, 616, 617, 618, 619, 620, 621, 622, 623, 624, 625, 626, 627, 628, 629, 630] (by decide +kernel) (by decide +kernel)
set_option maxRecDepth 20000 in
theorem gL_law_X5_count : GoodIn wsL_law (wsV RL 108 RX5 yX5_count wsX5_count) := goodIn_app (goodIn_of _ (by decide +kernel)) ggL_law_X5_count
set_option maxRecDepth 20000 in
theorem ggL_law_L_would : GoodIn wsL_law wsL_would := goodIn_ca (goodIn_r _ [511, 66, 512, 513, 514, 2, 515, 72, 73, 29, 24, 16, 255, 256, 257, 15, 258, 83, 326, 327, 328, 27, 329, 330, 331, 332, 333, 334, 335, 336, 337, 338, 339, 340, 23, 341, 342, 343, 344, 345, 346, 347, 46, 45, 348, 349, 350, 351, 352, 44, 353, 260, 261, 262, 34, 354, 309, 310, 19, 311, 164, 312, 264, 265, 266, 38, 39, 355, 356, 357, 358, 359, 360, 361, 362, 363, 364, 365, 366, 249, 250, 251, 252, 253, 254, 367, 368, 369, 370, 51, 371, 372, 373, 374, 375, 376, 377, 378, 379, 380, 381, 382, 50, 383, 384, 385, 386, 387, 388, 389, 390, 516, 517, 518, 519, 391, 392, 393, 394, 474, 475, 476, 477, 395, 396, 397, 398, 607, 608, 609, 610, 611, 612, 613, 631, 632, 641, 642, 643, 644, 645, 646, 636, 637, 638, 639, 640, 633, 634, 635] (by decide +kernel) (by decide +kernel)) (goodIn_sub (fun _ h => List.mem_append_left _ (List.mem_append_left _ (List.mem_append_right _ h))) (by decide +kernel))
set_option maxRecDepth 20000 in
theorem gL_law_L_would : GoodIn wsL_law (va_wsS RL 109 yL_would wsL_would) := goodIn_app (goodIn_of _ (by decide +kernel)) ggL_law_L_would
set_option maxRecDepth 20000 in
theorem ggL_law_X5_would : GoodIn wsL_law wsX5_would := goodIn_r _ [523, 97, 99, 100, 5, 101, 524, 525, 526, 527, 406, 404, 413, 414, 415, 416, 417, 364, 361, 365, 278, 279, 280, 281, 98, 418, 419, 420, 421, 59, 317, 318, 319, 320, 178, 282, 283, 284, 285, 56, 286, 287, 288, 289, 57, 58, 277, 249, 250, 251, 252, 253, 254, 422, 423, 424, 425, 426, 427, 428, 429, 430, 431, 432, 433, 434, 435, 60, 528, 529, 530, 531, 102, 103, 104, 105, 614, 615, 616, 617, 618, 619, 620, 621, 622, 623, 624, 625, 626, 627, 628, 629, 630] (by decide +kernel) (by decide +kernel)
set_option maxRecDepth 20000 in
theorem gL_law_X5_would : GoodIn wsL_law (wsV RL 111 RX5 yX5_would wsX5_would) := goodIn_app (goodIn_of _ (by decide +kernel)) ggL_law_X5_would
set_option maxRecDepth 20000 in
theorem ggL_law_X4_least : GoodIn wsL_law wsX4_least := goodIn_r _ [535, 20, 16, 255, 256, 257, 15, 258, 83, 259, 260, 261, 262, 34, 536, 537, 538, 19, 539, 164, 38, 540, 249, 250, 251, 252, 253, 254, 607, 608, 609, 610, 611, 612, 613, 631, 632, 633, 634, 635] (by decide +kernel) (by decide +kernel)
set_option maxRecDepth 20000 in
theorem gL_law_X4_least : GoodIn wsL_law (wsV RL 112 RX4 yX4_least wsX4_least) := goodIn_app (goodIn_of _ (by decide +kernel)) ggL_law_X4_least
set_option maxRecDepth 20000 in
theorem ggL_law_X5_least : GoodIn wsL_law wsX5_least := goodIn_r _ [544, 97, 545, 546, 547, 5, 548, 178, 57, 278, 279, 280, 281, 98, 282, 283, 284, 285, 56, 277, 249, 250, 251, 252, 253, 254, 614, 615, 616, 617, 618, 619, 620, 621, 622, 623, 624, 625, 626, 627, 628, 629, 630] (by decide +kernel) (by decide +kernel)
set_option maxRecDepth 20000 in
theorem gL_law_X5_least : GoodIn wsL_law (wsV RL 115 RX5 yX5_least wsX5_least) := goodIn_app (goodIn_of _ (by decide +kernel)) ggL_law_X5_least
set_option maxRecDepth 20000 in
theorem ggL_law_L_isTight : GoodIn wsL_law wsL_isTight := goodIn_ca (goodIn_r _ [551, 293, 552, 553, 554, 2, 555, 298, 299, 16, 300, 301, 302, 15, 303, 83, 304, 305, 306, 307, 20, 259, 260, 261, 262, 34, 308, 309, 310, 19, 311, 164, 312, 264, 265, 266, 38, 39, 195, 196, 197, 202, 203, 204, 607, 608, 609, 610, 611, 612, 613, 631, 632, 633, 634, 635] (by decide +kernel) (by decide +kernel)) (goodIn_sub (fun _ h => List.mem_append_right _ h) (by decide +kernel))
set_option maxRecDepth 20000 in
theorem gL_law_L_isTight : GoodIn wsL_law (va_wsS RL 116 yL_isTight wsL_isTight) := goodIn_app (goodIn_of _ (by decide +kernel)) ggL_law_L_isTight
set_option maxRecDepth 20000 in
theorem ggL_law_X5_isTight : GoodIn wsL_law wsX5_isTight := goodIn_r _ [559, 97, 278, 279, 280, 5, 281, 98, 99, 100, 101, 560, 561, 562, 563, 317, 318, 319, 320, 178, 282, 283, 284, 285, 56, 286, 287, 288, 289, 57, 58, 614, 615, 616, 617, 618, 619, 620, 621, 622, 623, 624, 625, 626, 627, 628, 629, 630] (by decide +kernel) (by decide +kernel)
set_option maxRecDepth 20000 in
theorem gL_law_X5_isTight : GoodIn wsL_law (wsV RL 118 RX5 yX5_isTight wsX5_isTight) := goodIn_app (goodIn_of _ (by decide +kernel)) ggL_law_X5_isTight
set_option maxRecDepth 20000 in
theorem ggL_law_X4_advise : GoodIn wsL_law wsX4_advise := goodIn_r _ [567, 16, 29, 24, 89, 90, 91, 15, 92, 83, 255, 256, 257, 258, 202, 203, 2, 204, 326, 327, 328, 27, 329, 330, 331, 332, 333, 334, 335, 336, 337, 338, 339, 340, 23, 341, 342, 343, 344, 345, 346, 347, 46, 45, 348, 349, 350, 351, 352, 44, 353, 260, 261, 262, 34, 354, 309, 310, 19, 311, 164, 312, 264, 265, 266, 38, 39, 355, 356, 357, 358, 359, 360, 361, 362, 363, 364, 365, 366, 249, 250, 251, 252, 253, 254, 367, 368, 369, 370, 51, 371, 372, 373, 374, 375, 376, 377, 378, 379, 380, 381, 382, 50, 383, 384, 385, 386, 387, 388, 389, 390, 395, 396, 397, 398, 607, 608, 609, 610, 611, 612, 613, 631, 632, 641, 642, 643, 644, 645, 646, 636, 637, 638, 639, 640, 633, 634, 635] (by decide +kernel) (by decide +kernel)
set_option maxRecDepth 20000 in
theorem gL_law_X4_advise : GoodIn wsL_law (wsV RL 119 RX4 yX4_advise wsX4_advise) := goodIn_app (goodIn_of _ (by decide +kernel)) ggL_law_X4_advise
set_option maxRecDepth 20000 in
theorem ggL_law_X5_advise : GoodIn wsL_law wsX5_advise := goodIn_r _ [571, 97, 98, 572, 573, 574, 5, 575, 56, 404, 138, 139, 140, 141, 413, 414, 415, 416, 406, 417, 364, 361, 365, 278, 279, 280, 281, 418, 419, 420, 421, 59, 317, 318, 319, 320, 178, 282, 283, 284, 285, 286, 287, 288, 289, 57, 58, 277, 249, 250, 251, 252, 253, 254, 422, 423, 424, 425, 426, 427, 428, 429, 430, 431, 432, 433, 434, 435, 60, 614, 615, 616, 617, 618, 619, 620, 621, 622, 623, 624, 625, 626, 627, 628, 629, 630] (by decide +kernel) (by decide +kernel)
set_option maxRecDepth 20000 in
theorem gL_law_X5_advise : GoodIn wsL_law (wsV RL 122 RX5 yX5_advise wsX5_advise) := goodIn_app (goodIn_of _ (by decide +kernel)) ggL_law_X5_advise
set_option maxRecDepth 20000 in
theorem ggL_law_X4_mean : GoodIn wsL_law wsX4_mean := goodIn_r _ [579, 20, 170, 171, 172, 19, 173, 164, 198, 199, 200, 201, 38, 194, 187, 188, 189, 248, 249, 250, 251, 252, 253, 254, 607, 608, 609, 610, 611, 612, 613, 633, 634, 635] (by decide +kernel) (by decide +kernel)
set_option maxRecDepth 20000 in
theorem gL_law_X4_mean : GoodIn wsL_law (wsV RL 123 RX4 yX4_mean wsX4_mean) := goodIn_app (goodIn_of _ (by decide +kernel)) ggL_law_X4_mean
set_option maxRecDepth 20000 in
theorem ggL_law_X5_mean : GoodIn wsL_law wsX5_mean := goodIn_r _ [583, 97, 178, 57, 277, 249, 250, 251, 252, 253, 254, 614, 615, 616, 617, 618, 619, 620, 621, 622, 623, 624, 625, 626, 627, 628, 629, 630] (by decide +kernel) (by decide +kernel)
set_option maxRecDepth 20000 in
theorem gL_law_X5_mean : GoodIn wsL_law (wsV RL 127 RX5 yX5_mean wsX5_mean) := goodIn_app (goodIn_of _ (by decide +kernel)) ggL_law_X5_mean
set_option maxRecDepth 20000 in
theorem ggL_law_X4_digest : GoodIn wsL_law wsX4_digest := goodIn_r _ [587, 588, 29, 24, 16, 20, 589, 590, 591, 2, 592, 493, 494, 495, 496, 28, 325, 89, 90, 91, 15, 92, 83, 170, 171, 172, 19, 173, 164, 255, 256, 257, 258, 259, 260, 261, 262, 34, 308, 309, 310, 311, 312, 264, 265, 266, 38, 39, 443, 444, 445, 27, 446, 335, 366, 249, 250, 251, 252, 253, 254, 474, 475, 476, 477, 337, 395, 396, 397, 398, 330, 593, 594, 595, 596, 121, 122, 123, 124, 125, 118, 119, 120, 243, 244, 245, 246, 247, 198, 199, 200, 201, 194, 187, 188, 189, 190, 191, 192, 193, 248, 263, 597, 598, 599, 600, 447, 448, 449, 450, 478, 479, 480, 481, 50, 326, 327, 328, 329, 331, 332, 333, 334, 336, 338, 339, 340, 23, 341, 342, 343, 344, 345, 346, 347, 46, 45, 348, 349, 350, 351, 352, 44, 353, 354, 355, 356, 357, 358, 359, 360, 361, 362, 363, 364, 365, 367, 368, 369, 370, 51, 371, 372, 373, 374, 375, 376, 377, 378, 379, 380, 381, 382, 383, 384, 385, 386, 387, 388, 389, 390, 391, 392, 393, 394, 516, 517, 518, 519, 536, 537, 538, 539, 540, 607, 608, 609, 610, 611, 612, 613, 631, 632, 633, 634, 635, 641, 642, 643, 644, 645, 646, 636, 637, 638, 639, 640] (by decide +kernel) (by decide +kernel)
set_option maxRecDepth 20000 in
theorem gL_law_X4_digest : GoodIn wsL_law (wsV RL 128 RX4 yX4_digest wsX4_digest) := goodIn_app (goodIn_of _ (by decide +kernel)) ggL_law_X4_digest
set_option maxRecDepth 20000 in
theorem ggL_law_X5_digest : GoodIn wsL_law wsX5_digest := goodIn_r _ [604, 97, 605, 606, 98, 56, 178, 407, 61, 501, 502, 503, 5, 504, 405, 412, 505, 506, 507, 508, 278, 279, 280, 281, 282, 283, 284, 285, 286, 287, 288, 289, 57, 58, 455, 456, 457, 458, 403, 277, 249, 250, 251, 252, 253, 254, 271, 272, 273, 274, 275, 276, 459, 460, 461, 462, 429, 430, 431, 463, 464, 465, 466, 524, 525, 526, 527, 406, 404, 413, 414, 415, 416, 417, 364, 361, 365, 418, 419, 420, 421, 59, 317, 318, 319, 320, 422, 423, 424, 425, 426, 427, 428, 432, 433, 434, 435, 60, 528, 529, 530, 531, 545, 546, 547, 548, 614, 615, 616, 617, 618, 619, 620, 621, 622, 623, 624, 625, 626, 627, 628, 629, 630] (by decide +kernel) (by decide +kernel)
set_option maxRecDepth 20000 in
theorem gL_law_X5_digest : GoodIn wsL_law (wsV RL 132 RX5 yX5_digest wsX5_digest) := goodIn_app (goodIn_of _ (by decide +kernel)) ggL_law_X5_digest
theorem dL_law_0 : decode cL_law 0 = .ok (.new 8, 3) := by decide +kernel
theorem dL_law_3 : decode cL_law 3 = .ok (.dup, 1) := by decide +kernel
theorem dL_law_4 : decode cL_law 4 = .ok (.invokespecial 59, 3) := by decide +kernel
theorem dL_law_7 : decode cL_law 7 = .ok (.astore_n 1, 1) := by decide +kernel
theorem dL_law_8 : decode cL_law 8 = .ok (.new 60, 3) := by decide +kernel
theorem dL_law_11 : decode cL_law 11 = .ok (.dup, 1) := by decide +kernel
theorem dL_law_12 : decode cL_law 12 = .ok (.invokespecial 62, 3) := by decide +kernel
theorem dL_law_15 : decode cL_law 15 = .ok (.astore_n 2, 1) := by decide +kernel
theorem dL_law_16 : decode cL_law 16 = .ok (.iconst 1, 1) := by decide +kernel
theorem dL_law_17 : decode cL_law 17 = .ok (.newarray .long, 2) := by decide +kernel
theorem dL_law_19 : decode cL_law 19 = .ok (.astore_n 3, 1) := by decide +kernel
theorem dL_law_20 : decode cL_law 20 = .ok (.iconst 0, 1) := by decide +kernel
theorem dL_law_21 : decode cL_law 21 = .ok (.istore 4, 2) := by decide +kernel
theorem dL_law_23 : decode cL_law 23 = .ok (.iload 4, 2) := by decide +kernel
theorem dL_law_25 : decode cL_law 25 = .ok (.aload_n 0, 1) := by decide +kernel
theorem dL_law_26 : decode cL_law 26 = .ok (.arraylength, 1) := by decide +kernel
theorem dL_law_27 : decode cL_law 27 = .ok (.iconst 4, 1) := by decide +kernel
theorem dL_law_28 : decode cL_law 28 = .ok (.isub, 1) := by decide +kernel
theorem dL_law_29 : decode cL_law 29 = .ok (.if_icmp .gt 1043, 3) := by decide +kernel
theorem dL_law_32 : decode cL_law 32 = .ok (.aload_n 0, 1) := by decide +kernel
theorem dL_law_33 : decode cL_law 33 = .ok (.iload 4, 2) := by decide +kernel
theorem dL_law_35 : decode cL_law 35 = .ok (.iaload, 1) := by decide +kernel
theorem dL_law_36 : decode cL_law 36 = .ok (.bipush 31, 2) := by decide +kernel
theorem dL_law_38 : decode cL_law 38 = .ok (.iand, 1) := by decide +kernel
theorem dL_law_39 : decode cL_law 39 = .ok (.tableswitch 1027 0 17 #[85, 141, 197, 253, 297, 400, 503, 571, 634, 647, 703, 771, 827, 883, 896, 959, 972, 1013], 85) := by decide +kernel
theorem dL_law_124 : decode cL_law 124 = .ok (.aload_n 1, 1) := by decide +kernel
theorem dL_law_125 : decode cL_law 125 = .ok (.aload_n 0, 1) := by decide +kernel
theorem dL_law_126 : decode cL_law 126 = .ok (.iload 4, 2) := by decide +kernel
theorem dL_law_128 : decode cL_law 128 = .ok (.iconst 1, 1) := by decide +kernel
theorem dL_law_129 : decode cL_law 129 = .ok (.iadd, 1) := by decide +kernel
theorem dL_law_130 : decode cL_law 130 = .ok (.iaload, 1) := by decide +kernel
theorem dL_law_131 : decode cL_law 131 = .ok (.aload_n 3, 1) := by decide +kernel
theorem dL_law_132 : decode cL_law 132 = .ok (.invokestatic 63, 3) := by decide +kernel
theorem dL_law_135 : decode cL_law 135 = .ok (.istore 5, 2) := by decide +kernel
theorem dL_law_137 : decode cL_law 137 = .ok (.aload_n 2, 1) := by decide +kernel
theorem dL_law_138 : decode cL_law 138 = .ok (.aload_n 0, 1) := by decide +kernel
theorem dL_law_139 : decode cL_law 139 = .ok (.iload 4, 2) := by decide +kernel
theorem dL_law_141 : decode cL_law 141 = .ok (.iconst 1, 1) := by decide +kernel
theorem dL_law_142 : decode cL_law 142 = .ok (.iadd, 1) := by decide +kernel
theorem dL_law_143 : decode cL_law 143 = .ok (.iaload, 1) := by decide +kernel
theorem dL_law_144 : decode cL_law 144 = .ok (.invokevirtual 68, 3) := by decide +kernel
theorem dL_law_147 : decode cL_law 147 = .ok (.istore 6, 2) := by decide +kernel
theorem dL_law_149 : decode cL_law 149 = .ok (.aload_n 2, 1) := by decide +kernel
theorem dL_law_150 : decode cL_law 150 = .ok (.invokevirtual 69, 3) := by decide +kernel
theorem dL_law_153 : decode cL_law 153 = .ok (.iload 5, 2) := by decide +kernel
theorem dL_law_155 : decode cL_law 155 = .ok (.if_icmp .eq 5, 3) := by decide +kernel
theorem dL_law_158 : decode cL_law 158 = .ok (.iconst 0, 1) := by decide +kernel
theorem dL_law_159 : decode cL_law 159 = .ok (.ireturn, 1) := by decide +kernel
theorem dL_law_160 : decode cL_law 160 = .ok (.iload 5, 2) := by decide +kernel
theorem dL_law_162 : decode cL_law 162 = .ok (.ifCond .ne 15, 3) := by decide +kernel
theorem dL_law_165 : decode cL_law 165 = .ok (.aload_n 3, 1) := by decide +kernel
theorem dL_law_166 : decode cL_law 166 = .ok (.iconst 0, 1) := by decide +kernel
theorem dL_law_167 : decode cL_law 167 = .ok (.laload, 1) := by decide +kernel
theorem dL_law_168 : decode cL_law 168 = .ok (.iload 6, 2) := by decide +kernel
theorem dL_law_170 : decode cL_law 170 = .ok (.i2l, 1) := by decide +kernel
theorem dL_law_171 : decode cL_law 171 = .ok (.lcmp, 1) := by decide +kernel
theorem dL_law_172 : decode cL_law 172 = .ok (.ifCond .eq 5, 3) := by decide +kernel
theorem dL_law_175 : decode cL_law 175 = .ok (.iconst 0, 1) := by decide +kernel
theorem dL_law_176 : decode cL_law 176 = .ok (.ireturn, 1) := by decide +kernel
theorem dL_law_177 : decode cL_law 177 = .ok (.goto 889, 3) := by decide +kernel
theorem dL_law_180 : decode cL_law 180 = .ok (.aload_n 1, 1) := by decide +kernel
theorem dL_law_181 : decode cL_law 181 = .ok (.aload_n 0, 1) := by decide +kernel
theorem dL_law_182 : decode cL_law 182 = .ok (.iload 4, 2) := by decide +kernel
theorem dL_law_184 : decode cL_law 184 = .ok (.iconst 1, 1) := by decide +kernel
theorem dL_law_185 : decode cL_law 185 = .ok (.iadd, 1) := by decide +kernel
theorem dL_law_186 : decode cL_law 186 = .ok (.iaload, 1) := by decide +kernel
theorem dL_law_187 : decode cL_law 187 = .ok (.aload_n 3, 1) := by decide +kernel
theorem dL_law_188 : decode cL_law 188 = .ok (.invokestatic 72, 3) := by decide +kernel
theorem dL_law_191 : decode cL_law 191 = .ok (.istore 5, 2) := by decide +kernel
theorem dL_law_193 : decode cL_law 193 = .ok (.aload_n 2, 1) := by decide +kernel
theorem dL_law_194 : decode cL_law 194 = .ok (.aload_n 0, 1) := by decide +kernel
theorem dL_law_195 : decode cL_law 195 = .ok (.iload 4, 2) := by decide +kernel
theorem dL_law_197 : decode cL_law 197 = .ok (.iconst 1, 1) := by decide +kernel
theorem dL_law_198 : decode cL_law 198 = .ok (.iadd, 1) := by decide +kernel
theorem dL_law_199 : decode cL_law 199 = .ok (.iaload, 1) := by decide +kernel
theorem dL_law_200 : decode cL_law 200 = .ok (.invokevirtual 74, 3) := by decide +kernel
theorem dL_law_203 : decode cL_law 203 = .ok (.istore 6, 2) := by decide +kernel
theorem dL_law_205 : decode cL_law 205 = .ok (.aload_n 2, 1) := by decide +kernel
theorem dL_law_206 : decode cL_law 206 = .ok (.invokevirtual 69, 3) := by decide +kernel
theorem dL_law_209 : decode cL_law 209 = .ok (.iload 5, 2) := by decide +kernel
theorem dL_law_211 : decode cL_law 211 = .ok (.if_icmp .eq 5, 3) := by decide +kernel
theorem dL_law_214 : decode cL_law 214 = .ok (.iconst 0, 1) := by decide +kernel
theorem dL_law_215 : decode cL_law 215 = .ok (.ireturn, 1) := by decide +kernel
theorem dL_law_216 : decode cL_law 216 = .ok (.iload 5, 2) := by decide +kernel
theorem dL_law_218 : decode cL_law 218 = .ok (.ifCond .ne 15, 3) := by decide +kernel
theorem dL_law_221 : decode cL_law 221 = .ok (.aload_n 3, 1) := by decide +kernel
theorem dL_law_222 : decode cL_law 222 = .ok (.iconst 0, 1) := by decide +kernel
theorem dL_law_223 : decode cL_law 223 = .ok (.laload, 1) := by decide +kernel
theorem dL_law_224 : decode cL_law 224 = .ok (.iload 6, 2) := by decide +kernel
theorem dL_law_226 : decode cL_law 226 = .ok (.i2l, 1) := by decide +kernel
theorem dL_law_227 : decode cL_law 227 = .ok (.lcmp, 1) := by decide +kernel
theorem dL_law_228 : decode cL_law 228 = .ok (.ifCond .eq 5, 3) := by decide +kernel
theorem dL_law_231 : decode cL_law 231 = .ok (.iconst 0, 1) := by decide +kernel
theorem dL_law_232 : decode cL_law 232 = .ok (.ireturn, 1) := by decide +kernel
theorem dL_law_233 : decode cL_law 233 = .ok (.goto 833, 3) := by decide +kernel
theorem dL_law_236 : decode cL_law 236 = .ok (.aload_n 1, 1) := by decide +kernel
theorem dL_law_237 : decode cL_law 237 = .ok (.aload_n 0, 1) := by decide +kernel
theorem dL_law_238 : decode cL_law 238 = .ok (.iload 4, 2) := by decide +kernel
theorem dL_law_240 : decode cL_law 240 = .ok (.iconst 1, 1) := by decide +kernel
theorem dL_law_241 : decode cL_law 241 = .ok (.iadd, 1) := by decide +kernel
theorem dL_law_242 : decode cL_law 242 = .ok (.iaload, 1) := by decide +kernel
theorem dL_law_243 : decode cL_law 243 = .ok (.aload_n 3, 1) := by decide +kernel
theorem dL_law_244 : decode cL_law 244 = .ok (.invokestatic 75, 3) := by decide +kernel
theorem dL_law_247 : decode cL_law 247 = .ok (.istore 5, 2) := by decide +kernel
theorem dL_law_249 : decode cL_law 249 = .ok (.aload_n 2, 1) := by decide +kernel
theorem dL_law_250 : decode cL_law 250 = .ok (.aload_n 0, 1) := by decide +kernel
theorem dL_law_251 : decode cL_law 251 = .ok (.iload 4, 2) := by decide +kernel
theorem dL_law_253 : decode cL_law 253 = .ok (.iconst 1, 1) := by decide +kernel
theorem dL_law_254 : decode cL_law 254 = .ok (.iadd, 1) := by decide +kernel
theorem dL_law_255 : decode cL_law 255 = .ok (.iaload, 1) := by decide +kernel
theorem dL_law_256 : decode cL_law 256 = .ok (.invokevirtual 77, 3) := by decide +kernel
theorem dL_law_259 : decode cL_law 259 = .ok (.istore 6, 2) := by decide +kernel
theorem dL_law_261 : decode cL_law 261 = .ok (.aload_n 2, 1) := by decide +kernel
theorem dL_law_262 : decode cL_law 262 = .ok (.invokevirtual 69, 3) := by decide +kernel
theorem dL_law_265 : decode cL_law 265 = .ok (.iload 5, 2) := by decide +kernel
theorem dL_law_267 : decode cL_law 267 = .ok (.if_icmp .eq 5, 3) := by decide +kernel
theorem dL_law_270 : decode cL_law 270 = .ok (.iconst 0, 1) := by decide +kernel
theorem dL_law_271 : decode cL_law 271 = .ok (.ireturn, 1) := by decide +kernel
theorem dL_law_272 : decode cL_law 272 = .ok (.iload 5, 2) := by decide +kernel
theorem dL_law_274 : decode cL_law 274 = .ok (.ifCond .ne 15, 3) := by decide +kernel
theorem dL_law_277 : decode cL_law 277 = .ok (.aload_n 3, 1) := by decide +kernel
theorem dL_law_278 : decode cL_law 278 = .ok (.iconst 0, 1) := by decide +kernel
theorem dL_law_279 : decode cL_law 279 = .ok (.laload, 1) := by decide +kernel
theorem dL_law_280 : decode cL_law 280 = .ok (.iload 6, 2) := by decide +kernel
theorem dL_law_282 : decode cL_law 282 = .ok (.i2l, 1) := by decide +kernel
theorem dL_law_283 : decode cL_law 283 = .ok (.lcmp, 1) := by decide +kernel
theorem dL_law_284 : decode cL_law 284 = .ok (.ifCond .eq 5, 3) := by decide +kernel
theorem dL_law_287 : decode cL_law 287 = .ok (.iconst 0, 1) := by decide +kernel
theorem dL_law_288 : decode cL_law 288 = .ok (.ireturn, 1) := by decide +kernel
theorem dL_law_289 : decode cL_law 289 = .ok (.goto 777, 3) := by decide +kernel
theorem dL_law_292 : decode cL_law 292 = .ok (.aload_n 1, 1) := by decide +kernel
theorem dL_law_293 : decode cL_law 293 = .ok (.aload_n 3, 1) := by decide +kernel
theorem dL_law_294 : decode cL_law 294 = .ok (.invokestatic 78, 3) := by decide +kernel
theorem dL_law_297 : decode cL_law 297 = .ok (.istore 5, 2) := by decide +kernel
theorem dL_law_299 : decode cL_law 299 = .ok (.aload_n 2, 1) := by decide +kernel
theorem dL_law_300 : decode cL_law 300 = .ok (.invokevirtual 81, 3) := by decide +kernel
theorem dL_law_303 : decode cL_law 303 = .ok (.istore 6, 2) := by decide +kernel
theorem dL_law_305 : decode cL_law 305 = .ok (.aload_n 2, 1) := by decide +kernel
theorem dL_law_306 : decode cL_law 306 = .ok (.invokevirtual 69, 3) := by decide +kernel
theorem dL_law_309 : decode cL_law 309 = .ok (.iload 5, 2) := by decide +kernel
theorem dL_law_311 : decode cL_law 311 = .ok (.if_icmp .eq 5, 3) := by decide +kernel
theorem dL_law_314 : decode cL_law 314 = .ok (.iconst 0, 1) := by decide +kernel
theorem dL_law_315 : decode cL_law 315 = .ok (.ireturn, 1) := by decide +kernel
theorem dL_law_316 : decode cL_law 316 = .ok (.iload 5, 2) := by decide +kernel
theorem dL_law_318 : decode cL_law 318 = .ok (.ifCond .ne 15, 3) := by decide +kernel
theorem dL_law_321 : decode cL_law 321 = .ok (.aload_n 3, 1) := by decide +kernel
theorem dL_law_322 : decode cL_law 322 = .ok (.iconst 0, 1) := by decide +kernel
theorem dL_law_323 : decode cL_law 323 = .ok (.laload, 1) := by decide +kernel
theorem dL_law_324 : decode cL_law 324 = .ok (.iload 6, 2) := by decide +kernel
theorem dL_law_326 : decode cL_law 326 = .ok (.i2l, 1) := by decide +kernel
theorem dL_law_327 : decode cL_law 327 = .ok (.lcmp, 1) := by decide +kernel
theorem dL_law_328 : decode cL_law 328 = .ok (.ifCond .eq 5, 3) := by decide +kernel
theorem dL_law_331 : decode cL_law 331 = .ok (.iconst 0, 1) := by decide +kernel
theorem dL_law_332 : decode cL_law 332 = .ok (.ireturn, 1) := by decide +kernel
theorem dL_law_333 : decode cL_law 333 = .ok (.goto 733, 3) := by decide +kernel
theorem dL_law_336 : decode cL_law 336 = .ok (.aload_n 1, 1) := by decide +kernel
theorem dL_law_337 : decode cL_law 337 = .ok (.aload_n 0, 1) := by decide +kernel
theorem dL_law_338 : decode cL_law 338 = .ok (.iload 4, 2) := by decide +kernel
theorem dL_law_340 : decode cL_law 340 = .ok (.iconst 1, 1) := by decide +kernel
theorem dL_law_341 : decode cL_law 341 = .ok (.iadd, 1) := by decide +kernel
theorem dL_law_342 : decode cL_law 342 = .ok (.iaload, 1) := by decide +kernel
theorem dL_law_343 : decode cL_law 343 = .ok (.aload_n 0, 1) := by decide +kernel
theorem dL_law_344 : decode cL_law 344 = .ok (.iload 4, 2) := by decide +kernel
theorem dL_law_346 : decode cL_law 346 = .ok (.iconst 2, 1) := by decide +kernel
theorem dL_law_347 : decode cL_law 347 = .ok (.iadd, 1) := by decide +kernel
theorem dL_law_348 : decode cL_law 348 = .ok (.iaload, 1) := by decide +kernel
theorem dL_law_349 : decode cL_law 349 = .ok (.aload_n 0, 1) := by decide +kernel
theorem dL_law_350 : decode cL_law 350 = .ok (.iload 4, 2) := by decide +kernel
theorem dL_law_352 : decode cL_law 352 = .ok (.iconst 3, 1) := by decide +kernel
theorem dL_law_353 : decode cL_law 353 = .ok (.iadd, 1) := by decide +kernel
theorem dL_law_354 : decode cL_law 354 = .ok (.iaload, 1) := by decide +kernel
theorem dL_law_355 : decode cL_law 355 = .ok (.ifCond .eq 7, 3) := by decide +kernel
theorem dL_law_358 : decode cL_law 358 = .ok (.iconst 1, 1) := by decide +kernel
theorem dL_law_359 : decode cL_law 359 = .ok (.goto 4, 3) := by decide +kernel
theorem dL_law_362 : decode cL_law 362 = .ok (.iconst 0, 1) := by decide +kernel
theorem dL_law_363 : decode cL_law 363 = .ok (.aload_n 3, 1) := by decide +kernel
theorem dL_law_364 : decode cL_law 364 = .ok (.invokestatic 82, 3) := by decide +kernel
theorem dL_law_367 : decode cL_law 367 = .ok (.istore 5, 2) := by decide +kernel
theorem dL_law_369 : decode cL_law 369 = .ok (.aload_n 2, 1) := by decide +kernel
theorem dL_law_370 : decode cL_law 370 = .ok (.aload_n 0, 1) := by decide +kernel
theorem dL_law_371 : decode cL_law 371 = .ok (.iload 4, 2) := by decide +kernel
theorem dL_law_373 : decode cL_law 373 = .ok (.iconst 1, 1) := by decide +kernel
theorem dL_law_374 : decode cL_law 374 = .ok (.iadd, 1) := by decide +kernel
theorem dL_law_375 : decode cL_law 375 = .ok (.iaload, 1) := by decide +kernel
theorem dL_law_376 : decode cL_law 376 = .ok (.aload_n 0, 1) := by decide +kernel
theorem dL_law_377 : decode cL_law 377 = .ok (.iload 4, 2) := by decide +kernel
theorem dL_law_379 : decode cL_law 379 = .ok (.iconst 2, 1) := by decide +kernel
theorem dL_law_380 : decode cL_law 380 = .ok (.iadd, 1) := by decide +kernel
theorem dL_law_381 : decode cL_law 381 = .ok (.iaload, 1) := by decide +kernel
theorem dL_law_382 : decode cL_law 382 = .ok (.aload_n 0, 1) := by decide +kernel
theorem dL_law_383 : decode cL_law 383 = .ok (.iload 4, 2) := by decide +kernel
theorem dL_law_385 : decode cL_law 385 = .ok (.iconst 3, 1) := by decide +kernel
theorem dL_law_386 : decode cL_law 386 = .ok (.iadd, 1) := by decide +kernel
theorem dL_law_387 : decode cL_law 387 = .ok (.iaload, 1) := by decide +kernel
theorem dL_law_388 : decode cL_law 388 = .ok (.ifCond .eq 7, 3) := by decide +kernel
theorem dL_law_391 : decode cL_law 391 = .ok (.iconst 1, 1) := by decide +kernel
theorem dL_law_392 : decode cL_law 392 = .ok (.goto 4, 3) := by decide +kernel
theorem dL_law_395 : decode cL_law 395 = .ok (.iconst 0, 1) := by decide +kernel
theorem dL_law_396 : decode cL_law 396 = .ok (.invokevirtual 85, 3) := by decide +kernel
theorem dL_law_399 : decode cL_law 399 = .ok (.istore 6, 2) := by decide +kernel
theorem dL_law_401 : decode cL_law 401 = .ok (.aload_n 2, 1) := by decide +kernel
theorem dL_law_402 : decode cL_law 402 = .ok (.invokevirtual 69, 3) := by decide +kernel
theorem dL_law_405 : decode cL_law 405 = .ok (.iload 5, 2) := by decide +kernel
theorem dL_law_407 : decode cL_law 407 = .ok (.if_icmp .eq 5, 3) := by decide +kernel
theorem dL_law_410 : decode cL_law 410 = .ok (.iconst 0, 1) := by decide +kernel
theorem dL_law_411 : decode cL_law 411 = .ok (.ireturn, 1) := by decide +kernel
theorem dL_law_412 : decode cL_law 412 = .ok (.iload 5, 2) := by decide +kernel
theorem dL_law_414 : decode cL_law 414 = .ok (.ifCond .ne 22, 3) := by decide +kernel
theorem dL_law_417 : decode cL_law 417 = .ok (.aload_n 3, 1) := by decide +kernel
theorem dL_law_418 : decode cL_law 418 = .ok (.iconst 0, 1) := by decide +kernel
theorem dL_law_419 : decode cL_law 419 = .ok (.laload, 1) := by decide +kernel
theorem dL_law_420 : decode cL_law 420 = .ok (.iload 6, 2) := by decide +kernel
theorem dL_law_422 : decode cL_law 422 = .ok (.ifCond .eq 7, 3) := by decide +kernel
theorem dL_law_425 : decode cL_law 425 = .ok (.lconst 1, 1) := by decide +kernel
theorem dL_law_426 : decode cL_law 426 = .ok (.goto 4, 3) := by decide +kernel
theorem dL_law_429 : decode cL_law 429 = .ok (.lconst 0, 1) := by decide +kernel
theorem dL_law_430 : decode cL_law 430 = .ok (.lcmp, 1) := by decide +kernel
theorem dL_law_431 : decode cL_law 431 = .ok (.ifCond .eq 5, 3) := by decide +kernel
theorem dL_law_434 : decode cL_law 434 = .ok (.iconst 0, 1) := by decide +kernel
theorem dL_law_435 : decode cL_law 435 = .ok (.ireturn, 1) := by decide +kernel
theorem dL_law_436 : decode cL_law 436 = .ok (.goto 630, 3) := by decide +kernel
theorem dL_law_439 : decode cL_law 439 = .ok (.aload_n 1, 1) := by decide +kernel
theorem dL_law_440 : decode cL_law 440 = .ok (.aload_n 0, 1) := by decide +kernel
theorem dL_law_441 : decode cL_law 441 = .ok (.iload 4, 2) := by decide +kernel
theorem dL_law_443 : decode cL_law 443 = .ok (.iconst 1, 1) := by decide +kernel
theorem dL_law_444 : decode cL_law 444 = .ok (.iadd, 1) := by decide +kernel
theorem dL_law_445 : decode cL_law 445 = .ok (.iaload, 1) := by decide +kernel
theorem dL_law_446 : decode cL_law 446 = .ok (.aload_n 0, 1) := by decide +kernel
theorem dL_law_447 : decode cL_law 447 = .ok (.iload 4, 2) := by decide +kernel
theorem dL_law_449 : decode cL_law 449 = .ok (.iconst 2, 1) := by decide +kernel
theorem dL_law_450 : decode cL_law 450 = .ok (.iadd, 1) := by decide +kernel
theorem dL_law_451 : decode cL_law 451 = .ok (.iaload, 1) := by decide +kernel
theorem dL_law_452 : decode cL_law 452 = .ok (.aload_n 0, 1) := by decide +kernel
theorem dL_law_453 : decode cL_law 453 = .ok (.iload 4, 2) := by decide +kernel
theorem dL_law_455 : decode cL_law 455 = .ok (.iconst 3, 1) := by decide +kernel
theorem dL_law_456 : decode cL_law 456 = .ok (.iadd, 1) := by decide +kernel
theorem dL_law_457 : decode cL_law 457 = .ok (.iaload, 1) := by decide +kernel
theorem dL_law_458 : decode cL_law 458 = .ok (.ifCond .eq 7, 3) := by decide +kernel
theorem dL_law_461 : decode cL_law 461 = .ok (.iconst 1, 1) := by decide +kernel
theorem dL_law_462 : decode cL_law 462 = .ok (.goto 4, 3) := by decide +kernel
theorem dL_law_465 : decode cL_law 465 = .ok (.iconst 0, 1) := by decide +kernel
theorem dL_law_466 : decode cL_law 466 = .ok (.aload_n 3, 1) := by decide +kernel
theorem dL_law_467 : decode cL_law 467 = .ok (.invokestatic 86, 3) := by decide +kernel
theorem dL_law_470 : decode cL_law 470 = .ok (.istore 5, 2) := by decide +kernel
theorem dL_law_472 : decode cL_law 472 = .ok (.aload_n 2, 1) := by decide +kernel
theorem dL_law_473 : decode cL_law 473 = .ok (.aload_n 0, 1) := by decide +kernel
theorem dL_law_474 : decode cL_law 474 = .ok (.iload 4, 2) := by decide +kernel
theorem dL_law_476 : decode cL_law 476 = .ok (.iconst 1, 1) := by decide +kernel
theorem dL_law_477 : decode cL_law 477 = .ok (.iadd, 1) := by decide +kernel
theorem dL_law_478 : decode cL_law 478 = .ok (.iaload, 1) := by decide +kernel
theorem dL_law_479 : decode cL_law 479 = .ok (.aload_n 0, 1) := by decide +kernel
theorem dL_law_480 : decode cL_law 480 = .ok (.iload 4, 2) := by decide +kernel
theorem dL_law_482 : decode cL_law 482 = .ok (.iconst 2, 1) := by decide +kernel
theorem dL_law_483 : decode cL_law 483 = .ok (.iadd, 1) := by decide +kernel
theorem dL_law_484 : decode cL_law 484 = .ok (.iaload, 1) := by decide +kernel
theorem dL_law_485 : decode cL_law 485 = .ok (.aload_n 0, 1) := by decide +kernel
theorem dL_law_486 : decode cL_law 486 = .ok (.iload 4, 2) := by decide +kernel
theorem dL_law_488 : decode cL_law 488 = .ok (.iconst 3, 1) := by decide +kernel
theorem dL_law_489 : decode cL_law 489 = .ok (.iadd, 1) := by decide +kernel
theorem dL_law_490 : decode cL_law 490 = .ok (.iaload, 1) := by decide +kernel
theorem dL_law_491 : decode cL_law 491 = .ok (.ifCond .eq 7, 3) := by decide +kernel
theorem dL_law_494 : decode cL_law 494 = .ok (.iconst 1, 1) := by decide +kernel
theorem dL_law_495 : decode cL_law 495 = .ok (.goto 4, 3) := by decide +kernel
theorem dL_law_498 : decode cL_law 498 = .ok (.iconst 0, 1) := by decide +kernel
theorem dL_law_499 : decode cL_law 499 = .ok (.invokevirtual 88, 3) := by decide +kernel
theorem dL_law_502 : decode cL_law 502 = .ok (.istore 6, 2) := by decide +kernel
theorem dL_law_504 : decode cL_law 504 = .ok (.aload_n 2, 1) := by decide +kernel
theorem dL_law_505 : decode cL_law 505 = .ok (.invokevirtual 69, 3) := by decide +kernel
theorem dL_law_508 : decode cL_law 508 = .ok (.iload 5, 2) := by decide +kernel
theorem dL_law_510 : decode cL_law 510 = .ok (.if_icmp .eq 5, 3) := by decide +kernel
theorem dL_law_513 : decode cL_law 513 = .ok (.iconst 0, 1) := by decide +kernel
theorem dL_law_514 : decode cL_law 514 = .ok (.ireturn, 1) := by decide +kernel
theorem dL_law_515 : decode cL_law 515 = .ok (.iload 5, 2) := by decide +kernel
theorem dL_law_517 : decode cL_law 517 = .ok (.ifCond .ne 22, 3) := by decide +kernel
theorem dL_law_520 : decode cL_law 520 = .ok (.aload_n 3, 1) := by decide +kernel
theorem dL_law_521 : decode cL_law 521 = .ok (.iconst 0, 1) := by decide +kernel
theorem dL_law_522 : decode cL_law 522 = .ok (.laload, 1) := by decide +kernel
theorem dL_law_523 : decode cL_law 523 = .ok (.iload 6, 2) := by decide +kernel
theorem dL_law_525 : decode cL_law 525 = .ok (.ifCond .eq 7, 3) := by decide +kernel
theorem dL_law_528 : decode cL_law 528 = .ok (.lconst 1, 1) := by decide +kernel
theorem dL_law_529 : decode cL_law 529 = .ok (.goto 4, 3) := by decide +kernel
theorem dL_law_532 : decode cL_law 532 = .ok (.lconst 0, 1) := by decide +kernel
theorem dL_law_533 : decode cL_law 533 = .ok (.lcmp, 1) := by decide +kernel
theorem dL_law_534 : decode cL_law 534 = .ok (.ifCond .eq 5, 3) := by decide +kernel
theorem dL_law_537 : decode cL_law 537 = .ok (.iconst 0, 1) := by decide +kernel
theorem dL_law_538 : decode cL_law 538 = .ok (.ireturn, 1) := by decide +kernel
theorem dL_law_539 : decode cL_law 539 = .ok (.goto 527, 3) := by decide +kernel
theorem dL_law_542 : decode cL_law 542 = .ok (.aload_n 1, 1) := by decide +kernel
theorem dL_law_543 : decode cL_law 543 = .ok (.aload_n 0, 1) := by decide +kernel
theorem dL_law_544 : decode cL_law 544 = .ok (.iload 4, 2) := by decide +kernel
theorem dL_law_546 : decode cL_law 546 = .ok (.iconst 1, 1) := by decide +kernel
theorem dL_law_547 : decode cL_law 547 = .ok (.iadd, 1) := by decide +kernel
theorem dL_law_548 : decode cL_law 548 = .ok (.iaload, 1) := by decide +kernel
theorem dL_law_549 : decode cL_law 549 = .ok (.aload_n 0, 1) := by decide +kernel
theorem dL_law_550 : decode cL_law 550 = .ok (.iload 4, 2) := by decide +kernel
theorem dL_law_552 : decode cL_law 552 = .ok (.iconst 2, 1) := by decide +kernel
theorem dL_law_553 : decode cL_law 553 = .ok (.iadd, 1) := by decide +kernel
theorem dL_law_554 : decode cL_law 554 = .ok (.iaload, 1) := by decide +kernel
theorem dL_law_555 : decode cL_law 555 = .ok (.aload_n 3, 1) := by decide +kernel
theorem dL_law_556 : decode cL_law 556 = .ok (.invokestatic 89, 3) := by decide +kernel
theorem dL_law_559 : decode cL_law 559 = .ok (.istore 5, 2) := by decide +kernel
theorem dL_law_561 : decode cL_law 561 = .ok (.aload_n 2, 1) := by decide +kernel
theorem dL_law_562 : decode cL_law 562 = .ok (.aload_n 0, 1) := by decide +kernel
theorem dL_law_563 : decode cL_law 563 = .ok (.iload 4, 2) := by decide +kernel
theorem dL_law_565 : decode cL_law 565 = .ok (.iconst 1, 1) := by decide +kernel
theorem dL_law_566 : decode cL_law 566 = .ok (.iadd, 1) := by decide +kernel
theorem dL_law_567 : decode cL_law 567 = .ok (.iaload, 1) := by decide +kernel
theorem dL_law_568 : decode cL_law 568 = .ok (.aload_n 0, 1) := by decide +kernel
theorem dL_law_569 : decode cL_law 569 = .ok (.iload 4, 2) := by decide +kernel
theorem dL_law_571 : decode cL_law 571 = .ok (.iconst 2, 1) := by decide +kernel
theorem dL_law_572 : decode cL_law 572 = .ok (.iadd, 1) := by decide +kernel
theorem dL_law_573 : decode cL_law 573 = .ok (.iaload, 1) := by decide +kernel
theorem dL_law_574 : decode cL_law 574 = .ok (.invokevirtual 92, 3) := by decide +kernel
theorem dL_law_577 : decode cL_law 577 = .ok (.istore 6, 2) := by decide +kernel
theorem dL_law_579 : decode cL_law 579 = .ok (.aload_n 2, 1) := by decide +kernel
theorem dL_law_580 : decode cL_law 580 = .ok (.invokevirtual 69, 3) := by decide +kernel
theorem dL_law_583 : decode cL_law 583 = .ok (.iload 5, 2) := by decide +kernel
theorem dL_law_585 : decode cL_law 585 = .ok (.if_icmp .eq 5, 3) := by decide +kernel
theorem dL_law_588 : decode cL_law 588 = .ok (.iconst 0, 1) := by decide +kernel
theorem dL_law_589 : decode cL_law 589 = .ok (.ireturn, 1) := by decide +kernel
theorem dL_law_590 : decode cL_law 590 = .ok (.iload 5, 2) := by decide +kernel
theorem dL_law_592 : decode cL_law 592 = .ok (.ifCond .ne 15, 3) := by decide +kernel
theorem dL_law_595 : decode cL_law 595 = .ok (.aload_n 3, 1) := by decide +kernel
theorem dL_law_596 : decode cL_law 596 = .ok (.iconst 0, 1) := by decide +kernel
theorem dL_law_597 : decode cL_law 597 = .ok (.laload, 1) := by decide +kernel
theorem dL_law_598 : decode cL_law 598 = .ok (.iload 6, 2) := by decide +kernel
theorem dL_law_600 : decode cL_law 600 = .ok (.i2l, 1) := by decide +kernel
theorem dL_law_601 : decode cL_law 601 = .ok (.lcmp, 1) := by decide +kernel
theorem dL_law_602 : decode cL_law 602 = .ok (.ifCond .eq 5, 3) := by decide +kernel
theorem dL_law_605 : decode cL_law 605 = .ok (.iconst 0, 1) := by decide +kernel
theorem dL_law_606 : decode cL_law 606 = .ok (.ireturn, 1) := by decide +kernel
theorem dL_law_607 : decode cL_law 607 = .ok (.goto 459, 3) := by decide +kernel
theorem dL_law_610 : decode cL_law 610 = .ok (.aload_n 1, 1) := by decide +kernel
theorem dL_law_611 : decode cL_law 611 = .ok (.aload_n 0, 1) := by decide +kernel
theorem dL_law_612 : decode cL_law 612 = .ok (.iload 4, 2) := by decide +kernel
theorem dL_law_614 : decode cL_law 614 = .ok (.iconst 1, 1) := by decide +kernel
theorem dL_law_615 : decode cL_law 615 = .ok (.iadd, 1) := by decide +kernel
theorem dL_law_616 : decode cL_law 616 = .ok (.iaload, 1) := by decide +kernel
theorem dL_law_617 : decode cL_law 617 = .ok (.aload_n 3, 1) := by decide +kernel
theorem dL_law_618 : decode cL_law 618 = .ok (.invokestatic 93, 3) := by decide +kernel
theorem dL_law_621 : decode cL_law 621 = .ok (.istore 5, 2) := by decide +kernel
theorem dL_law_623 : decode cL_law 623 = .ok (.aload_n 2, 1) := by decide +kernel
theorem dL_law_624 : decode cL_law 624 = .ok (.aload_n 0, 1) := by decide +kernel
theorem dL_law_625 : decode cL_law 625 = .ok (.iload 4, 2) := by decide +kernel
theorem dL_law_627 : decode cL_law 627 = .ok (.iconst 1, 1) := by decide +kernel
theorem dL_law_628 : decode cL_law 628 = .ok (.iadd, 1) := by decide +kernel
theorem dL_law_629 : decode cL_law 629 = .ok (.iaload, 1) := by decide +kernel
theorem dL_law_630 : decode cL_law 630 = .ok (.invokevirtual 95, 3) := by decide +kernel
theorem dL_law_633 : decode cL_law 633 = .ok (.istore 6, 2) := by decide +kernel
theorem dL_law_635 : decode cL_law 635 = .ok (.aload_n 2, 1) := by decide +kernel
theorem dL_law_636 : decode cL_law 636 = .ok (.invokevirtual 69, 3) := by decide +kernel
theorem dL_law_639 : decode cL_law 639 = .ok (.iload 5, 2) := by decide +kernel
theorem dL_law_641 : decode cL_law 641 = .ok (.if_icmp .eq 5, 3) := by decide +kernel
theorem dL_law_644 : decode cL_law 644 = .ok (.iconst 0, 1) := by decide +kernel
theorem dL_law_645 : decode cL_law 645 = .ok (.ireturn, 1) := by decide +kernel
theorem dL_law_646 : decode cL_law 646 = .ok (.iload 5, 2) := by decide +kernel
theorem dL_law_648 : decode cL_law 648 = .ok (.ifCond .ne 22, 3) := by decide +kernel
theorem dL_law_651 : decode cL_law 651 = .ok (.aload_n 3, 1) := by decide +kernel
theorem dL_law_652 : decode cL_law 652 = .ok (.iconst 0, 1) := by decide +kernel
theorem dL_law_653 : decode cL_law 653 = .ok (.laload, 1) := by decide +kernel
theorem dL_law_654 : decode cL_law 654 = .ok (.iload 6, 2) := by decide +kernel
theorem dL_law_656 : decode cL_law 656 = .ok (.ifCond .eq 7, 3) := by decide +kernel
theorem dL_law_659 : decode cL_law 659 = .ok (.lconst 1, 1) := by decide +kernel
theorem dL_law_660 : decode cL_law 660 = .ok (.goto 4, 3) := by decide +kernel
theorem dL_law_663 : decode cL_law 663 = .ok (.lconst 0, 1) := by decide +kernel
theorem dL_law_664 : decode cL_law 664 = .ok (.lcmp, 1) := by decide +kernel
theorem dL_law_665 : decode cL_law 665 = .ok (.ifCond .eq 5, 3) := by decide +kernel
theorem dL_law_668 : decode cL_law 668 = .ok (.iconst 0, 1) := by decide +kernel
theorem dL_law_669 : decode cL_law 669 = .ok (.ireturn, 1) := by decide +kernel
theorem dL_law_670 : decode cL_law 670 = .ok (.goto 396, 3) := by decide +kernel
theorem dL_law_673 : decode cL_law 673 = .ok (.aload_n 1, 1) := by decide +kernel
theorem dL_law_674 : decode cL_law 674 = .ok (.invokevirtual 96, 3) := by decide +kernel
theorem dL_law_677 : decode cL_law 677 = .ok (.aload_n 2, 1) := by decide +kernel
theorem dL_law_678 : decode cL_law 678 = .ok (.invokevirtual 99, 3) := by decide +kernel
theorem dL_law_681 : decode cL_law 681 = .ok (.if_icmp .eq 385, 3) := by decide +kernel
theorem dL_law_684 : decode cL_law 684 = .ok (.iconst 0, 1) := by decide +kernel
theorem dL_law_685 : decode cL_law 685 = .ok (.ireturn, 1) := by decide +kernel
theorem dL_law_686 : decode cL_law 686 = .ok (.aload_n 1, 1) := by decide +kernel
theorem dL_law_687 : decode cL_law 687 = .ok (.aload_n 0, 1) := by decide +kernel
theorem dL_law_688 : decode cL_law 688 = .ok (.iload 4, 2) := by decide +kernel
theorem dL_law_690 : decode cL_law 690 = .ok (.iconst 1, 1) := by decide +kernel
theorem dL_law_691 : decode cL_law 691 = .ok (.iadd, 1) := by decide +kernel
theorem dL_law_692 : decode cL_law 692 = .ok (.iaload, 1) := by decide +kernel
theorem dL_law_693 : decode cL_law 693 = .ok (.aload_n 3, 1) := by decide +kernel
theorem dL_law_694 : decode cL_law 694 = .ok (.invokestatic 100, 3) := by decide +kernel
theorem dL_law_697 : decode cL_law 697 = .ok (.istore 5, 2) := by decide +kernel
theorem dL_law_699 : decode cL_law 699 = .ok (.aload_n 2, 1) := by decide +kernel
theorem dL_law_700 : decode cL_law 700 = .ok (.aload_n 0, 1) := by decide +kernel
theorem dL_law_701 : decode cL_law 701 = .ok (.iload 4, 2) := by decide +kernel
theorem dL_law_703 : decode cL_law 703 = .ok (.iconst 1, 1) := by decide +kernel
theorem dL_law_704 : decode cL_law 704 = .ok (.iadd, 1) := by decide +kernel
theorem dL_law_705 : decode cL_law 705 = .ok (.iaload, 1) := by decide +kernel
theorem dL_law_706 : decode cL_law 706 = .ok (.invokevirtual 102, 3) := by decide +kernel
theorem dL_law_709 : decode cL_law 709 = .ok (.istore 6, 2) := by decide +kernel
theorem dL_law_711 : decode cL_law 711 = .ok (.aload_n 2, 1) := by decide +kernel
theorem dL_law_712 : decode cL_law 712 = .ok (.invokevirtual 69, 3) := by decide +kernel
theorem dL_law_715 : decode cL_law 715 = .ok (.iload 5, 2) := by decide +kernel
theorem dL_law_717 : decode cL_law 717 = .ok (.if_icmp .eq 5, 3) := by decide +kernel
theorem dL_law_720 : decode cL_law 720 = .ok (.iconst 0, 1) := by decide +kernel
theorem dL_law_721 : decode cL_law 721 = .ok (.ireturn, 1) := by decide +kernel
theorem dL_law_722 : decode cL_law 722 = .ok (.iload 5, 2) := by decide +kernel
theorem dL_law_724 : decode cL_law 724 = .ok (.ifCond .ne 15, 3) := by decide +kernel
theorem dL_law_727 : decode cL_law 727 = .ok (.aload_n 3, 1) := by decide +kernel
theorem dL_law_728 : decode cL_law 728 = .ok (.iconst 0, 1) := by decide +kernel
theorem dL_law_729 : decode cL_law 729 = .ok (.laload, 1) := by decide +kernel
theorem dL_law_730 : decode cL_law 730 = .ok (.iload 6, 2) := by decide +kernel
theorem dL_law_732 : decode cL_law 732 = .ok (.i2l, 1) := by decide +kernel
theorem dL_law_733 : decode cL_law 733 = .ok (.lcmp, 1) := by decide +kernel
theorem dL_law_734 : decode cL_law 734 = .ok (.ifCond .eq 5, 3) := by decide +kernel
theorem dL_law_737 : decode cL_law 737 = .ok (.iconst 0, 1) := by decide +kernel
theorem dL_law_738 : decode cL_law 738 = .ok (.ireturn, 1) := by decide +kernel
theorem dL_law_739 : decode cL_law 739 = .ok (.goto 327, 3) := by decide +kernel
theorem dL_law_742 : decode cL_law 742 = .ok (.aload_n 1, 1) := by decide +kernel
theorem dL_law_743 : decode cL_law 743 = .ok (.aload_n 0, 1) := by decide +kernel
theorem dL_law_744 : decode cL_law 744 = .ok (.iload 4, 2) := by decide +kernel
theorem dL_law_746 : decode cL_law 746 = .ok (.iconst 1, 1) := by decide +kernel
theorem dL_law_747 : decode cL_law 747 = .ok (.iadd, 1) := by decide +kernel
theorem dL_law_748 : decode cL_law 748 = .ok (.iaload, 1) := by decide +kernel
theorem dL_law_749 : decode cL_law 749 = .ok (.aload_n 0, 1) := by decide +kernel
theorem dL_law_750 : decode cL_law 750 = .ok (.iload 4, 2) := by decide +kernel
theorem dL_law_752 : decode cL_law 752 = .ok (.iconst 2, 1) := by decide +kernel
theorem dL_law_753 : decode cL_law 753 = .ok (.iadd, 1) := by decide +kernel
theorem dL_law_754 : decode cL_law 754 = .ok (.iaload, 1) := by decide +kernel
theorem dL_law_755 : decode cL_law 755 = .ok (.aload_n 3, 1) := by decide +kernel
theorem dL_law_756 : decode cL_law 756 = .ok (.invokestatic 103, 3) := by decide +kernel
theorem dL_law_759 : decode cL_law 759 = .ok (.istore 5, 2) := by decide +kernel
theorem dL_law_761 : decode cL_law 761 = .ok (.aload_n 2, 1) := by decide +kernel
theorem dL_law_762 : decode cL_law 762 = .ok (.aload_n 0, 1) := by decide +kernel
theorem dL_law_763 : decode cL_law 763 = .ok (.iload 4, 2) := by decide +kernel
theorem dL_law_765 : decode cL_law 765 = .ok (.iconst 1, 1) := by decide +kernel
theorem dL_law_766 : decode cL_law 766 = .ok (.iadd, 1) := by decide +kernel
theorem dL_law_767 : decode cL_law 767 = .ok (.iaload, 1) := by decide +kernel
theorem dL_law_768 : decode cL_law 768 = .ok (.aload_n 0, 1) := by decide +kernel
theorem dL_law_769 : decode cL_law 769 = .ok (.iload 4, 2) := by decide +kernel
theorem dL_law_771 : decode cL_law 771 = .ok (.iconst 2, 1) := by decide +kernel
theorem dL_law_772 : decode cL_law 772 = .ok (.iadd, 1) := by decide +kernel
theorem dL_law_773 : decode cL_law 773 = .ok (.iaload, 1) := by decide +kernel
theorem dL_law_774 : decode cL_law 774 = .ok (.invokevirtual 105, 3) := by decide +kernel
theorem dL_law_777 : decode cL_law 777 = .ok (.istore 6, 2) := by decide +kernel
theorem dL_law_779 : decode cL_law 779 = .ok (.aload_n 2, 1) := by decide +kernel
theorem dL_law_780 : decode cL_law 780 = .ok (.invokevirtual 69, 3) := by decide +kernel
theorem dL_law_783 : decode cL_law 783 = .ok (.iload 5, 2) := by decide +kernel
theorem dL_law_785 : decode cL_law 785 = .ok (.if_icmp .eq 5, 3) := by decide +kernel
theorem dL_law_788 : decode cL_law 788 = .ok (.iconst 0, 1) := by decide +kernel
theorem dL_law_789 : decode cL_law 789 = .ok (.ireturn, 1) := by decide +kernel
theorem dL_law_790 : decode cL_law 790 = .ok (.iload 5, 2) := by decide +kernel
theorem dL_law_792 : decode cL_law 792 = .ok (.ifCond .ne 15, 3) := by decide +kernel
theorem dL_law_795 : decode cL_law 795 = .ok (.aload_n 3, 1) := by decide +kernel
theorem dL_law_796 : decode cL_law 796 = .ok (.iconst 0, 1) := by decide +kernel
theorem dL_law_797 : decode cL_law 797 = .ok (.laload, 1) := by decide +kernel
theorem dL_law_798 : decode cL_law 798 = .ok (.iload 6, 2) := by decide +kernel
theorem dL_law_800 : decode cL_law 800 = .ok (.i2l, 1) := by decide +kernel
theorem dL_law_801 : decode cL_law 801 = .ok (.lcmp, 1) := by decide +kernel
theorem dL_law_802 : decode cL_law 802 = .ok (.ifCond .eq 5, 3) := by decide +kernel
theorem dL_law_805 : decode cL_law 805 = .ok (.iconst 0, 1) := by decide +kernel
theorem dL_law_806 : decode cL_law 806 = .ok (.ireturn, 1) := by decide +kernel
theorem dL_law_807 : decode cL_law 807 = .ok (.goto 259, 3) := by decide +kernel
theorem dL_law_810 : decode cL_law 810 = .ok (.aload_n 1, 1) := by decide +kernel
theorem dL_law_811 : decode cL_law 811 = .ok (.aload_n 0, 1) := by decide +kernel
theorem dL_law_812 : decode cL_law 812 = .ok (.iload 4, 2) := by decide +kernel
theorem dL_law_814 : decode cL_law 814 = .ok (.iconst 1, 1) := by decide +kernel
theorem dL_law_815 : decode cL_law 815 = .ok (.iadd, 1) := by decide +kernel
theorem dL_law_816 : decode cL_law 816 = .ok (.iaload, 1) := by decide +kernel
theorem dL_law_817 : decode cL_law 817 = .ok (.aload_n 3, 1) := by decide +kernel
theorem dL_law_818 : decode cL_law 818 = .ok (.invokestatic 106, 3) := by decide +kernel
theorem dL_law_821 : decode cL_law 821 = .ok (.istore 5, 2) := by decide +kernel
theorem dL_law_823 : decode cL_law 823 = .ok (.aload_n 2, 1) := by decide +kernel
theorem dL_law_824 : decode cL_law 824 = .ok (.aload_n 0, 1) := by decide +kernel
theorem dL_law_825 : decode cL_law 825 = .ok (.iload 4, 2) := by decide +kernel
theorem dL_law_827 : decode cL_law 827 = .ok (.iconst 1, 1) := by decide +kernel
theorem dL_law_828 : decode cL_law 828 = .ok (.iadd, 1) := by decide +kernel
theorem dL_law_829 : decode cL_law 829 = .ok (.iaload, 1) := by decide +kernel
theorem dL_law_830 : decode cL_law 830 = .ok (.invokevirtual 108, 3) := by decide +kernel
theorem dL_law_833 : decode cL_law 833 = .ok (.istore 6, 2) := by decide +kernel
theorem dL_law_835 : decode cL_law 835 = .ok (.aload_n 2, 1) := by decide +kernel
theorem dL_law_836 : decode cL_law 836 = .ok (.invokevirtual 69, 3) := by decide +kernel
theorem dL_law_839 : decode cL_law 839 = .ok (.iload 5, 2) := by decide +kernel
theorem dL_law_841 : decode cL_law 841 = .ok (.if_icmp .eq 5, 3) := by decide +kernel
theorem dL_law_844 : decode cL_law 844 = .ok (.iconst 0, 1) := by decide +kernel
theorem dL_law_845 : decode cL_law 845 = .ok (.ireturn, 1) := by decide +kernel
theorem dL_law_846 : decode cL_law 846 = .ok (.iload 5, 2) := by decide +kernel
theorem dL_law_848 : decode cL_law 848 = .ok (.ifCond .ne 15, 3) := by decide +kernel
theorem dL_law_851 : decode cL_law 851 = .ok (.aload_n 3, 1) := by decide +kernel
theorem dL_law_852 : decode cL_law 852 = .ok (.iconst 0, 1) := by decide +kernel
theorem dL_law_853 : decode cL_law 853 = .ok (.laload, 1) := by decide +kernel
theorem dL_law_854 : decode cL_law 854 = .ok (.iload 6, 2) := by decide +kernel
theorem dL_law_856 : decode cL_law 856 = .ok (.i2l, 1) := by decide +kernel
theorem dL_law_857 : decode cL_law 857 = .ok (.lcmp, 1) := by decide +kernel
theorem dL_law_858 : decode cL_law 858 = .ok (.ifCond .eq 5, 3) := by decide +kernel
theorem dL_law_861 : decode cL_law 861 = .ok (.iconst 0, 1) := by decide +kernel
theorem dL_law_862 : decode cL_law 862 = .ok (.ireturn, 1) := by decide +kernel
theorem dL_law_863 : decode cL_law 863 = .ok (.goto 203, 3) := by decide +kernel
theorem dL_law_866 : decode cL_law 866 = .ok (.aload_n 1, 1) := by decide +kernel
theorem dL_law_867 : decode cL_law 867 = .ok (.aload_n 0, 1) := by decide +kernel
theorem dL_law_868 : decode cL_law 868 = .ok (.iload 4, 2) := by decide +kernel
theorem dL_law_870 : decode cL_law 870 = .ok (.iconst 1, 1) := by decide +kernel
theorem dL_law_871 : decode cL_law 871 = .ok (.iadd, 1) := by decide +kernel
theorem dL_law_872 : decode cL_law 872 = .ok (.iaload, 1) := by decide +kernel
theorem dL_law_873 : decode cL_law 873 = .ok (.aload_n 3, 1) := by decide +kernel
theorem dL_law_874 : decode cL_law 874 = .ok (.invokestatic 109, 3) := by decide +kernel
theorem dL_law_877 : decode cL_law 877 = .ok (.istore 5, 2) := by decide +kernel
theorem dL_law_879 : decode cL_law 879 = .ok (.aload_n 2, 1) := by decide +kernel
theorem dL_law_880 : decode cL_law 880 = .ok (.aload_n 0, 1) := by decide +kernel
theorem dL_law_881 : decode cL_law 881 = .ok (.iload 4, 2) := by decide +kernel
theorem dL_law_883 : decode cL_law 883 = .ok (.iconst 1, 1) := by decide +kernel
theorem dL_law_884 : decode cL_law 884 = .ok (.iadd, 1) := by decide +kernel
theorem dL_law_885 : decode cL_law 885 = .ok (.iaload, 1) := by decide +kernel
theorem dL_law_886 : decode cL_law 886 = .ok (.invokevirtual 111, 3) := by decide +kernel
theorem dL_law_889 : decode cL_law 889 = .ok (.istore 6, 2) := by decide +kernel
theorem dL_law_891 : decode cL_law 891 = .ok (.aload_n 2, 1) := by decide +kernel
theorem dL_law_892 : decode cL_law 892 = .ok (.invokevirtual 69, 3) := by decide +kernel
theorem dL_law_895 : decode cL_law 895 = .ok (.iload 5, 2) := by decide +kernel
theorem dL_law_897 : decode cL_law 897 = .ok (.if_icmp .eq 5, 3) := by decide +kernel
theorem dL_law_900 : decode cL_law 900 = .ok (.iconst 0, 1) := by decide +kernel
theorem dL_law_901 : decode cL_law 901 = .ok (.ireturn, 1) := by decide +kernel
theorem dL_law_902 : decode cL_law 902 = .ok (.iload 5, 2) := by decide +kernel
theorem dL_law_904 : decode cL_law 904 = .ok (.ifCond .ne 15, 3) := by decide +kernel
theorem dL_law_907 : decode cL_law 907 = .ok (.aload_n 3, 1) := by decide +kernel
theorem dL_law_908 : decode cL_law 908 = .ok (.iconst 0, 1) := by decide +kernel
theorem dL_law_909 : decode cL_law 909 = .ok (.laload, 1) := by decide +kernel
theorem dL_law_910 : decode cL_law 910 = .ok (.iload 6, 2) := by decide +kernel
theorem dL_law_912 : decode cL_law 912 = .ok (.i2l, 1) := by decide +kernel
theorem dL_law_913 : decode cL_law 913 = .ok (.lcmp, 1) := by decide +kernel
theorem dL_law_914 : decode cL_law 914 = .ok (.ifCond .eq 5, 3) := by decide +kernel
theorem dL_law_917 : decode cL_law 917 = .ok (.iconst 0, 1) := by decide +kernel
theorem dL_law_918 : decode cL_law 918 = .ok (.ireturn, 1) := by decide +kernel
theorem dL_law_919 : decode cL_law 919 = .ok (.goto 147, 3) := by decide +kernel
theorem dL_law_922 : decode cL_law 922 = .ok (.aload_n 1, 1) := by decide +kernel
theorem dL_law_923 : decode cL_law 923 = .ok (.invokevirtual 112, 3) := by decide +kernel
theorem dL_law_926 : decode cL_law 926 = .ok (.aload_n 2, 1) := by decide +kernel
theorem dL_law_927 : decode cL_law 927 = .ok (.invokevirtual 115, 3) := by decide +kernel
theorem dL_law_930 : decode cL_law 930 = .ok (.if_icmp .eq 136, 3) := by decide +kernel
theorem dL_law_933 : decode cL_law 933 = .ok (.iconst 0, 1) := by decide +kernel
theorem dL_law_934 : decode cL_law 934 = .ok (.ireturn, 1) := by decide +kernel
theorem dL_law_935 : decode cL_law 935 = .ok (.aload_n 1, 1) := by decide +kernel
theorem dL_law_936 : decode cL_law 936 = .ok (.aload_n 0, 1) := by decide +kernel
theorem dL_law_937 : decode cL_law 937 = .ok (.iload 4, 2) := by decide +kernel
theorem dL_law_939 : decode cL_law 939 = .ok (.iconst 1, 1) := by decide +kernel
theorem dL_law_940 : decode cL_law 940 = .ok (.iadd, 1) := by decide +kernel
theorem dL_law_941 : decode cL_law 941 = .ok (.iaload, 1) := by decide +kernel
theorem dL_law_942 : decode cL_law 942 = .ok (.aload_n 3, 1) := by decide +kernel
theorem dL_law_943 : decode cL_law 943 = .ok (.invokestatic 116, 3) := by decide +kernel
theorem dL_law_946 : decode cL_law 946 = .ok (.istore 5, 2) := by decide +kernel
theorem dL_law_948 : decode cL_law 948 = .ok (.aload_n 2, 1) := by decide +kernel
theorem dL_law_949 : decode cL_law 949 = .ok (.aload_n 0, 1) := by decide +kernel
theorem dL_law_950 : decode cL_law 950 = .ok (.iload 4, 2) := by decide +kernel
theorem dL_law_952 : decode cL_law 952 = .ok (.iconst 1, 1) := by decide +kernel
theorem dL_law_953 : decode cL_law 953 = .ok (.iadd, 1) := by decide +kernel
theorem dL_law_954 : decode cL_law 954 = .ok (.iaload, 1) := by decide +kernel
theorem dL_law_955 : decode cL_law 955 = .ok (.invokevirtual 118, 3) := by decide +kernel
theorem dL_law_958 : decode cL_law 958 = .ok (.istore 6, 2) := by decide +kernel
theorem dL_law_960 : decode cL_law 960 = .ok (.aload_n 2, 1) := by decide +kernel
theorem dL_law_961 : decode cL_law 961 = .ok (.invokevirtual 69, 3) := by decide +kernel
theorem dL_law_964 : decode cL_law 964 = .ok (.iload 5, 2) := by decide +kernel
theorem dL_law_966 : decode cL_law 966 = .ok (.if_icmp .eq 5, 3) := by decide +kernel
theorem dL_law_969 : decode cL_law 969 = .ok (.iconst 0, 1) := by decide +kernel
theorem dL_law_970 : decode cL_law 970 = .ok (.ireturn, 1) := by decide +kernel
theorem dL_law_971 : decode cL_law 971 = .ok (.iload 5, 2) := by decide +kernel
theorem dL_law_973 : decode cL_law 973 = .ok (.ifCond .ne 22, 3) := by decide +kernel
theorem dL_law_976 : decode cL_law 976 = .ok (.aload_n 3, 1) := by decide +kernel
theorem dL_law_977 : decode cL_law 977 = .ok (.iconst 0, 1) := by decide +kernel
theorem dL_law_978 : decode cL_law 978 = .ok (.laload, 1) := by decide +kernel
theorem dL_law_979 : decode cL_law 979 = .ok (.iload 6, 2) := by decide +kernel
theorem dL_law_981 : decode cL_law 981 = .ok (.ifCond .eq 7, 3) := by decide +kernel
theorem dL_law_984 : decode cL_law 984 = .ok (.lconst 1, 1) := by decide +kernel
theorem dL_law_985 : decode cL_law 985 = .ok (.goto 4, 3) := by decide +kernel
theorem dL_law_988 : decode cL_law 988 = .ok (.lconst 0, 1) := by decide +kernel
theorem dL_law_989 : decode cL_law 989 = .ok (.lcmp, 1) := by decide +kernel
theorem dL_law_990 : decode cL_law 990 = .ok (.ifCond .eq 5, 3) := by decide +kernel
theorem dL_law_993 : decode cL_law 993 = .ok (.iconst 0, 1) := by decide +kernel
theorem dL_law_994 : decode cL_law 994 = .ok (.ireturn, 1) := by decide +kernel
theorem dL_law_995 : decode cL_law 995 = .ok (.goto 71, 3) := by decide +kernel
theorem dL_law_998 : decode cL_law 998 = .ok (.aload_n 1, 1) := by decide +kernel
theorem dL_law_999 : decode cL_law 999 = .ok (.invokevirtual 119, 3) := by decide +kernel
theorem dL_law_1002 : decode cL_law 1002 = .ok (.aload_n 2, 1) := by decide +kernel
theorem dL_law_1003 : decode cL_law 1003 = .ok (.invokevirtual 122, 3) := by decide +kernel
theorem dL_law_1006 : decode cL_law 1006 = .ok (.if_icmp .eq 60, 3) := by decide +kernel
theorem dL_law_1009 : decode cL_law 1009 = .ok (.iconst 0, 1) := by decide +kernel
theorem dL_law_1010 : decode cL_law 1010 = .ok (.ireturn, 1) := by decide +kernel
theorem dL_law_1011 : decode cL_law 1011 = .ok (.aload_n 1, 1) := by decide +kernel
theorem dL_law_1012 : decode cL_law 1012 = .ok (.invokevirtual 123, 3) := by decide +kernel
theorem dL_law_1015 : decode cL_law 1015 = .ok (.dstore 5, 2) := by decide +kernel
theorem dL_law_1017 : decode cL_law 1017 = .ok (.aload_n 2, 1) := by decide +kernel
theorem dL_law_1018 : decode cL_law 1018 = .ok (.invokevirtual 127, 3) := by decide +kernel
theorem dL_law_1021 : decode cL_law 1021 = .ok (.dstore 7, 2) := by decide +kernel
theorem dL_law_1023 : decode cL_law 1023 = .ok (.dload 5, 2) := by decide +kernel
theorem dL_law_1025 : decode cL_law 1025 = .ok (.dload 7, 2) := by decide +kernel
theorem dL_law_1027 : decode cL_law 1027 = .ok (.dcmp .l, 1) := by decide +kernel
theorem dL_law_1028 : decode cL_law 1028 = .ok (.ifCond .eq 21, 3) := by decide +kernel
theorem dL_law_1031 : decode cL_law 1031 = .ok (.dload 5, 2) := by decide +kernel
theorem dL_law_1033 : decode cL_law 1033 = .ok (.dload 5, 2) := by decide +kernel
theorem dL_law_1035 : decode cL_law 1035 = .ok (.dcmp .l, 1) := by decide +kernel
theorem dL_law_1036 : decode cL_law 1036 = .ok (.ifCond .eq 11, 3) := by decide +kernel
theorem dL_law_1039 : decode cL_law 1039 = .ok (.dload 7, 2) := by decide +kernel
theorem dL_law_1041 : decode cL_law 1041 = .ok (.dload 7, 2) := by decide +kernel
theorem dL_law_1043 : decode cL_law 1043 = .ok (.dcmp .l, 1) := by decide +kernel
theorem dL_law_1044 : decode cL_law 1044 = .ok (.ifCond .ne 5, 3) := by decide +kernel
theorem dL_law_1047 : decode cL_law 1047 = .ok (.iconst 0, 1) := by decide +kernel
theorem dL_law_1048 : decode cL_law 1048 = .ok (.ireturn, 1) := by decide +kernel
theorem dL_law_1049 : decode cL_law 1049 = .ok (.goto 17, 3) := by decide +kernel
theorem dL_law_1052 : decode cL_law 1052 = .ok (.aload_n 1, 1) := by decide +kernel
theorem dL_law_1053 : decode cL_law 1053 = .ok (.invokevirtual 128, 3) := by decide +kernel
theorem dL_law_1056 : decode cL_law 1056 = .ok (.aload_n 2, 1) := by decide +kernel
theorem dL_law_1057 : decode cL_law 1057 = .ok (.invokevirtual 132, 3) := by decide +kernel
theorem dL_law_1060 : decode cL_law 1060 = .ok (.lcmp, 1) := by decide +kernel
theorem dL_law_1061 : decode cL_law 1061 = .ok (.ifCond .eq 5, 3) := by decide +kernel
theorem dL_law_1064 : decode cL_law 1064 = .ok (.iconst 0, 1) := by decide +kernel
theorem dL_law_1065 : decode cL_law 1065 = .ok (.ireturn, 1) := by decide +kernel
theorem dL_law_1066 : decode cL_law 1066 = .ok (.iinc 4 4, 3) := by decide +kernel
theorem dL_law_1069 : decode cL_law 1069 = .ok (.goto (-1046), 3) := by decide +kernel
theorem dL_law_1072 : decode cL_law 1072 = .ok (.iconst 1, 1) := by decide +kernel
theorem dL_law_1073 : decode cL_law 1073 = .ok (.ireturn, 1) := by decide +kernel
abbrev vwCl : List vw_C := [(RX0, TX0, 2), (RX1, TX1, 3), (RX2, TX2, 6), (RX3, TX3, 5), (RX4, TX4, 7), (RX5, TX5, 17)]
end
section
/-! rows on bits, shifts and unsigned numbers, to paste: each family out of a closed proof of our own, whole with what it rests on; each by itself clean at Lean in its own claim (generation 39, form 5). Take a family whole -/
/-! ===== Int32 by its bits: bt x i ===== -/
def bt (x : Int32) (i : Nat) : Bool := x.toBitVec.getLsbD i
theorem b_ext {x y : Int32} (h : ∀ i, i < 32 → bt x i = bt y i) : x = y := Int32.toBitVec_inj.mp (BitVec.eq_of_getLsbD_eq (fun i hi => h i hi))
theorem b_or (x y : Int32) (i : Nat) : bt (x ||| y) i = (bt x i || bt y i) := by unfold bt; rw [Int32.toBitVec_or, BitVec.getLsbD_or]
theorem b_and (x y : Int32) (i : Nat) : bt (x &&& y) i = (bt x i && bt y i) := by unfold bt; rw [Int32.toBitVec_and, BitVec.getLsbD_and]
theorem b_xor (x y : Int32) (i : Nat) : bt (x ^^^ y) i = (bt x i ^^ bt y i) := by unfold bt; rw [Int32.toBitVec_xor, BitVec.getLsbD_xor]
theorem b_big {x : Int32} {i : Nat} (h : 32 ≤ i) : bt x i = false := BitVec.getLsbD_of_ge _ _ h
theorem b_255 (i : Nat) : bt 255 i = decide (i < 8) := by
  rcases Nat.lt_or_ge i 32 with h | h
  · exact (by decide +kernel : ∀ i, i < 32 → bt 255 i = decide (i < 8)) i h
  · rw [b_big h, decide_eq_false (by omega)]
theorem b_65535 (i : Nat) : bt 65535 i = decide (i < 16) := by
  rcases Nat.lt_or_ge i 32 with h | h
  · exact (by decide +kernel : ∀ i, i < 32 → bt 65535 i = decide (i < 16)) i h
  · rw [b_big h, decide_eq_false (by omega)]
theorem b_m1 : ∀ i, i < 32 → bt (-1) i = true := by decide +kernel
theorem b_0 (i : Nat) : bt 0 i = false := BitVec.getLsbD_zero
theorem s_l : ∀ n, n < 32 → ((nI n &&& 31).toBitVec.smod 32).toNat = n := by decide +kernel
theorem s_u : ∀ n, n < 32 → (((nI n).toUInt32 &&& Int32.toUInt32 31).toBitVec % 32).toNat = n := by decide +kernel
theorem b_shl (n : Nat) (hn : n < 32) (x : Int32) {i : Nat} (hi : i < 32) : bt (x <<< (nI n &&& 31)) i = (decide (n ≤ i) && bt x (i - n)) := by
  unfold bt
  rw [Int32.toBitVec_shiftLeft]
  show (x.toBitVec <<< ((nI n &&& 31).toBitVec.smod 32).toNat).getLsbD i = _
  rw [s_l n hn, BitVec.getLsbD_shiftLeft]
  rcases Nat.lt_or_ge i n with h | h
  · simp [h, Nat.not_le.mpr h]
  · simp [hi, h, Nat.not_lt.mpr h]
theorem b_ushr (n : Nat) (hn : n < 32) (x : Int32) (i : Nat) : bt ((x.toUInt32 >>> ((nI n).toUInt32 &&& Int32.toUInt32 31)).toInt32) i = bt x (n + i) := by
  show (x.toUInt32 >>> ((nI n).toUInt32 &&& Int32.toUInt32 31)).toBitVec.getLsbD i = x.toUInt32.toBitVec.getLsbD (n + i)
  rw [UInt32.toBitVec_shiftRight]
  show (x.toUInt32.toBitVec >>> (((nI n).toUInt32 &&& Int32.toUInt32 31).toBitVec % 32).toNat).getLsbD i = _
  rw [s_u n hn, BitVec.getLsbD_ushiftRight]
theorem b_sshr (n : Nat) (hn : n < 32) (x : Int32) {i : Nat} (hi : i < 32) : bt (x >>> (nI n &&& 31)) i = if n + i < 32 then bt x (n + i) else bt x 31 := by
  unfold bt
  rw [Int32.toBitVec_shiftRight]
  show (x.toBitVec.sshiftRight ((nI n &&& 31).toBitVec.smod 32).toNat).getLsbD i = _
  rw [s_l n hn, BitVec.getLsbD_sshiftRight, BitVec.msb_eq_getLsbD_last]
  simp [hi]
theorem b_shl8 (x : Int32) {i : Nat} (hi : i < 32) : bt (x <<< ((8 : Int32) &&& 31)) i = (decide (8 ≤ i) && bt x (i - 8)) := b_shl 8 (by omega) x hi
theorem b_shl16 (x : Int32) {i : Nat} (hi : i < 32) : bt (x <<< ((16 : Int32) &&& 31)) i = (decide (16 ≤ i) && bt x (i - 16)) := b_shl 16 (by omega) x hi
theorem b_shl24 (x : Int32) {i : Nat} (hi : i < 32) : bt (x <<< ((24 : Int32) &&& 31)) i = (decide (24 ≤ i) && bt x (i - 24)) := b_shl 24 (by omega) x hi
theorem b_sshr8 (x : Int32) {i : Nat} (hi : i < 32) : bt (x >>> ((8 : Int32) &&& 31)) i = if 8 + i < 32 then bt x (8 + i) else bt x 31 := b_sshr 8 (by omega) x hi
/-! ===== nI under and, xor, >>>, one bit, 65535 ===== -/
theorem nx_and (a b : Nat) : nI a &&& nI b = nI (a &&& b) := by
  apply Int32.toBitVec_inj.1
  show BitVec.ofNat 32 a &&& BitVec.ofNat 32 b = BitVec.ofNat 32 (a &&& b)
  apply BitVec.eq_of_getLsbD_eq
  intro i hi
  simp [hi]
theorem nx_xor (a b : Nat) : nI a ^^^ nI b = nI (a ^^^ b) := by
  apply Int32.toBitVec_inj.1
  show BitVec.ofNat 32 a ^^^ BitVec.ofNat 32 b = BitVec.ofNat 32 (a ^^^ b)
  apply BitVec.eq_of_getLsbD_eq
  intro i hi
  simp [hi]
theorem nx_cnt : ∀ j : Fin 32, (UInt32.ofNat j.val &&& Int32.toUInt32 31).toNat % 32 = j.val := by decide +kernel
theorem nx_ush {k j : Nat} (hk : k < 65536) (hj : j < 32) : ((nI k).toUInt32 >>> ((nI j).toUInt32 &&& Int32.toUInt32 31)).toInt32 = nI (k >>> j) := by
  have hs : k >>> j ≤ k := by
    rw [Nat.shiftRight_eq_div_pow]
    exact Nat.div_le_self _ _
  have e2 : UInt32.ofNat k >>> (UInt32.ofNat j &&& Int32.toUInt32 31) = UInt32.ofNat (k >>> j) := by
    apply UInt32.toNat_inj.1
    have h1 : (UInt32.ofNat k).toNat = k := Nat.mod_eq_of_lt (by omega)
    have h2 : (UInt32.ofNat (k >>> j)).toNat = k >>> j := Nat.mod_eq_of_lt (by omega)
    rw [UInt32.toNat_shiftRight, nx_cnt ⟨j, hj⟩, h1, h2]
  show (UInt32.ofNat k >>> (UInt32.ofNat j &&& Int32.toUInt32 31)).toInt32 = _
  rw [e2]
  rfl
theorem nx_bit {k j : Nat} (hk : k < 65536) (hj : j < 16) : (((nI k).toUInt32 >>> ((nI j).toUInt32 &&& Int32.toUInt32 31)).toInt32 &&& 1) = 0 ↔ k.testBit j = false := by
  rw [nx_ush hk (by omega)]
  show nI (k >>> j) &&& nI 1 = 0 ↔ _
  rw [nx_and, Nat.and_one_is_mod, ← nI_0, nI_eq (by omega) (by omega), Nat.testBit_eq_decide_div_mod_eq, Nat.shiftRight_eq_div_pow, decide_eq_false_iff_not]
  generalize k / 2 ^ j = z
  omega
theorem nx_mod (k : Nat) : nI k &&& 65535 = nI (k % 65536) := by
  show nI k &&& nI 65535 = _
  rw [nx_and, show (65535 : Nat) = 2 ^ 16 - 1 from rfl, Nat.and_two_pow_sub_one_eq_mod]
theorem nx_m16 {k : Nat} (h : k < 65536) : nI k &&& 65535 = nI k := by rw [nx_mod, Nat.mod_eq_of_lt h]
theorem nx_mask (x : Int32) : ∃ k, k < 65536 ∧ x &&& 65535 = nI k := by
  have e : x = nI x.toBitVec.toNat := by
    apply Int32.toBitVec_inj.1
    show x.toBitVec = BitVec.ofNat 32 x.toBitVec.toNat
    simp
  refine ⟨x.toBitVec.toNat % 65536, Nat.mod_lt _ (by omega), ?_⟩
  rw [← nx_mod, ← e]
/-! ===== Int32 as a set of bits: test, set ===== -/
def nf_M (m : Int32) : Nat := 4294967296 - m.toBitVec.toNat
theorem nf_sh : ∀ l, l < 32 → ((1 : Int32) <<< (nI l &&& 31)).toBitVec = BitVec.twoPow 32 l := by decide +kernel
theorem nf_sl : ∀ l, l < 32 → (((nI l).toUInt32 &&& Int32.toUInt32 31).toBitVec % 32).toNat = l := by decide +kernel
theorem nf_tp : ∀ l, l < 32 → BitVec.twoPow 32 l ≠ 0#32 := by decide +kernel
theorem nf_bit (m : Int32) (l : Nat) (hl : l < 32) : ((m.toUInt32 >>> ((nI l).toUInt32 &&& Int32.toUInt32 31)).toInt32 &&& 1) = 0 ↔ (m &&& ((1 : Int32) <<< (nI l &&& 31))) = 0 := by
  have e : ((m.toUInt32 >>> ((nI l).toUInt32 &&& Int32.toUInt32 31)).toInt32).toBitVec = m.toBitVec >>> l := by
    show m.toBitVec >>> (((nI l).toUInt32 &&& Int32.toUInt32 31).toBitVec % 32) = m.toBitVec >>> l
    rw [BitVec.ushiftRight_eq', nf_sl l hl]
  rw [← Int32.toBitVec_inj, ← Int32.toBitVec_inj, Int32.toBitVec_and, Int32.toBitVec_and, nf_sh l hl, e, BitVec.and_twoPow]
  show (m.toBitVec >>> l &&& 1#32) = 0#32 ↔ _ = 0#32
  rw [BitVec.and_one_eq_setWidth_ofBool_getLsbD, BitVec.getLsbD_ushiftRight, Nat.add_zero]
  cases hb : m.toBitVec.getLsbD l
  · exact ⟨fun _ => by simp, fun _ => by decide⟩
  · exact ⟨fun z => absurd z (by decide), fun z => absurd ((if_pos rfl).symm.trans z) (nf_tp l hl)⟩
theorem nf_gr (m k : Int32) (h : m &&& k = 0) (hk : k ≠ 0) : nf_M (m ||| k) < nf_M m := by
  have hm := m.toBitVec.isLt
  have hm' := (m ||| k).toBitVec.isLt
  have h1 : m.toBitVec.toNat ≤ (m ||| k).toBitVec.toNat := by
    rw [Int32.toBitVec_or, BitVec.toNat_or]
    exact Nat.left_le_or
  have h2 : m.toBitVec.toNat ≠ (m ||| k).toBitVec.toNat := by
    intro e
    have e2 : m = m ||| k := Int32.toBitVec_inj.mp (BitVec.eq_of_toNat_eq e)
    apply hk
    apply Int32.toBitVec_inj.mp
    show k.toBitVec = 0#32
    apply BitVec.eq_of_getLsbD_eq
    intro i hi
    have a : m.toBitVec.getLsbD i = (m.toBitVec.getLsbD i || k.toBitVec.getLsbD i) := by rw [← BitVec.getLsbD_or, ← Int32.toBitVec_or, ← e2]
    have b : (m.toBitVec.getLsbD i && k.toBitVec.getLsbD i) = false := by
      rw [← BitVec.getLsbD_and, ← Int32.toBitVec_and, h]
      exact BitVec.getLsbD_zero
    rw [BitVec.getLsbD_zero]
    revert a b
    cases m.toBitVec.getLsbD i <;> cases k.toBitVec.getLsbD i <;> simp
  unfold nf_M
  omega
/-! ===== a byte read unsigned ===== -/
theorem bp_b (x : Int32) : x.toInt8.toInt32 &&& 255 = x &&& 255 := by
  apply Int32.toBitVec_inj.mp
  rw [Int32.toBitVec_and, Int32.toBitVec_and, Int8.toBitVec_toInt32, Int32.toBitVec_toInt8]
  apply BitVec.eq_of_getLsbD_eq
  intro i hi
  rw [BitVec.getLsbD_and, BitVec.getLsbD_and]
  have hm : ∀ i < 32, 8 ≤ i → (255 : Int32).toBitVec.getLsbD i = false := by decide
  rcases Nat.lt_or_ge i 8 with z | z
  · rw [BitVec.getLsbD_signExtend, BitVec.getLsbD_signExtend, if_pos z, if_pos hi]
    simp only [z, hi, decide_true, Bool.true_and]
  · rw [hm i hi z]; simp
/-! ===== the char cast and 65535 ===== -/
/-! ===== Int64 as a set of bits: test, set, clear ===== -/
theorem ts_nf {x : Bool} (h : ¬ x = false) : x = true := by cases x <;> first | rfl | exact absurd rfl h
theorem ts_nt {x : Bool} (h : ¬ x = true) : x = false := by cases x <;> first | rfl | exact absurd rfl h
theorem ts_bit {w : Int64} {s : UInt64} {j : Nat} (hj : j < 64) (hs : s.toNat = j) : ((w.toUInt64 >>> s).toInt64 &&& 1) = 0 ↔ w.toBitVec.getLsbD j = false := by
  have e : (w.toUInt64 >>> s).toInt64.toBitVec = w.toBitVec >>> j := by
    apply BitVec.eq_of_toNat_eq
    show (w.toUInt64 >>> s).toNat = _
    rw [UInt64.toNat_shiftRight, hs, Nat.mod_eq_of_lt hj, BitVec.toNat_ushiftRight]
    rfl
  rw [← Int64.toBitVec_inj, Int64.toBitVec_and, e]
  show w.toBitVec >>> j &&& 1#64 = 0#64 ↔ _
  constructor
  · intro h
    have t := congrArg (fun x => x.getLsbD 0) h
    simpa using t
  · intro h
    apply BitVec.eq_of_getLsbD_eq
    intro i hi
    cases i with
    | zero => simp [h]
    | succ i => simp
theorem ts_or {w m : Int64} {j : Nat} (hj : j < 64) (hm : m.toBitVec = BitVec.twoPow 64 j) : (w ||| m) = w ↔ w.toBitVec.getLsbD j = true := by
  rw [← Int64.toBitVec_inj, Int64.toBitVec_or, hm]
  constructor
  · intro h
    have t := congrArg (fun x => x.getLsbD j) h
    simp only [BitVec.getLsbD_or, BitVec.getLsbD_twoPow] at t
    simpa [hj] using t.symm
  · intro h
    apply BitVec.eq_of_getLsbD_eq
    intro i hi
    rw [BitVec.getLsbD_or, BitVec.getLsbD_twoPow]
    by_cases e : j = i
    · subst e; rw [h, Bool.true_or]
    · simp [e]
theorem ts_and {w m : Int64} {j : Nat} (hj : j < 64) (hm : m.toBitVec = BitVec.twoPow 64 j) : (w &&& (m ^^^ (-1))) = w ↔ w.toBitVec.getLsbD j = false := by
  have ha : (-1 : Int64).toBitVec = BitVec.allOnes 64 := by decide
  rw [← Int64.toBitVec_inj, Int64.toBitVec_and, Int64.toBitVec_xor, hm, ha]
  constructor
  · intro h
    have t := congrArg (fun x => x.getLsbD j) h
    simp only [BitVec.getLsbD_and, BitVec.getLsbD_xor, BitVec.getLsbD_twoPow, BitVec.getLsbD_allOnes] at t
    simpa [hj] using t.symm
  · intro h
    apply BitVec.eq_of_getLsbD_eq
    intro i hi
    rw [BitVec.getLsbD_and, BitVec.getLsbD_xor, BitVec.getLsbD_twoPow, BitVec.getLsbD_allOnes]
    by_cases e : j = i
    · subst e; rw [h, Bool.false_and]
    · simp [e, hi]
/-! ===== lN n to 2^64: shifts, and, or, masks, one bit ===== -/
theorem wb_tb (n : Nat) : (lN n).toBitVec = BitVec.ofNat 64 n := rfl
theorem wb_inj {a b : Int64} (h : a.toBitVec = b.toBitVec) : a = b := Int64.toBitVec_inj.mp h
theorem wb_tn {n : Nat} (h : n < 2 ^ 64) : (lN n).toBitVec.toNat = n := by rw [wb_tb, BitVec.toNat_ofNat, Nat.mod_eq_of_lt h]
theorem wb_of (x : Int64) : ∃ n, n < 2 ^ 64 ∧ x = lN n := ⟨x.toBitVec.toNat, x.toBitVec.isLt, wb_inj (by rw [wb_tb]; simp)⟩
theorem wb_of32 (x : Int32) : ∃ n, n < 2 ^ 32 ∧ x = nI n := ⟨x.toBitVec.toNat, x.toBitVec.isLt, Int32.toBitVec_inj.mp (by show _ = BitVec.ofNat 32 _; simp)⟩
theorem wb_c : ∀ k, k < 64 → ((nI k).toInt64 &&& 63) = lN k := by decide +kernel
theorem wb_cu : ∀ k, k < 64 → ((nI k).toInt64.toUInt64 &&& Int64.toUInt64 63) = UInt64.ofNat k := by decide +kernel
theorem wb_sm : ∀ k, k < 64 → (BitVec.ofNat 64 k).smod 64 = BitVec.ofNat 64 k := by decide +kernel
theorem wb_pw {a b : Nat} (h : a ≤ b) : 2 ^ b = 2 ^ a * 2 ^ (b - a) := by rw [← Nat.pow_add]; congr 1; omega
theorem wb_lt2 {a b : Nat} (h : a < b) : 2 ^ a < 2 ^ b := Nat.pow_lt_pow_right (by decide) h
theorem wb_mod (n : Nat) : lN n = lN (n % 2 ^ 64) := wb_inj (by rw [wb_tb, wb_tb]; apply BitVec.eq_of_toNat_eq; rw [BitVec.toNat_ofNat, BitVec.toNat_ofNat, Nat.mod_mod])
theorem wb_shr {n k : Nat} (hn : n < 2 ^ 64) (hk : k < 64) : ((lN n).toUInt64 >>> ((nI k).toInt64.toUInt64 &&& Int64.toUInt64 63)).toInt64 = lN (n / 2 ^ k) := by
  rw [wb_cu k hk]
  apply wb_inj
  apply BitVec.eq_of_toNat_eq
  show ((lN n).toUInt64 >>> UInt64.ofNat k).toNat = (BitVec.ofNat 64 _).toNat
  have h1 : (UInt64.ofNat k).toNat = k := by
    show (BitVec.ofNat 64 k).toNat = k
    rw [BitVec.toNat_ofNat, Nat.mod_eq_of_lt (by omega)]
  have h2 : (lN n).toUInt64.toNat = n := wb_tn hn
  rw [UInt64.toNat_shiftRight, h1, h2, Nat.mod_eq_of_lt hk, Nat.shiftRight_eq_div_pow, BitVec.toNat_ofNat, Nat.mod_eq_of_lt (Nat.lt_of_le_of_lt (Nat.div_le_self _ _) hn)]
theorem wb_shl (n : Nat) {k : Nat} (hk : k < 64) : lN n <<< ((nI k).toInt64 &&& 63) = lN (n * 2 ^ k) := by
  rw [wb_c k hk]
  apply wb_inj
  rw [Int64.toBitVec_shiftLeft, wb_tb, wb_tb, wb_tb, wb_sm k hk]
  apply BitVec.eq_of_toNat_eq
  rw [BitVec.shiftLeft_eq', BitVec.toNat_shiftLeft, BitVec.toNat_ofNat, BitVec.toNat_ofNat, BitVec.toNat_ofNat, Nat.mod_eq_of_lt (show k < 2 ^ 64 by omega), Nat.shiftLeft_eq, Nat.mul_mod, Nat.mod_mod, ← Nat.mul_mod]
theorem wb_and {a b : Nat} (ha : a < 2 ^ 64) (hb : b < 2 ^ 64) : lN a &&& lN b = lN (a &&& b) := by
  apply wb_inj
  rw [Int64.toBitVec_and, wb_tb, wb_tb, wb_tb]
  apply BitVec.eq_of_toNat_eq
  rw [BitVec.toNat_and, BitVec.toNat_ofNat, BitVec.toNat_ofNat, BitVec.toNat_ofNat, Nat.mod_eq_of_lt ha, Nat.mod_eq_of_lt hb, Nat.mod_eq_of_lt (Nat.and_lt_two_pow _ hb)]
theorem wb_or {a b : Nat} (ha : a < 2 ^ 64) (hb : b < 2 ^ 64) : lN a ||| lN b = lN (a ||| b) := by
  apply wb_inj
  rw [Int64.toBitVec_or, wb_tb, wb_tb, wb_tb]
  apply BitVec.eq_of_toNat_eq
  rw [BitVec.toNat_or, BitVec.toNat_ofNat, BitVec.toNat_ofNat, BitVec.toNat_ofNat, Nat.mod_eq_of_lt ha, Nat.mod_eq_of_lt hb, Nat.mod_eq_of_lt (Nat.or_lt_two_pow ha hb)]
theorem wb_mask {n k : Nat} (hn : n < 2 ^ 64) (hk : k < 64) : lN n &&& lN (2 ^ k - 1) = lN (n % 2 ^ k) := by
  rw [wb_and hn (by have := wb_lt2 hk; omega), Nat.and_two_pow_sub_one_eq_mod]
theorem wb_a1 {n : Nat} (hn : n < 2 ^ 64) : lN n &&& 1 = lN (n % 2) := wb_mask (k := 1) hn (by decide)
theorem wb_bit {n k : Nat} (hn : n < 2 ^ 64) (hk : k < 64) : ((lN n).toUInt64 >>> ((nI k).toInt64.toUInt64 &&& Int64.toUInt64 63)).toInt64 &&& 1 = lN (n / 2 ^ k % 2) := by
  rw [wb_shr hn hk, wb_a1 (Nat.lt_of_le_of_lt (Nat.div_le_self _ _) hn)]
theorem wb_xor {q k : Nat} (hk : k < 63) (h : 2 ^ k ≤ q) (h2 : q < 2 ^ (k + 1)) : lN q ^^^ lN (2 ^ k) = lN (q - 2 ^ k) := by
  obtain ⟨r, rfl⟩ : ∃ r, q = 2 ^ k + r := ⟨q - 2 ^ k, by omega⟩
  have hr : r < 2 ^ k := by rw [Nat.pow_succ] at h2; omega
  have hx : (2 ^ k + r) ^^^ 2 ^ k = r := by
    apply Nat.eq_of_testBit_eq
    intro i
    rw [Nat.testBit_xor, Nat.testBit_two_pow]
    rcases Nat.lt_trichotomy i k with h | h | h
    · rw [Nat.testBit_two_pow_add_gt h]
      simp [show ¬ k = i by omega]
    · subst h
      rw [Nat.testBit_two_pow_add_eq]
      simp
    · have a1 : 2 ^ (k + 1) ≤ 2 ^ i := Nat.pow_le_pow_right (by decide) h
      rw [Nat.testBit_lt_two_pow (show 2 ^ k + r < 2 ^ i by omega), Nat.testBit_lt_two_pow (show r < 2 ^ i by omega)]
      simp [show ¬ k = i by omega]
  have b1 := wb_lt2 (show k + 1 < 64 by omega)
  have b2 := wb_lt2 (show k < 64 by omega)
  apply wb_inj
  rw [Int64.toBitVec_xor, wb_tb, wb_tb, wb_tb]
  apply BitVec.eq_of_toNat_eq
  rw [BitVec.toNat_xor, BitVec.toNat_ofNat, BitVec.toNat_ofNat, BitVec.toNat_ofNat, Nat.mod_eq_of_lt (by omega : 2 ^ k + r < 2 ^ 64), Nat.mod_eq_of_lt b2, hx, Nat.add_sub_cancel_left, Nat.mod_eq_of_lt (by omega)]
/-! ===== lN: masks, 'or' of parts that don't overlap is a sum ===== -/
theorem u_tn {n : Nat} (h : n < 2 ^ 64) : (UInt64.ofNat n).toNat = n := Nat.mod_eq_of_lt h
theorem g_and {a b c : Nat} (ha : a < 2 ^ 64) (hb : b < 2 ^ 64) (hc : a &&& b = c) : lN a &&& lN b = lN c := by
  subst hc
  have h : UInt64.ofNat a &&& UInt64.ofNat b = UInt64.ofNat (a &&& b) := UInt64.toNat_inj.mp (by rw [UInt64.toNat_and, u_tn ha, u_tn hb, u_tn (Nat.and_lt_two_pow a hb)])
  have h2 := congrArg UInt64.toInt64 h
  exact h2
theorem g_and1 {a : Nat} (ha : a < 2 ^ 64) : lN a &&& 1 = lN (a % 2) := g_and (b := 1) ha (by decide) (Nat.and_two_pow_sub_one_eq_mod a 1)
theorem g_mask {a s p : Nat} (hp : 2 ^ s = p) (hs : s < 64) (ha : a < 2 ^ 64) : lN a &&& lN (p - 1) = lN (a % p) := by
  subst hp
  have := Nat.pow_lt_pow_right (show 1 < 2 by decide) hs
  exact g_and ha (by omega) (Nat.and_two_pow_sub_one_eq_mod a s)
theorem g_or {k p a b : Nat} (hp : 2 ^ k = p) (ha : a < p) (h : b * p + a < 2 ^ 64) : lN (b * p) ||| lN a = lN (b * p + a) := by
  subst hp
  have h1 : b * 2 ^ k ||| a = b * 2 ^ k + a := by rw [← Nat.shiftLeft_eq, Nat.shiftLeft_add_eq_or_of_lt ha]
  have h3 : UInt64.ofNat (b * 2 ^ k) ||| UInt64.ofNat a = UInt64.ofNat (b * 2 ^ k + a) := UInt64.toNat_inj.mp (by rw [UInt64.toNat_or, u_tn (by omega), u_tn (by omega), u_tn h, h1])
  have h2 := congrArg UInt64.toInt64 h3
  exact h2
theorem g_or' {k p a b : Nat} (hp : 2 ^ k = p) (ha : a < p) (h : a + b * p < 2 ^ 64) : lN a ||| lN (b * p) = lN (a + b * p) := by
  rw [Int64.or_comm, g_or hp ha (by omega), Nat.add_comm]
theorem g_ushr {a k p : Nat} {y : UInt64} (hy : y = UInt64.ofNat k) (hk : k < 64) (hp : 2 ^ k = p) (ha : a < 2 ^ 64) : ((lN a).toUInt64 >>> y).toInt64 = lN (a / p) := by
  subst hy hp
  have h : UInt64.ofNat a >>> UInt64.ofNat k = UInt64.ofNat (a / 2 ^ k) := UInt64.toNat_inj.mp (by rw [UInt64.toNat_shiftRight, u_tn ha, u_tn (by omega), u_tn (Nat.lt_of_le_of_lt (Nat.div_le_self _ _) ha), Nat.mod_eq_of_lt hk, Nat.shiftRight_eq_div_pow])
  have h2 := congrArg UInt64.toInt64 h
  exact h2
theorem g_shl {a k p : Nat} {y : Int64} (hy : y.toBitVec.smod 64 = BitVec.ofNat 64 k) (hk : k < 64) (hp : 2 ^ k = p) (ha : a < 2 ^ 64) : lN a <<< y = lN (a * p) := by
  subst hp
  apply Int64.toBitVec_inj.mp
  rw [Int64.toBitVec_shiftLeft, hy]
  apply BitVec.eq_of_toNat_eq
  have hb : (lN a).toBitVec.toNat = a := Nat.mod_eq_of_lt ha
  have hk' : (BitVec.ofNat 64 k).toNat = k := Nat.mod_eq_of_lt (by omega)
  have h : ((lN a).toBitVec <<< BitVec.ofNat 64 k).toNat = (a * 2 ^ k) % 2 ^ 64 := by simp only [BitVec.shiftLeft_eq', BitVec.toNat_shiftLeft, hb, hk', Nat.shiftLeft_eq]
  exact h
/-! ===== lN to 2^62 under >> and >>> ===== -/
theorem pf_lI {a : Nat} (h : a < 2 ^ 63) : (lN a).toInt = (a : Int) := lg_ofNat_toInt h
theorem pf_shr {a d : Nat} {D : Int64} (hD : (D.toBitVec.smod 64).toNat = d) (h : a < 2 ^ 62) : lN a >>> D = lN (a / 2 ^ d) := by
  have hd : a / 2 ^ d ≤ a := Nat.div_le_self _ _
  apply Int64.toInt_inj.mp
  have e : (lN a >>> D).toInt = (lN a).toInt >>> d := by
    rw [← hD]
    exact BitVec.toInt_sshiftRight ..
  rw [e, Int.shiftRight_eq_div_pow, pf_lI (by omega), pf_lI (by omega)]
  rfl
theorem pf_ushr {a d : Nat} {D : UInt64} (hD : D.toNat % 64 = d) (h : a < 2 ^ 62) : ((lN a).toUInt64 >>> D).toInt64 = lN (a / 2 ^ d) := by
  have hd : a / 2 ^ d ≤ a := Nat.div_le_self _ _
  have e : (lN a).toUInt64 >>> D = UInt64.ofNat (a / 2 ^ d) := UInt64.toNat_inj.mp (by
    rw [UInt64.toNat_shiftRight, hD, Nat.shiftRight_eq_div_pow, UInt64.toNat_ofNat']
    show (UInt64.ofNat a).toNat / 2 ^ d = _
    rw [UInt64.toNat_ofNat', Nat.mod_eq_of_lt (by omega), Nat.mod_eq_of_lt (by omega)])
  rw [e]
  rfl
theorem pf_andw (x : Int64) : ∃ m, m < 2 ^ 32 ∧ x &&& 4294967295 = lN m := ⟨x.toBitVec.toNat % 2 ^ 32, Nat.mod_lt _ (by decide), Int64.toBitVec_inj.mp (BitVec.eq_of_toNat_eq (by
  show (x.toBitVec &&& 4294967295#64).toNat = (BitVec.ofNat 64 (x.toBitVec.toNat % 2 ^ 32)).toNat
  rw [BitVec.toNat_and, show (4294967295#64).toNat = 2 ^ 32 - 1 from by decide, Nat.and_two_pow_sub_one_eq_mod, BitVec.toNat_ofNat]
  omega))⟩
/-! ===== Int64 as an unsigned number: uN x ===== -/
def uN (x : Int64) : Nat := x.toUInt64.toNat
theorem uN_lt (x : Int64) : uN x < 18446744073709551616 := x.toUInt64.toNat_lt
theorem uN_inj {x y : Int64} (h : uN x = uN y) : x = y := congrArg UInt64.toInt64 (UInt64.toNat_inj.mp h)
theorem uN_add (x y : Int64) : uN (x + y) = (uN x + uN y) % 18446744073709551616 := by
  show (x.toUInt64 + y.toUInt64).toNat = _
  exact UInt64.toNat_add _ _
theorem uN_mul (x y : Int64) : uN (x * y) = (uN x * uN y) % 18446744073709551616 := by
  show (x.toUInt64 * y.toUInt64).toNat = _
  exact UInt64.toNat_mul _ _
theorem uN_shl (x : Int64) : uN (x <<< ((1 : Int32).toInt64 &&& 63)) = (2 * uN x) % 18446744073709551616 := by
  have h : (((1 : Int32).toInt64 &&& 63).toBitVec.smod 64).toNat = 1 := by decide
  show (x.toBitVec <<< (((1 : Int32).toInt64 &&& 63).toBitVec.smod 64).toNat).toNat = _
  rw [h, BitVec.toNat_shiftLeft, Nat.shiftLeft_eq, Nat.mul_comm]
  rfl
theorem uN_shr (x : Int64) (s : UInt64) : uN (x.toUInt64 >>> s).toInt64 = uN x / 2 ^ (s.toNat % 64) := by
  show (x.toUInt64 >>> s).toNat = _
  rw [UInt64.toNat_shiftRight, Nat.shiftRight_eq_div_pow]
  rfl
theorem uN_s32 (x : Int64) : uN (x.toUInt64 >>> ((32 : Int32).toInt64.toUInt64 &&& Int64.toUInt64 63)).toInt64 = uN x / 4294967296 := by
  have h : ((32 : Int32).toInt64.toUInt64 &&& Int64.toUInt64 63).toNat % 64 = 32 := by decide
  rw [uN_shr, h]
theorem uN_s63 (x : Int64) : uN (x.toUInt64 >>> ((63 : Int32).toInt64.toUInt64 &&& Int64.toUInt64 63)).toInt64 = uN x / 9223372036854775808 := by
  have h : ((63 : Int32).toInt64.toUInt64 &&& Int64.toUInt64 63).toNat % 64 = 63 := by decide
  rw [uN_shr, h]
theorem uN_lo (x : Int64) : uN (x &&& 4294967295) = uN x % 4294967296 := by
  show (x.toUInt64 &&& Int64.toUInt64 4294967295).toNat = _
  rw [UInt64.toNat_and]
  exact Nat.and_two_pow_sub_one_eq_mod _ 32
theorem uN_bit (x : Int64) : (x &&& 1) = 0 ↔ uN x % 2 = 0 := by
  have h : uN (x &&& 1) = uN x % 2 := by
    show (x.toUInt64 &&& Int64.toUInt64 1).toNat = _
    rw [UInt64.toNat_and]
    exact Nat.and_two_pow_sub_one_eq_mod _ 1
  rw [← h]
  exact ⟨fun z => by rw [z]; rfl, fun z => uN_inj (z.trans rfl)⟩
theorem uN_or {x y : Int64} (hy : uN y < 2) : uN ((x <<< ((1 : Int32).toInt64 &&& 63)) ||| y) = (2 * uN x) % 18446744073709551616 + uN y := by
  have h1 : uN ((x <<< ((1 : Int32).toInt64 &&& 63)) ||| y) = uN (x <<< ((1 : Int32).toInt64 &&& 63)) ||| uN y := UInt64.toNat_or _ _
  have h2 : (2 * uN x) % 18446744073709551616 = 2 ^ 1 * (uN x % 9223372036854775808) := by omega
  rw [h1, uN_shl, h2]
  exact (Nat.two_pow_add_eq_or_of_lt (i := 1) hy _).symm
theorem nat_xor {a : Nat} (h : a < 18446744073709551616) : a ^^^ 2 ^ 63 = (a + 9223372036854775808) % 18446744073709551616 := by
  have h1 : (a ^^^ 2 ^ 63) % 2 ^ 63 = a % 2 ^ 63 := by rw [Nat.xor_mod_two_pow, Nat.mod_self, Nat.xor_zero]
  have h2 : (a ^^^ 2 ^ 63) / 2 ^ 63 = (a / 2 ^ 63) ^^^ 1 := by rw [Nat.xor_div_two_pow, Nat.div_self (Nat.two_pow_pos 63)]
  have h3 : a / 2 ^ 63 = 0 ∨ a / 2 ^ 63 = 1 := by omega
  generalize a ^^^ 2 ^ 63 = t at h1 h2
  rcases h3 with h3 | h3
  · rw [h3] at h2
    have h2 : t / 2 ^ 63 = 1 := h2
    omega
  · rw [h3] at h2
    have h2 : t / 2 ^ 63 = 0 := h2
    omega
theorem uN_xor (x : Int64) : uN (x ^^^ (-9223372036854775808)) = (uN x + 9223372036854775808) % 18446744073709551616 := by
  rw [← nat_xor (uN_lt x)]
  exact UInt64.toNat_xor _ _
theorem uN_int (x : Int64) : x.toInt = if 2 * uN x < 18446744073709551616 then (uN x : Int) else (uN x : Int) - 18446744073709551616 := BitVec.toInt_eq_toNat_cond _
theorem uN_le (x y : Int64) : (x ^^^ (-9223372036854775808)) ≤ (y ^^^ (-9223372036854775808)) ↔ uN x ≤ uN y := by
  have hx := uN_lt x
  have hy := uN_lt y
  rw [Int64.le_iff_toInt_le, uN_int, uN_int, uN_xor, uN_xor]
  omega
theorem uN_sk (x : Int64) {k : Nat} (hk : k < 64) : uN (x.toUInt64 >>> ((nI k).toInt64.toUInt64 &&& Int64.toUInt64 63)).toInt64 = uN x / 2 ^ k := by
  have h : ((nI k).toInt64.toUInt64 &&& Int64.toUInt64 63).toNat % 64 = k := by
    rw [nI_l (by omega), UInt64.toNat_and]
    have e : (lN k).toUInt64.toNat = k % 2 ^ 64 := rfl
    have e2 : (Int64.toUInt64 63).toNat = 2 ^ 6 - 1 := by decide
    rw [e, e2, Nat.and_two_pow_sub_one_eq_mod]
    omega
  rw [uN_shr, h]
/-! ===== unsigned comparison by xor with the least ===== -/
theorem lN_bv (n : Nat) : (lN n).toBitVec = BitVec.ofNat 64 n := rfl
theorem lN_nat {n : Nat} (h : n < 2 ^ 64) : (lN n).toBitVec.toNat = n := by rw [lN_bv, BitVec.toNat_ofNat]; exact Nat.mod_eq_of_lt h
theorem lN_xor (a b : Nat) : lN a ^^^ lN b = lN (a ^^^ b) := by
  apply Int64.toBitVec_inj.mp; rw [Int64.toBitVec_xor, lN_bv, lN_bv, lN_bv]; apply BitVec.eq_of_getLsbD_eq; intro i hi; simp [BitVec.getLsbD_ofNat, Nat.testBit_xor, hi]
theorem lN_ti {m : Nat} (h : m < 2 ^ 64) : (lN m).toInt = if m < 2 ^ 63 then (m : Int) else (m : Int) - 2 ^ 64 := by
  have c := BitVec.toInt_eq_toNat_cond (lN m).toBitVec
  rw [lN_nat h] at c
  show (lN m).toBitVec.toInt = _
  rw [c]
  split <;> split <;> omega
theorem xor63 {x : Nat} (h : x < 2 ^ 63) : x ^^^ 2 ^ 63 = 2 ^ 63 + x := by
  apply Nat.eq_of_testBit_eq
  intro i
  rw [Nat.testBit_xor, Nat.testBit_two_pow]
  rcases Nat.lt_trichotomy i 63 with z | z | z
  · rw [Nat.testBit_two_pow_add_gt z, decide_eq_false (by omega)]; simp
  · subst z; rw [Nat.testBit_two_pow_add_eq]; simp
  · have hp : 2 ^ 64 ≤ 2 ^ i := Nat.pow_le_pow_right (by decide) z
    rw [Nat.testBit_lt_two_pow (show x < 2 ^ i by omega), Nat.testBit_lt_two_pow (show 2 ^ 63 + x < 2 ^ i by omega), decide_eq_false (by omega)]; rfl
theorem xorS {a : Nat} (h : a < 2 ^ 64) : (lN a ^^^ (-9223372036854775808)).toInt = (a : Int) - 2 ^ 63 := by
  rw [show (-9223372036854775808 : Int64) = lN (2 ^ 63) from by decide +kernel, lN_xor]
  rcases Nat.lt_or_ge a (2 ^ 63) with z | z
  · rw [xor63 z, lN_ti (by omega), if_neg (by omega)]; omega
  · obtain ⟨x, rfl⟩ : ∃ x, a = 2 ^ 63 + x := ⟨a - 2 ^ 63, by omega⟩
    rw [← xor63 (by omega), Nat.xor_assoc, Nat.xor_self, Nat.xor_zero, lN_ti (by omega), if_pos (by omega), xor63 (by omega)]; omega
theorem ultL {a b : Nat} (ha : a < 2 ^ 64) (hb : b < 2 ^ 64) : ((lN b ^^^ (-9223372036854775808)) ≤ (lN a ^^^ (-9223372036854775808))) ↔ b ≤ a := by
  rw [Int64.le_iff_toInt_le, xorS ha, xorS hb]; omega
/-! ===== Int64 masks of n low bits ===== -/
theorem cr_bits (W U M : BitVec 64) : ((W &&& U) &&& (U &&& (M ^^^ BitVec.allOnes 64))) = 0#64 ↔ (W &&& U) &&& M = W &&& U := by
  constructor
  · intro h
    apply BitVec.eq_of_getLsbD_eq
    intro i hi
    have e := congrArg (fun x => BitVec.getLsbD x i) h
    simp only [BitVec.getLsbD_and, BitVec.getLsbD_xor, BitVec.getLsbD_allOnes, BitVec.getLsbD_zero, hi, decide_true] at e ⊢
    revert e
    cases W.getLsbD i <;> cases U.getLsbD i <;> cases M.getLsbD i <;> decide
  · intro h
    apply BitVec.eq_of_getLsbD_eq
    intro i hi
    have e := congrArg (fun x => BitVec.getLsbD x i) h
    simp only [BitVec.getLsbD_and, BitVec.getLsbD_xor, BitVec.getLsbD_allOnes, BitVec.getLsbD_zero, hi, decide_true] at e ⊢
    revert e
    cases W.getLsbD i <;> cases U.getLsbD i <;> cases M.getLsbD i <;> decide
theorem cr_mask (w U m : Int64) (n : Nat) (hm : m.toBitVec.toNat = 2 ^ n - 1) : ((w &&& U) &&& (U &&& (m ^^^ (-1)))) = 0 ↔ (w &&& U).toBitVec.toNat < 2 ^ n := by
  have e0 : (-1 : Int64).toBitVec = BitVec.allOnes 64 := by decide
  have z0 : (0 : Int64).toBitVec = 0#64 := by decide
  rw [← Int64.toBitVec_inj, z0, Int64.toBitVec_and, Int64.toBitVec_and, Int64.toBitVec_and, Int64.toBitVec_xor, e0, cr_bits]
  generalize w.toBitVec &&& U.toBitVec = T
  rw [← BitVec.toNat_inj, BitVec.toNat_and, hm, Nat.and_two_pow_sub_one_eq_mod]
  constructor
  · intro h
    have t := Nat.mod_lt T.toNat (Nat.two_pow_pos n)
    rw [h] at t
    exact t
  · exact Nat.mod_eq_of_lt
theorem cr_shr (t : Int64) (x : UInt64) (n : Nat) (hx : x.toNat % 64 = n) : (t.toUInt64 >>> x).toInt64 = 0 ↔ t.toBitVec.toNat < 2 ^ n := by
  rw [← Int64.toBitVec_inj, ← BitVec.toNat_inj]
  show (t.toUInt64 >>> x).toNat = 0 ↔ t.toUInt64.toNat < 2 ^ n
  rw [UInt64.toNat_shiftRight, hx, Nat.shiftRight_eq_div_pow]
  constructor
  · intro h
    have d : t.toUInt64.toNat / 2 ^ n < 1 := by
      rw [h]
      decide
    have e := (Nat.div_lt_iff_lt_mul (Nat.two_pow_pos n)).mp d
    rw [Nat.one_mul] at e
    exact e
  · exact Nat.div_eq_of_lt
theorem cr_amt (s : Int64) : ∃ n, n < 64 ∧ s &&& 63 = lN n ∧ (s.toUInt64 &&& Int64.toUInt64 63).toNat % 64 = n := by
  have e : (s.toUInt64 &&& Int64.toUInt64 63).toNat = s.toUInt64.toNat % 2 ^ 6 := by
    rw [UInt64.toNat_and, show (Int64.toUInt64 63).toNat = 2 ^ 6 - 1 from by decide, Nat.and_two_pow_sub_one_eq_mod]
  refine ⟨s.toUInt64.toNat % 2 ^ 6, by omega, ?_, by omega⟩
  rw [← Int64.toBitVec_inj, ← BitVec.toNat_inj]
  show (s.toUInt64 &&& Int64.toUInt64 63).toNat = (BitVec.ofNat 64 (s.toUInt64.toNat % 2 ^ 6)).toNat
  rw [e, BitVec.toNat_ofNat]
  omega
/-! plain facts on numbers and arrays, to paste: each family by itself; over the kit's rows on nI and upd -/
/-! ===== order of ints, in all its forms, and through longs ===== -/
theorem fa_lt (a b : Int32) : a < b ↔ a.toInt < b.toInt := Int32.lt_iff_toInt_lt
theorem fa_le (a b : Int32) : a ≤ b ↔ a.toInt ≤ b.toInt := Int32.le_iff_toInt_le
theorem fa_eq (a b : Int32) : a = b ↔ a.toInt = b.toInt := Int32.toInt_inj.symm
theorem fa_lt64 (a b : Int64) : a < b ↔ a.toInt < b.toInt := Int64.lt_iff_toInt_lt
theorem fa_le64 (a b : Int64) : a ≤ b ↔ a.toInt ≤ b.toInt := Int64.le_iff_toInt_le
theorem fa_eq64 (a b : Int64) : a = b ↔ a.toInt = b.toInt := Int64.toInt_inj.symm
/-- a comparison of two ints taken as longs -/
theorem fa_wide_lt (a b : Int32) : a.toInt64 < b.toInt64 ↔ a < b := by rw [fa_lt64, fa_lt, Int32.toInt_toInt64, Int32.toInt_toInt64]
theorem fa_wide_le (a b : Int32) : a.toInt64 ≤ b.toInt64 ↔ a ≤ b := by rw [fa_le64, fa_le, Int32.toInt_toInt64, Int32.toInt_toInt64]
theorem fa_wide_eq (a b : Int32) : a.toInt64 = b.toInt64 ↔ a = b := by rw [fa_eq64, fa_eq, Int32.toInt_toInt64, Int32.toInt_toInt64]
/-- one strict comparison gives all the others -/
theorem fa_of_lt {a b : Int32} (h : a < b) : a ≤ b ∧ ¬ b ≤ a ∧ ¬ b < a ∧ a ≠ b ∧ b ≠ a := by
  rw [fa_lt] at h
  refine ⟨?_, ?_, ?_, ?_, ?_⟩
  · rw [fa_le]; omega
  · rw [fa_le]; omega
  · rw [fa_lt]; omega
  · intro e; rw [fa_eq] at e; omega
  · intro e; rw [fa_eq] at e; omega
theorem fa_of_nlt {a b : Int32} (h : ¬ a < b) : b ≤ a := by
  rw [fa_lt] at h
  rw [fa_le]
  omega
theorem fa_of_nle {a b : Int32} (h : ¬ a ≤ b) : b < a := by
  rw [fa_le] at h
  rw [fa_lt]
  omega
theorem fa_le_ne {a b : Int32} (h : a ≤ b) (h2 : a ≠ b) : a < b := by
  rw [fa_le] at h
  rw [fa_lt]
  have h3 : a.toInt ≠ b.toInt := fun e => h2 ((fa_eq a b).mpr e)
  omega
theorem fa_three (a b : Int32) : a < b ∨ a = b ∨ b < a := by
  rw [fa_lt, fa_lt, fa_eq]
  omega
theorem fa_trans {a b c : Int32} (h : a < b) (h2 : b ≤ c) : a < c := by
  rw [fa_lt] at *
  rw [fa_le] at h2
  omega
/-! ===== small literals as numbers ===== -/
theorem fa_lit (n : Nat) : (OfNat.ofNat n : Int32) = nI n := rfl
theorem fa_litL (n : Nat) : (OfNat.ofNat n : Int64) = lN n := rfl
/-! ===== bits of a number: 'or', masks, one bit ===== -/
theorem fa_and (a b : Nat) : nI a &&& nI b = nI (a &&& b) := by
  apply Int32.toBitVec_inj.1
  show BitVec.ofNat 32 a &&& BitVec.ofNat 32 b = BitVec.ofNat 32 (a &&& b)
  apply BitVec.eq_of_getLsbD_eq
  intro i hi
  simp [hi]
theorem fa_or (a b : Nat) : nI a ||| nI b = nI (a ||| b) := by
  apply Int32.toBitVec_inj.1
  show BitVec.ofNat 32 a ||| BitVec.ofNat 32 b = BitVec.ofNat 32 (a ||| b)
  apply BitVec.eq_of_getLsbD_eq
  intro i hi
  simp [hi]
/-- a remainder by a power of two, as a mask -/
theorem fa_mask (n k : Nat) : nI n &&& nI (2 ^ k - 1) = nI (n % 2 ^ k) := by rw [fa_and, Nat.and_two_pow_sub_one_eq_mod]
/-- 'or' of a high part and a low one that don't meet is their sum -/
theorem fa_or_sum {a k : Nat} (b : Nat) (h : a < 2 ^ k) : nI (2 ^ k * b) ||| nI a = nI (2 ^ k * b + a) := by rw [fa_or, Nat.two_pow_add_eq_or_of_lt h]
/-- one bit, by 'and' with a power of two -/
theorem fa_bit {n j : Nat} (hj : j < 31) : nI n &&& nI (2 ^ j) = 0 ↔ n.testBit j = false := by
  have h2 : (2 : Nat) ^ j < 2 ^ 31 := Nat.pow_lt_pow_right (by decide) hj
  have hle : n &&& 2 ^ j ≤ 2 ^ j := Nat.and_le_right
  have e : n &&& 2 ^ j = 0 ↔ n.testBit j = false := by
    constructor
    · intro h
      have h1 : (n &&& 2 ^ j).testBit j = false := by rw [h]; simp
      rw [Nat.testBit_and] at h1
      first | simpa using h1 | simpa [Nat.testBit_two_pow_self] using h1 | simpa [Nat.testBit_two_pow] using h1
    · intro h
      apply Nat.eq_of_testBit_eq
      intro i
      rw [Nat.testBit_and]
      by_cases hi : j = i
      · subst hi; simp [h]
      · first | (simp [Nat.testBit_two_pow, hi]; done) | (simp [Nat.testBit_two_pow_of_ne hi]; done)
  rw [fa_and]
  constructor
  · intro h
    apply e.mp
    rcases Nat.eq_zero_or_pos (n &&& 2 ^ j) with z | z
    · exact z
    · exact absurd h (nI_ne0 z (Nat.lt_of_le_of_lt hle h2))
  · intro h
    rw [e.mpr h]; exact nI_0
/-- a remainder by a power of two of a number that isn't negative, as Java divides -/
theorem fa_rem {a k : Nat} (ha : a < 2 ^ 31) (hk : k < 31) : nI a - nI a / nI (2 ^ k) * nI (2 ^ k) = nI (a % 2 ^ k) := pk_rem ha (Nat.two_pow_pos k) (Nat.pow_lt_pow_right (by decide) hk)
/-! ===== cuts to a byte, a short ===== -/
theorem fa_byte_xor (x y : Int32) : (x ^^^ y).toInt8 = x.toInt8 ^^^ y.toInt8 := by
  apply Int8.toBitVec_inj.1
  apply BitVec.eq_of_getLsbD_eq
  intro i hi
  first | (simp [hi]; done) | (simp [hi, BitVec.getLsbD_setWidth, BitVec.getLsbD_signExtend]; done)
theorem fa_short_xor (x y : Int32) : (x ^^^ y).toInt16 = x.toInt16 ^^^ y.toInt16 := by
  apply Int16.toBitVec_inj.1
  apply BitVec.eq_of_getLsbD_eq
  intro i hi
  first | (simp [hi]; done) | (simp [hi, BitVec.getLsbD_setWidth, BitVec.getLsbD_signExtend]; done)
/-- the cut to a byte sees the low byte alone -/
theorem fa_byte_low (x : Int32) : (x &&& 255).toInt8 = x.toInt8 := by
  apply Int8.toBitVec_inj.1
  apply BitVec.eq_of_getLsbD_eq
  intro i hi
  have h2 : (255 : Int32).toBitVec.getLsbD i = true := by
    have : ∀ j : Fin 8, (255 : Int32).toBitVec.getLsbD j.val = true := by decide +kernel
    exact this ⟨i, hi⟩
  have h4 : (x &&& 255).toBitVec.getLsbD i = x.toBitVec.getLsbD i := by
    show (x.toBitVec &&& (255 : Int32).toBitVec).getLsbD i = _
    rw [BitVec.getLsbD_and, h2, Bool.and_true]
  have h3 : i < 32 := by omega
  first
    | (show (((x &&& 255).toBitVec).signExtend 8).getLsbD i = (x.toBitVec.signExtend 8).getLsbD i; rw [BitVec.getLsbD_signExtend, BitVec.getLsbD_signExtend, if_pos h3, if_pos h3, h4])
    | (show (((x &&& 255).toBitVec).setWidth 8).getLsbD i = (x.toBitVec.setWidth 8).getLsbD i; rw [BitVec.getLsbD_setWidth, BitVec.getLsbD_setWidth, h4])
    | (simp [hi, h3, h4]; done)
theorem fa_short_low (x : Int32) : (x &&& 65535).toInt16 = x.toInt16 := by
  apply Int16.toBitVec_inj.1
  apply BitVec.eq_of_getLsbD_eq
  intro i hi
  have h2 : (65535 : Int32).toBitVec.getLsbD i = true := by
    have : ∀ j : Fin 16, (65535 : Int32).toBitVec.getLsbD j.val = true := by decide +kernel
    exact this ⟨i, hi⟩
  have h4 : (x &&& 65535).toBitVec.getLsbD i = x.toBitVec.getLsbD i := by
    show (x.toBitVec &&& (65535 : Int32).toBitVec).getLsbD i = _
    rw [BitVec.getLsbD_and, h2, Bool.and_true]
  have h3 : i < 32 := by omega
  first
    | (show (((x &&& 65535).toBitVec).signExtend 16).getLsbD i = (x.toBitVec.signExtend 16).getLsbD i; rw [BitVec.getLsbD_signExtend, BitVec.getLsbD_signExtend, if_pos h3, if_pos h3, h4])
    | (show (((x &&& 65535).toBitVec).setWidth 16).getLsbD i = (x.toBitVec.setWidth 16).getLsbD i; rw [BitVec.getLsbD_setWidth, BitVec.getLsbD_setWidth, h4])
    | (simp [hi, h3, h4]; done)
/-- a small number is its own byte, its own short -/
theorem fa_byte_small {n : Nat} (h : n < 128) : (nI n).toInt8.toInt32 = nI n := by
  have : ∀ j : Fin 128, (nI j.val).toInt8.toInt32 = nI j.val := by decide +kernel
  exact this ⟨n, h⟩
/-! ===== absolute difference ===== -/
theorem fa_absdiff {a b : Nat} (ha : a < 2 ^ 31) (hb : b < 2 ^ 31) : (if nI a < nI b then nI b - nI a else nI a - nI b) = nI (if a < b then b - a else a - b) := by
  by_cases h : a < b
  · rw [if_pos (nI_lt h hb), if_pos h]
    exact pk_sub (Nat.le_of_lt h)
  · rw [if_neg (nI_nlt (Nat.le_of_not_lt h) ha), if_neg h]
    exact pk_sub (Nat.le_of_not_lt h)
/-! ===== an array behind i stores, a conditional store, a row copied ===== -/
/-- f where k < i, what stood there else -/
def fa_fill {α : Type} (f g : Nat → α) (i : Nat) : Nat → α := fun k => if k < i then f k else g k
theorem fa_fill_0 {α : Type} (f g : Nat → α) : fa_fill f g 0 = g := funext fun k => if_neg (Nat.not_lt_zero k)
theorem fa_fill_in {α : Type} {f g : Nat → α} {i k : Nat} (h : k < i) : fa_fill f g i k = f k := if_pos h
theorem fa_fill_out {α : Type} {f g : Nat → α} {i k : Nat} (h : i ≤ k) : fa_fill f g i k = g k := if_neg (Nat.not_lt.mpr h)
theorem fa_fill_succ (f g : Nat → Int32) (i : Nat) : upd (fa_fill f g i) i (f i) = fa_fill f g (i + 1) := by
  funext k
  by_cases e : k = i
  · subst e
    rw [pk_us]
    exact (if_pos (Nat.lt_succ_self k)).symm
  · rw [pk_un e]
    by_cases h : k < i
    · rw [fa_fill_in h, fa_fill_in (Nat.lt_succ_of_lt h)]
    · rw [fa_fill_out (Nat.le_of_not_lt h), fa_fill_out (by omega)]
/-- a store that changes nothing -/
theorem fa_upd_same {f : Nat → Int32} {i : Nat} {x : Int32} (h : f i = x) : upd f i x = f := by
  funext k
  by_cases e : k = i
  · subst e
    rw [pk_us, h]
  · rw [pk_un e]
/-- a store under a condition, told as one -/
theorem fa_upd_if (c : Prop) [Decidable c] (f : Nat → Int32) (i : Nat) (x : Int32) : (if c then upd f i x else f) = upd f i (if c then x else f i) := by
  by_cases h : c
  · rw [if_pos h, if_pos h]
  · rw [if_neg h, if_neg h, fa_upd_same rfl]
/-- two stores at one place, at two -/
theorem fa_upd_twice (f : Nat → Int32) (i : Nat) (x y : Int32) : upd (upd f i x) i y = upd f i y := by
  funext k
  by_cases e : k = i
  · subst e
    rw [pk_us, pk_us]
  · rw [pk_un e, pk_un e, pk_un e]
theorem fa_upd_swap (f : Nat → Int32) {i j : Nat} (h : i ≠ j) (x y : Int32) : upd (upd f i x) j y = upd (upd f j y) i x := by
  funext k
  by_cases e : k = i
  · subst e
    rw [pk_un h, pk_us, pk_us]
  · by_cases e2 : k = j
    · subst e2
      rw [pk_us, pk_un e, pk_us]
    · rw [pk_un e2, pk_un e, pk_un e, pk_un e2]
/-! ===== the first index with a property; a count ===== -/
/-- the first k < n with p k, n if there is none -/
def fa_first (p : Nat → Bool) : Nat → Nat
  | 0 => 0
  | n + 1 => if fa_first p n < n then fa_first p n else if p n then n else n + 1
theorem fa_first_le (p : Nat → Bool) : ∀ n, fa_first p n ≤ n
  | 0 => Nat.le_refl 0
  | n + 1 => by
    have ih := fa_first_le p n
    unfold fa_first
    split
    · omega
    · split
      · omega
      · omega
theorem fa_first_no (p : Nat → Bool) : ∀ n k, k < fa_first p n → p k = false
  | 0, k, h => absurd h (Nat.not_lt_zero k)
  | n + 1, k, h => by
    have ih := fa_first_no p n
    have hl := fa_first_le p n
    unfold fa_first at h
    split at h
    · exact ih k h
    · rename_i h1
      split at h
      · exact ih k (by omega)
      · rename_i h2
        by_cases e : k = n
        · subst e
          exact Bool.eq_false_iff.mpr h2
        · exact ih k (by omega)
theorem fa_first_yes (p : Nat → Bool) : ∀ n, fa_first p n < n → p (fa_first p n) = true
  | 0, h => absurd h (Nat.not_lt_zero _)
  | n + 1, h => by
    have ih := fa_first_yes p n
    have hl := fa_first_le p n
    unfold fa_first at h ⊢
    split at h
    · rename_i h1
      rw [if_pos h1]
      exact ih h1
    · rename_i h1
      rw [if_neg h1]
      split at h
      · rename_i h2
        rw [if_pos h2]
        exact h2
      · omega
/-- how many k < n have p k -/
def fa_cnt (p : Nat → Bool) : Nat → Nat
  | 0 => 0
  | n + 1 => fa_cnt p n + if p n then 1 else 0
theorem fa_cnt_le (p : Nat → Bool) : ∀ n, fa_cnt p n ≤ n
  | 0 => Nat.le_refl 0
  | n + 1 => by
    have ih := fa_cnt_le p n
    unfold fa_cnt
    split
    · omega
    · omega
theorem fa_cnt_yes {p : Nat → Bool} {n : Nat} (h : p n = true) : fa_cnt p (n + 1) = fa_cnt p n + 1 := by rw [fa_cnt, if_pos h]
theorem fa_cnt_no {p : Nat → Bool} {n : Nat} (h : p n = false) : fa_cnt p (n + 1) = fa_cnt p n := by rw [fa_cnt, if_neg (by rw [h]; decide)]; rfl
theorem fa_cnt_cong {p q : Nat → Bool} : ∀ {n : Nat}, (∀ k, k < n → p k = q k) → fa_cnt p n = fa_cnt q n
  | 0, _ => rfl
  | n + 1, h => by rw [fa_cnt, fa_cnt, fa_cnt_cong (fun k hk => h k (Nat.lt_succ_of_lt hk)), h n (Nat.lt_succ_self n)]
/-! ===== an answer carried into a post; a branch on a boolean answer ===== -/
theorem fa_post {α : Type} {P : α → Prop} {x y : α} (h : x = y) (hp : P y) : P x := h ▸ hp
theorem fa_post2 {α β : Type} {P : α → β → Prop} {x y : α} {u v : β} (h : x = y) (h2 : u = v) (hp : P y v) : P x u := h ▸ h2 ▸ hp
theorem fa_bool {r : Int32} {b : Bool} (h : r = if b then 1 else 0) : (r = 0 ↔ b = false) ∧ (¬ r = 0 ↔ b = true) := by
  subst h
  cases b
  · exact ⟨⟨fun _ => rfl, fun _ => rfl⟩, ⟨fun h => absurd rfl h, fun h => absurd h (by decide)⟩⟩
  · exact ⟨⟨fun h => absurd h (by decide), fun h => absurd h (by decide)⟩, ⟨fun _ => rfl, fun _ => by decide⟩⟩
/-- a boolean's narrowing changes nothing -/
theorem fa_bool_and {r : Int32} (h : r = 0 ∨ r = 1) : r &&& 1 = r := by
  rcases h with rfl | rfl
  · decide
  · decide
theorem fa_bool_prop {c : Prop} [Decidable c] {r : Int32} (h : r = if c then 1 else 0) : (r = 0 ↔ ¬ c) ∧ (¬ r = 0 ↔ c) := by
  subst h
  by_cases hc : c
  · rw [if_pos hc]
    exact ⟨⟨fun h => absurd h (by decide), fun h => absurd hc h⟩, ⟨fun _ => hc, fun _ => by decide⟩⟩
  · rw [if_neg hc]
    exact ⟨⟨fun _ => hc, fun _ => rfl⟩, ⟨fun h => absurd rfl h, fun h => absurd h hc⟩⟩
/-! plain facts to paste, each family by itself; over the kit's nI, lN and upd -/
/-! ===== drawers: more things than places ===== -/
theorem fb_holes : ∀ (m n : Nat) (f : Nat → Nat), (∀ i, i < n → f i < m) → (∀ i j, i < j → j < n → f i ≠ f j) → n ≤ m := by
  intro m
  induction m with
  | zero =>
    intro n f h1 _
    rcases Nat.eq_zero_or_pos n with h | h
    · omega
    · exact absurd (h1 0 h) (Nat.not_lt_zero _)
  | succ m ih =>
    intro n f h1 h2
    by_cases hx : ∃ i, i < n ∧ f i = m
    · obtain ⟨a, ha, hfa⟩ := hx
      have hg := ih (n - 1) (fun i => if i < a then f i else f (i + 1)) (by
        intro i hi
        by_cases q : i < a
        · simp only [if_pos q]
          have b1 := h1 i (by omega)
          have b2 := h2 i a q ha
          omega
        · simp only [if_neg q]
          have b1 := h1 (i + 1) (by omega)
          have b2 := h2 a (i + 1) (by omega) (by omega)
          omega) (by
        intro i j hij hj
        by_cases q : i < a
        · by_cases r : j < a
          · simp only [if_pos q, if_pos r]
            exact h2 i j hij (by omega)
          · simp only [if_pos q, if_neg r]
            exact h2 i (j + 1) (by omega) (by omega)
        · have r : ¬ j < a := by omega
          simp only [if_neg q, if_neg r]
          exact h2 (i + 1) (j + 1) (by omega) (by omega))
      omega
    · have hg := ih n f (fun i hi => by
        have b1 := h1 i hi
        have b2 : f i ≠ m := fun e => hx ⟨i, hi, e⟩
        omega) h2
      omega
/-- two of them in one place -/
theorem fb_twice {m n : Nat} {f : Nat → Nat} (h : ∀ i, i < n → f i < m) (hm : m < n) : ∃ i j, i < j ∧ j < n ∧ f i = f j := by
  refine Classical.byContradiction fun hx => ?_
  have := fb_holes m n f h (fun i j hij hj e => hx ⟨i, j, hij, hj, e⟩)
  omega
/-- as many as places, none twice: each place is taken -/
theorem fb_onto {n : Nat} {f : Nat → Nat} (h : ∀ i, i < n → f i < n) (h2 : ∀ i j, i < j → j < n → f i ≠ f j) {y : Nat} (hy : y < n) : ∃ i, i < n ∧ f i = y := by
  refine Classical.byContradiction fun hx => ?_
  have hne : ∀ i, i < n → f i ≠ y := fun i hi e => hx ⟨i, hi, e⟩
  have := fb_holes (n - 1) n (fun i => if f i < y then f i else f i - 1) (by
    intro i hi
    have b1 := h i hi
    have b2 := hne i hi
    by_cases q : f i < y
    · simp only [if_pos q]; omega
    · simp only [if_neg q]; omega) (by
    intro i j hij hj
    have b1 := hne i (by omega)
    have b2 := hne j hj
    have b3 := h2 i j hij hj
    by_cases q : f i < y
    · by_cases r : f j < y
      · simp only [if_pos q, if_pos r]; exact b3
      · simp only [if_pos q, if_neg r]; omega
    · by_cases r : f j < y
      · simp only [if_neg q, if_pos r]; omega
      · simp only [if_neg q, if_neg r]; omega)
  omega
/-! ===== how many places have a property ===== -/
def fb_ct (p : Nat → Bool) : Nat → Nat
  | 0 => 0
  | n + 1 => fb_ct p n + (if p n then 1 else 0)
theorem fb_ct_succ (p : Nat → Bool) (n : Nat) : fb_ct p (n + 1) = fb_ct p n + (if p n then 1 else 0) := rfl
theorem fb_ct_le (p : Nat → Bool) : ∀ n, fb_ct p n ≤ n
  | 0 => Nat.le_refl _
  | n + 1 => by
    have h := fb_ct_le p n
    rw [fb_ct_succ]
    split <;> omega
theorem fb_ct_step (p : Nat → Bool) (m : Nat) : ∀ n, fb_ct p m ≤ fb_ct p (m + n)
  | 0 => Nat.le_refl _
  | n + 1 => by
    have h := fb_ct_step p m n
    show fb_ct p m ≤ fb_ct p (m + n + 1)
    rw [fb_ct_succ]
    omega
theorem fb_ct_mono (p : Nat → Bool) {m n : Nat} (h : m ≤ n) : fb_ct p m ≤ fb_ct p n := by
  have := fb_ct_step p m (n - m)
  rwa [Nat.add_sub_cancel' h] at this
theorem fb_ct_cong {p q : Nat → Bool} : ∀ {n : Nat}, (∀ k, k < n → p k = q k) → fb_ct p n = fb_ct q n
  | 0, _ => rfl
  | n + 1, h => by
    rw [fb_ct_succ, fb_ct_succ, fb_ct_cong (fun k hk => h k (by omega)), h n (by omega)]
/-- one place changed -/
theorem fb_ct_out (p : Nat → Bool) (b : Bool) {i n : Nat} (h : n ≤ i) : fb_ct (fun k => if k = i then b else p k) n = fb_ct p n :=
  fb_ct_cong fun k hk => if_neg (by omega)
theorem fb_ct_upd (p : Nat → Bool) (b : Bool) {i : Nat} : ∀ {n : Nat}, i < n → fb_ct (fun k => if k = i then b else p k) n + (if p i then 1 else 0) = fb_ct p n + (if b then 1 else 0)
  | 0, h => absurd h (Nat.not_lt_zero i)
  | n + 1, h => by
    rw [fb_ct_succ, fb_ct_succ]
    rcases Nat.lt_or_ge i n with q | q
    · have := fb_ct_upd p b q
      have e : (if n = i then b else p n) = p n := if_neg (by omega)
      rw [e]
      omega
    · have e : i = n := by omega
      subst e
      rw [fb_ct_out p b (Nat.le_refl _)]
      simp only [if_true]
      omega
theorem fb_ct_sub {p q : Nat → Bool} : ∀ {n : Nat}, (∀ k, k < n → p k = true → q k = true) → fb_ct p n ≤ fb_ct q n
  | 0, _ => Nat.le_refl _
  | n + 1, h => by
    have h1 := fb_ct_sub (n := n) (p := p) (q := q) (fun k hk => h k (by omega))
    have h2 := h n (by omega)
    rw [fb_ct_succ, fb_ct_succ]
    cases hp : p n <;> cases hq : q n <;> simp_all <;> omega
theorem fb_ct_or {p q : Nat → Bool} : ∀ {n : Nat}, (∀ k, k < n → ¬ (p k = true ∧ q k = true)) → fb_ct (fun k => p k || q k) n = fb_ct p n + fb_ct q n
  | 0, _ => rfl
  | n + 1, h => by
    have h1 := fb_ct_or (n := n) (p := p) (q := q) (fun k hk => h k (by omega))
    have h2 := h n (by omega)
    rw [fb_ct_succ, fb_ct_succ, fb_ct_succ, h1]
    cases hp : p n <;> cases hq : q n <;> simp_all <;> omega
theorem fb_ct_not (p : Nat → Bool) : ∀ n, fb_ct p n + fb_ct (fun k => !p k) n = n
  | 0 => rfl
  | n + 1 => by
    have h := fb_ct_not p n
    rw [fb_ct_succ, fb_ct_succ]
    cases p n <;> simp <;> omega
theorem fb_ct_split (p : Nat → Bool) (m : Nat) : ∀ n, fb_ct p (m + n) = fb_ct p m + fb_ct (fun k => p (m + k)) n
  | 0 => rfl
  | n + 1 => by
    have h := fb_ct_split p m n
    show fb_ct p (m + n + 1) = _
    rw [fb_ct_succ, fb_ct_succ, h, Nat.add_assoc]
theorem fb_ct_zero {p : Nat → Bool} : ∀ {n : Nat}, fb_ct p n = 0 ↔ ∀ k, k < n → p k = false
  | 0 => ⟨fun _ k hk => absurd hk (Nat.not_lt_zero k), fun _ => rfl⟩
  | n + 1 => by
    have h := fb_ct_zero (p := p) (n := n)
    rw [fb_ct_succ]
    constructor
    · intro e k hk
      have e1 : fb_ct p n = 0 := by omega
      rcases Nat.lt_or_ge k n with q | q
      · exact h.mp e1 k q
      · have ek : k = n := by omega
        subst ek
        cases hp : p k
        · rfl
        · simp [hp] at e
    · intro a
      rw [h.mpr (fun k hk => a k (by omega)), a n (by omega)]
      rfl
theorem fb_ct_pos {p : Nat → Bool} {n : Nat} : 0 < fb_ct p n ↔ ∃ k, k < n ∧ p k = true := by
  constructor
  · intro h
    refine Classical.byContradiction fun hx => ?_
    have := fb_ct_zero.mpr (fun k hk => by
      cases hp : p k
      · rfl
      · exact absurd ⟨k, hk, hp⟩ hx : ∀ k, k < n → p k = false)
    omega
  · rintro ⟨k, hk, hp⟩
    rcases Nat.eq_zero_or_pos (fb_ct p n) with e | e
    · have := fb_ct_zero.mp e k hk
      rw [this] at hp
      cases hp
    · exact e
theorem fb_ct_all {p : Nat → Bool} {n : Nat} : fb_ct p n = n ↔ ∀ k, k < n → p k = true := by
  have h := fb_ct_not p n
  constructor
  · intro e k hk
    have z : fb_ct (fun k => !p k) n = 0 := by omega
    have := fb_ct_zero.mp z k hk
    cases hp : p k
    · simp [hp] at this
    · rfl
  · intro a
    have z : fb_ct (fun k => !p k) n = 0 := fb_ct_zero.mpr (fun k hk => by simp [a k hk])
    omega
/-- the k-th place with the property -/
theorem fb_ct_kth {p : Nat → Bool} {k : Nat} : ∀ {n : Nat}, k < fb_ct p n → ∃ i, i < n ∧ p i = true ∧ fb_ct p i = k
  | 0, h => absurd h (Nat.not_lt_zero k)
  | n + 1, h => by
    rcases Nat.lt_or_ge k (fb_ct p n) with q | q
    · obtain ⟨i, h1, h2⟩ := fb_ct_kth q
      exact ⟨i, by omega, h2⟩
    · rw [fb_ct_succ] at h
      cases hp : p n
      · simp [hp] at h; omega
      · simp [hp] at h
        exact ⟨n, by omega, hp, by omega⟩
theorem fb_ct_kth_one {p : Nat → Bool} {i j : Nat} (hi : p i = true) (hj : p j = true) (e : fb_ct p i = fb_ct p j) : i = j := by
  have key : ∀ a b : Nat, a < b → p a = true → fb_ct p a < fb_ct p b := by
    intro a b hab ha
    have h := fb_ct_mono p (show a + 1 ≤ b from hab)
    rw [fb_ct_succ, ha] at h
    simp at h
    omega
  rcases Nat.lt_trichotomy i j with q | q | q
  · have := key i j q hi; omega
  · exact q
  · have := key j i q hj; omega
/-! ===== sums over a range: one place changed, parts, bounds ===== -/
def fb_sm (f : Nat → Nat) : Nat → Nat
  | 0 => 0
  | n + 1 => fb_sm f n + f n
theorem fb_sm_succ (f : Nat → Nat) (n : Nat) : fb_sm f (n + 1) = fb_sm f n + f n := rfl
theorem fb_sm_cong {f g : Nat → Nat} : ∀ {n : Nat}, (∀ k, k < n → f k = g k) → fb_sm f n = fb_sm g n
  | 0, _ => rfl
  | n + 1, h => by rw [fb_sm_succ, fb_sm_succ, fb_sm_cong (fun k hk => h k (by omega)), h n (by omega)]
theorem fb_sm_out (f : Nat → Nat) (v : Nat) {i n : Nat} (h : n ≤ i) : fb_sm (fun k => if k = i then v else f k) n = fb_sm f n :=
  fb_sm_cong fun k hk => if_neg (by omega)
theorem fb_sm_upd (f : Nat → Nat) (v : Nat) {i : Nat} : ∀ {n : Nat}, i < n → fb_sm (fun k => if k = i then v else f k) n + f i = fb_sm f n + v
  | 0, h => absurd h (Nat.not_lt_zero i)
  | n + 1, h => by
    rw [fb_sm_succ, fb_sm_succ]
    rcases Nat.lt_or_ge i n with q | q
    · have := fb_sm_upd f v q
      have e : (if n = i then v else f n) = f n := if_neg (by omega)
      rw [e]
      omega
    · have e : i = n := by omega
      subst e
      rw [fb_sm_out f v (Nat.le_refl _)]
      simp only [if_true]
      omega
theorem fb_sm_add (f g : Nat → Nat) : ∀ n, fb_sm (fun k => f k + g k) n = fb_sm f n + fb_sm g n
  | 0 => rfl
  | n + 1 => by
    have h := fb_sm_add f g n
    rw [fb_sm_succ, fb_sm_succ, fb_sm_succ, h]
    omega
theorem fb_sm_le {f g : Nat → Nat} : ∀ {n : Nat}, (∀ k, k < n → f k ≤ g k) → fb_sm f n ≤ fb_sm g n
  | 0, _ => Nat.le_refl _
  | n + 1, h => by
    have h1 := fb_sm_le (n := n) (f := f) (g := g) (fun k hk => h k (by omega))
    have h2 := h n (by omega)
    rw [fb_sm_succ, fb_sm_succ]
    omega
theorem fb_sm_const (c : Nat) : ∀ n, fb_sm (fun _ => c) n = n * c
  | 0 => by rw [Nat.zero_mul]; rfl
  | n + 1 => by rw [fb_sm_succ, fb_sm_const c n, Nat.succ_mul]
theorem fb_sm_bound {f : Nat → Nat} {c n : Nat} (h : ∀ k, k < n → f k ≤ c) : fb_sm f n ≤ n * c := by
  rw [← fb_sm_const c n]
  exact fb_sm_le h
theorem fb_sm_mono (f : Nat → Nat) (m : Nat) : ∀ n, fb_sm f m ≤ fb_sm f (m + n)
  | 0 => Nat.le_refl _
  | n + 1 => by
    have h := fb_sm_mono f m n
    show fb_sm f m ≤ fb_sm f (m + n + 1)
    rw [fb_sm_succ]
    omega
theorem fb_sm_part (f : Nat → Nat) {i n : Nat} (h : i < n) : fb_sm f i + f i ≤ fb_sm f n := by
  have := fb_sm_mono f (i + 1) (n - (i + 1))
  rw [fb_sm_succ, show i + 1 + (n - (i + 1)) = n by omega] at this
  exact this
theorem fb_sm_split (f : Nat → Nat) (m : Nat) : ∀ n, fb_sm f (m + n) = fb_sm f m + fb_sm (fun k => f (m + k)) n
  | 0 => rfl
  | n + 1 => by
    have h := fb_sm_split f m n
    show fb_sm f (m + n + 1) = _
    rw [fb_sm_succ, fb_sm_succ, h, Nat.add_assoc]
theorem fb_sm_zero {f : Nat → Nat} {n : Nat} (h : fb_sm f n = 0) : ∀ k, k < n → f k = 0 := fun k hk => by
  have := fb_sm_part f hk
  omega
/-- the same over whole numbers -/
def fb_si (f : Nat → Int) : Nat → Int
  | 0 => 0
  | n + 1 => fb_si f n + f n
theorem fb_si_succ (f : Nat → Int) (n : Nat) : fb_si f (n + 1) = fb_si f n + f n := rfl
theorem fb_si_cong {f g : Nat → Int} : ∀ {n : Nat}, (∀ k, k < n → f k = g k) → fb_si f n = fb_si g n
  | 0, _ => rfl
  | n + 1, h => by rw [fb_si_succ, fb_si_succ, fb_si_cong (fun k hk => h k (by omega)), h n (by omega)]
theorem fb_si_out (f : Nat → Int) (v : Int) {i n : Nat} (h : n ≤ i) : fb_si (fun k => if k = i then v else f k) n = fb_si f n :=
  fb_si_cong fun k hk => if_neg (by omega)
theorem fb_si_upd (f : Nat → Int) (v : Int) {i : Nat} : ∀ {n : Nat}, i < n → fb_si (fun k => if k = i then v else f k) n = fb_si f n - f i + v
  | 0, h => absurd h (Nat.not_lt_zero i)
  | n + 1, h => by
    rw [fb_si_succ, fb_si_succ]
    rcases Nat.lt_or_ge i n with q | q
    · have := fb_si_upd f v q
      have e : (if n = i then v else f n) = f n := if_neg (by omega)
      rw [e]
      omega
    · have e : i = n := by omega
      subst e
      rw [fb_si_out f v (Nat.le_refl _)]
      simp only [if_true]
      omega
theorem fb_si_add (f g : Nat → Int) : ∀ n, fb_si (fun k => f k + g k) n = fb_si f n + fb_si g n
  | 0 => rfl
  | n + 1 => by
    have h := fb_si_add f g n
    rw [fb_si_succ, fb_si_succ, fb_si_succ, h]
    omega
theorem fb_si_sub (f g : Nat → Int) : ∀ n, fb_si (fun k => f k - g k) n = fb_si f n - fb_si g n
  | 0 => rfl
  | n + 1 => by
    have h := fb_si_sub f g n
    rw [fb_si_succ, fb_si_succ, fb_si_succ, h]
    omega
theorem fb_si_mul (c : Int) (f : Nat → Int) : ∀ n, fb_si (fun k => c * f k) n = c * fb_si f n
  | 0 => (Int.mul_zero c).symm
  | n + 1 => by
    have h := fb_si_mul c f n
    rw [fb_si_succ, fb_si_succ, h, Int.mul_add]
theorem fb_si_split (f : Nat → Int) (m : Nat) : ∀ n, fb_si f (m + n) = fb_si f m + fb_si (fun k => f (m + k)) n
  | 0 => (Int.add_zero _).symm
  | n + 1 => by
    have h := fb_si_split f m n
    show fb_si f (m + n + 1) = _
    rw [fb_si_succ, fb_si_succ, h, Int.add_assoc]
theorem fb_si_nat (f : Nat → Nat) : ∀ n, fb_si (fun k => (f k : Int)) n = (fb_sm f n : Int)
  | 0 => rfl
  | n + 1 => by
    have h := fb_si_nat f n
    rw [fb_si_succ, fb_sm_succ, h]
    omega
theorem fb_si_bound {f : Nat → Int} {c : Int} (hc : 0 ≤ c) : ∀ {n : Nat}, (∀ k, k < n → -c ≤ f k ∧ f k ≤ c) → -(n * c) ≤ fb_si f n ∧ fb_si f n ≤ n * c
  | 0, _ => by simp [fb_si]
  | n + 1, h => by
    have h1 := fb_si_bound (n := n) (f := f) hc (fun k hk => h k (by omega))
    have h2 := h n (by omega)
    have e : ((n + 1 : Nat) : Int) * c = n * c + c := by rw [Int.natCast_add, Int.add_mul]; simp
    rw [fb_si_succ, e]
    omega
/-! ===== bits of a long that isn't negative ===== -/
theorem fb_andL (a b : Nat) : lN a &&& lN b = lN (a &&& b) := by
  apply Int64.toBitVec_inj.1
  show BitVec.ofNat 64 a &&& BitVec.ofNat 64 b = BitVec.ofNat 64 (a &&& b)
  apply BitVec.eq_of_getLsbD_eq
  intro i hi
  simp [hi]
theorem fb_orL (a b : Nat) : lN a ||| lN b = lN (a ||| b) := by
  apply Int64.toBitVec_inj.1
  show BitVec.ofNat 64 a ||| BitVec.ofNat 64 b = BitVec.ofNat 64 (a ||| b)
  apply BitVec.eq_of_getLsbD_eq
  intro i hi
  simp [hi]
theorem fb_xorL (a b : Nat) : lN a ^^^ lN b = lN (a ^^^ b) := by
  apply Int64.toBitVec_inj.1
  show BitVec.ofNat 64 a ^^^ BitVec.ofNat 64 b = BitVec.ofNat 64 (a ^^^ b)
  apply BitVec.eq_of_getLsbD_eq
  intro i hi
  simp [hi]
theorem fb_xorI (a b : Nat) : nI a ^^^ nI b = nI (a ^^^ b) := by
  apply Int32.toBitVec_inj.1
  show BitVec.ofNat 32 a ^^^ BitVec.ofNat 32 b = BitVec.ofNat 32 (a ^^^ b)
  apply BitVec.eq_of_getLsbD_eq
  intro i hi
  simp [hi]
theorem fb_maskL (n k : Nat) : lN n &&& lN (2 ^ k - 1) = lN (n % 2 ^ k) := by rw [fb_andL, Nat.and_two_pow_sub_one_eq_mod]
theorem fb_or_sumL {a k : Nat} (b : Nat) (h : a < 2 ^ k) : lN (2 ^ k * b) ||| lN a = lN (2 ^ k * b + a) := by rw [fb_orL, Nat.two_pow_add_eq_or_of_lt h]
theorem fb_lN_inj {a b : Nat} (ha : a < 2 ^ 63) (hb : b < 2 ^ 63) : lN a = lN b ↔ a = b := by
  constructor
  · intro h
    have h1 : (BitVec.ofNat 64 a).toNat = (BitVec.ofNat 64 b).toNat := congrArg (fun x : Int64 => x.toBitVec.toNat) h
    rw [BitVec.toNat_ofNat, BitVec.toNat_ofNat, Nat.mod_eq_of_lt (by omega), Nat.mod_eq_of_lt (by omega)] at h1
    exact h1
  · rintro rfl; rfl
theorem fb_bit_nat (n j : Nat) : n &&& 2 ^ j = 0 ↔ n.testBit j = false := by
  constructor
  · intro h
    have h1 : (n &&& 2 ^ j).testBit j = false := by rw [h]; simp
    rw [Nat.testBit_and] at h1
    simpa using h1
  · intro h
    apply Nat.eq_of_testBit_eq
    intro i
    rw [Nat.testBit_and]
    by_cases hi : j = i
    · subst hi; simp [h]
    · first | (simp [Nat.testBit_two_pow, hi]; done) | (simp [Nat.testBit_two_pow_of_ne hi]; done)
/-- one bit of a long -/
theorem fb_bitL {n j : Nat} (hj : j < 63) : lN n &&& lN (2 ^ j) = 0 ↔ n.testBit j = false := by
  have h2 : (2 : Nat) ^ j < 2 ^ 63 := Nat.pow_lt_pow_right (by decide) hj
  have hle : n &&& 2 ^ j ≤ 2 ^ j := Nat.and_le_right
  rw [fb_andL, ← fb_bit_nat, show (0 : Int64) = lN 0 from rfl]
  exact fb_lN_inj (by omega) (by decide)
/-- a bit set, a bit taken off -/
theorem fb_bit_set (n j i : Nat) : (n ||| 2 ^ j).testBit i = (n.testBit i || decide (i = j)) := by
  rw [Nat.testBit_or]
  by_cases h : j = i
  · subst h; simp
  · have h2 : ¬ i = j := fun e => h e.symm
    first | (simp [Nat.testBit_two_pow, h, h2]; done) | (simp [Nat.testBit_two_pow_of_ne h, h2]; done)
theorem fb_bit_flip (n j i : Nat) : (n ^^^ 2 ^ j).testBit i = (n.testBit i ^^ decide (i = j)) := by
  rw [Nat.testBit_xor]
  by_cases h : j = i
  · subst h; simp
  · have h2 : ¬ i = j := fun e => h e.symm
    first | (simp [Nat.testBit_two_pow, h, h2]; done) | (simp [Nat.testBit_two_pow_of_ne h, h2]; done)
/-! ===== a stretch of an array written over by a function ===== -/
def fb_put {α : Type} (f g : Nat → α) (a n : Nat) : Nat → α := fun k => if a ≤ k ∧ k < a + n then g (k - a) else f k
theorem fb_put_0 {α : Type} (f g : Nat → α) (a : Nat) : fb_put f g a 0 = f := funext fun k => if_neg (by omega)
theorem fb_put_in {α : Type} {f g : Nat → α} {a n k : Nat} (h1 : a ≤ k) (h2 : k < a + n) : fb_put f g a n k = g (k - a) := if_pos ⟨h1, h2⟩
theorem fb_put_out {α : Type} {f g : Nat → α} {a n k : Nat} (h : k < a ∨ a + n ≤ k) : fb_put f g a n k = f k := if_neg (by omega)
theorem fb_put_succ (f g : Nat → Int32) (a n : Nat) : upd (fb_put f g a n) (a + n) (g n) = fb_put f g a (n + 1) := by
  funext k
  by_cases h : k = a + n
  · subst h
    simp [upd, fb_put]
  · by_cases h1 : a ≤ k ∧ k < a + n
    · have h2 : a ≤ k ∧ k < a + (n + 1) := by omega
      simp only [upd, fb_put, if_neg h, if_pos h1, if_pos h2]
    · have h2 : ¬ (a ≤ k ∧ k < a + (n + 1)) := by omega
      simp only [upd, fb_put, if_neg h, if_neg h1, if_neg h2]
/-- .. from the far end down -/
theorem fb_put_down (f g : Nat → Int32) {a n m : Nat} (h : m < n) : upd (fb_put f (fun k => g (k + (m + 1))) (a + (m + 1)) (n - (m + 1))) (a + m) (g m) = fb_put f (fun k => g (k + m)) (a + m) (n - m) := by
  funext k
  by_cases h0 : k = a + m
  · subst h0
    simp only [upd, if_true]
    rw [fb_put_in (by omega) (by omega)]
    exact congrArg g (by omega)
  · simp only [upd, if_neg h0]
    by_cases h1 : a + (m + 1) ≤ k ∧ k < a + (m + 1) + (n - (m + 1))
    · rw [fb_put_in h1.1 h1.2, fb_put_in (by omega) (by omega)]
      exact congrArg g (by omega)
    · rw [fb_put_out (by omega), fb_put_out (by omega)]
theorem fb_put_cong {α : Type} {f f2 g g2 : Nat → α} {a n : Nat} (hf : ∀ k, (k < a ∨ a + n ≤ k) → f k = f2 k) (hg : ∀ k, k < n → g k = g2 k) : fb_put f g a n = fb_put f2 g2 a n := by
  funext k
  by_cases h : a ≤ k ∧ k < a + n
  · rw [fb_put_in h.1 h.2, fb_put_in h.1 h.2, hg _ (by omega)]
  · rw [fb_put_out (by omega), fb_put_out (by omega), hf _ (by omega)]
/-! ===== the least, the first, the best so far; that there is one alone ===== -/
theorem fb_first {p : Nat → Prop} [DecidablePred p] : ∀ {n : Nat}, (∃ i, i < n ∧ p i) → ∃ i, i < n ∧ p i ∧ ∀ j, j < i → ¬ p j
  | 0, h => by obtain ⟨i, hi, -⟩ := h; exact absurd hi (Nat.not_lt_zero i)
  | n + 1, h => by
    by_cases q : ∃ i, i < n ∧ p i
    · obtain ⟨i, h1, h2⟩ := fb_first q
      exact ⟨i, by omega, h2⟩
    · obtain ⟨i, h1, h2⟩ := h
      have e : i = n := by
        rcases Nat.lt_or_ge i n with r | r
        · exact absurd ⟨i, r, h2⟩ q
        · omega
      subst e
      exact ⟨i, by omega, h2, fun j hj hp => q ⟨j, hj, hp⟩⟩
theorem fb_first_one {p : Nat → Prop} {i j : Nat} (hi : p i) (hi2 : ∀ k, k < i → ¬ p k) (hj : p j) (hj2 : ∀ k, k < j → ¬ p k) : i = j := by
  rcases Nat.lt_trichotomy i j with q | q | q
  · exact absurd hi (hj2 i q)
  · exact q
  · exact absurd hj (hi2 j q)
theorem fb_last {p : Nat → Prop} [DecidablePred p] : ∀ {n : Nat}, (∃ i, i < n ∧ p i) → ∃ i, i < n ∧ p i ∧ ∀ j, i < j → j < n → ¬ p j
  | 0, h => by obtain ⟨i, hi, -⟩ := h; exact absurd hi (Nat.not_lt_zero i)
  | n + 1, h => by
    by_cases q : p n
    · exact ⟨n, by omega, q, fun j h1 h2 => by omega⟩
    · obtain ⟨i, h1, h2⟩ := h
      have hi : i < n := by
        rcases Nat.lt_or_ge i n with r | r
        · exact r
        · have e : i = n := by omega
          subst e
          exact absurd h2 q
      obtain ⟨i2, a1, a2, a3⟩ := fb_last (n := n) ⟨i, hi, h2⟩
      refine ⟨i2, by omega, a2, fun j b1 b2 => ?_⟩
      rcases Nat.lt_or_ge j n with r | r
      · exact a3 j b1 r
      · have e : j = n := by omega
        subst e
        exact q
/-- the first greatest -/
theorem fb_best (f : Nat → Int) : ∀ {n : Nat}, 0 < n → ∃ i, i < n ∧ (∀ j, j < n → f j ≤ f i) ∧ ∀ j, j < i → f j < f i
  | 0, h => absurd h (Nat.lt_irrefl 0)
  | 1, _ => ⟨0, by omega, fun j hj => by have e : j = 0 := by omega
                                         subst e; exact Int.le_refl _, fun j hj => absurd hj (Nat.not_lt_zero j)⟩
  | n + 2, _ => by
    obtain ⟨i, h1, h2, h3⟩ := fb_best f (n := n + 1) (by omega)
    by_cases q : f i < f (n + 1)
    · refine ⟨n + 1, by omega, fun j hj => ?_, fun j hj => ?_⟩
      · rcases Nat.lt_or_ge j (n + 1) with r | r
        · have := h2 j r; omega
        · have e : j = n + 1 := by omega
          subst e; exact Int.le_refl _
      · have := h2 j hj; omega
    · refine ⟨i, by omega, fun j hj => ?_, h3⟩
      rcases Nat.lt_or_ge j (n + 1) with r | r
      · exact h2 j r
      · have e : j = n + 1 := by omega
        subst e; omega
theorem fb_best_one {f : Nat → Int} {n i j : Nat} (hi : i < n) (hi2 : ∀ k, k < n → f k ≤ f i) (hi3 : ∀ k, k < i → f k < f i) (hj : j < n) (hj2 : ∀ k, k < n → f k ≤ f j) (hj3 : ∀ k, k < j → f k < f j) : i = j := by
  rcases Nat.lt_trichotomy i j with q | q | q
  · have a := hj3 i q
    have b := hi2 j hj
    omega
  · exact q
  · have a := hi3 j q
    have b := hj2 i hi
    omega
/-- the first least -/
theorem fb_low (f : Nat → Int) {n : Nat} (h : 0 < n) : ∃ i, i < n ∧ (∀ j, j < n → f i ≤ f j) ∧ ∀ j, j < i → f i < f j := by
  obtain ⟨i, h1, h2, h3⟩ := fb_best (fun k => -f k) h
  exact ⟨i, h1, fun j hj => by have := h2 j hj; omega, fun j hj => by have := h3 j hj; omega⟩
/-! ===== signed ints as whole numbers, within bounds ===== -/
theorem fb_rng (x : Int32) : -2147483648 ≤ x.toInt ∧ x.toInt < 2147483648 := by
  have h1 := Int32.le_toInt x
  have h2 := Int32.toInt_lt x
  omega
theorem fb_bmod {z : Int} (h1 : -2147483648 ≤ z) (h2 : z < 2147483648) : z.bmod (2 ^ 32) = z := by
  rw [Int.bmod_eq_of_le (by omega) (by omega)]
theorem fb_addI {x y : Int32} (h1 : -2147483648 ≤ x.toInt + y.toInt) (h2 : x.toInt + y.toInt < 2147483648) : (x + y).toInt = x.toInt + y.toInt := by
  rw [Int32.toInt_add, fb_bmod h1 h2]
theorem fb_subI {x y : Int32} (h1 : -2147483648 ≤ x.toInt - y.toInt) (h2 : x.toInt - y.toInt < 2147483648) : (x - y).toInt = x.toInt - y.toInt := by
  rw [Int32.toInt_sub, fb_bmod h1 h2]
theorem fb_mulI {x y : Int32} (h1 : -2147483648 ≤ x.toInt * y.toInt) (h2 : x.toInt * y.toInt < 2147483648) : (x * y).toInt = x.toInt * y.toInt := by
  rw [Int32.toInt_mul, fb_bmod h1 h2]
theorem fb_negI {x : Int32} (h : x.toInt ≠ -2147483648) : (-x).toInt = -x.toInt := by
  have := fb_rng x
  rw [Int32.toInt_neg, fb_bmod (by omega) (by omega)]
theorem fb_ofI {z : Int} (h1 : -2147483648 ≤ z) (h2 : z < 2147483648) : (Int32.ofInt z).toInt = z := by
  rw [Int32.toInt_ofInt, fb_bmod h1 h2]
theorem fb_asI (x : Int32) : Int32.ofInt x.toInt = x := Int32.ofInt_toInt x
theorem fb_rngL (x : Int64) : -9223372036854775808 ≤ x.toInt ∧ x.toInt < 9223372036854775808 := by
  have h1 := Int64.le_toInt x
  have h2 := Int64.toInt_lt x
  omega
theorem fb_bmodL {z : Int} (h1 : -9223372036854775808 ≤ z) (h2 : z < 9223372036854775808) : z.bmod (2 ^ 64) = z := by
  rw [Int.bmod_eq_of_le (by omega) (by omega)]
theorem fb_addL {x y : Int64} (h1 : -9223372036854775808 ≤ x.toInt + y.toInt) (h2 : x.toInt + y.toInt < 9223372036854775808) : (x + y).toInt = x.toInt + y.toInt := by
  rw [Int64.toInt_add, fb_bmodL h1 h2]
theorem fb_subL {x y : Int64} (h1 : -9223372036854775808 ≤ x.toInt - y.toInt) (h2 : x.toInt - y.toInt < 9223372036854775808) : (x - y).toInt = x.toInt - y.toInt := by
  rw [Int64.toInt_sub, fb_bmodL h1 h2]
theorem fb_mulL {x y : Int64} (h1 : -9223372036854775808 ≤ x.toInt * y.toInt) (h2 : x.toInt * y.toInt < 9223372036854775808) : (x * y).toInt = x.toInt * y.toInt := by
  rw [Int64.toInt_mul, fb_bmodL h1 h2]
/-! ===== cuts of what is narrow already ===== -/
theorem fb_byte {x : Int32} (h1 : -128 ≤ x.toInt) (h2 : x.toInt < 128) : x.toInt8.toInt32 = x := by
  apply Int32.toInt_inj.1
  rw [Int8.toInt_toInt32, Int32.toInt_toInt8, Int.bmod_eq_of_le (by omega) (by omega)]
theorem fb_short {x : Int32} (h1 : -32768 ≤ x.toInt) (h2 : x.toInt < 32768) : x.toInt16.toInt32 = x := by
  apply Int32.toInt_inj.1
  rw [Int16.toInt_toInt32, Int32.toInt_toInt16, Int.bmod_eq_of_le (by omega) (by omega)]
theorem fb_byte_rng (x : Int32) : -128 ≤ x.toInt8.toInt32.toInt ∧ x.toInt8.toInt32.toInt < 128 := by
  rw [Int8.toInt_toInt32]
  have h1 := Int8.le_toInt x.toInt8
  have h2 := Int8.toInt_lt x.toInt8
  omega
theorem fb_short_rng (x : Int32) : -32768 ≤ x.toInt16.toInt32.toInt ∧ x.toInt16.toInt32.toInt < 32768 := by
  rw [Int16.toInt_toInt32]
  have h1 := Int16.le_toInt x.toInt16
  have h2 := Int16.toInt_lt x.toInt16
  omega
theorem fb_byte_twice (x : Int32) : x.toInt8.toInt32.toInt8.toInt32 = x.toInt8.toInt32 := fb_byte (fb_byte_rng x).1 (fb_byte_rng x).2
theorem fb_short_twice (x : Int32) : x.toInt16.toInt32.toInt16.toInt32 = x.toInt16.toInt32 := fb_short (fb_short_rng x).1 (fb_short_rng x).2
theorem fb_char {n : Nat} (h : n < 65536) : (nI n).toUInt32.toUInt16.toUInt32.toInt32 = nI n := by
  apply Int32.toBitVec_inj.1
  apply BitVec.eq_of_toNat_eq
  have e1 : (nI n).toBitVec.toNat = n := by
    show (BitVec.ofNat 32 n).toNat = n
    rw [BitVec.toNat_ofNat, Nat.mod_eq_of_lt (by omega)]
  have e2 : ((nI n).toUInt32.toUInt16.toUInt32).toNat = n := by
    rw [UInt16.toNat_toUInt32, UInt32.toNat_toUInt16]
    show (nI n).toBitVec.toNat % 2 ^ 16 = n
    rw [e1, Nat.mod_eq_of_lt (by omega)]
  rw [e1]
  exact e2
end
section
/-! ===== short forms for the walks: one G for the classes, the slots and the two array classes ===== -/
abbrev cG : Type := va_G × (ClassId × ClassId)
abbrev cTy (G : cG) : List (ClassId × FieldType) := [(G.2.1, .int), (G.2.2, .long)]
def cB (G : cG) (A : Nat → Prop) (ws : va_W) (t : State) : Prop := va_P G.1 vwCl ws t.heap ∧ va_K G.1 vwCl (cTy G) t ∧ va_D A ws
def cPre (G : cG) (sz : Nat) (ws : va_W) (U : State) : Prop := U.heap.size = sz ∧ va_P G.1 vwCl ws U.heap ∧ va_K G.1 vwCl (cTy G) U ∧ va_D (fun _ => True) ws
def cMI (l : Launch) (G : cG) (y : MethodName) (wy : List Cond) (rm : Room) (as : List Value) (ws : va_W) {S : Type} (post : Int32 → S → Prop) (wo : S → va_W) : Prop :=
  ∀ sz : Nat, Met l y wy rm (va_Pc as (cPre G sz ws)) (va_Qi post (fun u t => cB G (va_A ws sz) (wo u) t) (va_A ws sz)) rm.cells rm.slots (va_A ws sz)
def cML (l : Launch) (G : cG) (y : MethodName) (wy : List Cond) (rm : Room) (as : List Value) (ws : va_W) {S : Type} (post : Int64 → S → Prop) (wo : S → va_W) : Prop :=
  ∀ sz : Nat, Met l y wy rm (va_Pc as (cPre G sz ws)) (va_Ql post (fun u t => cB G (va_A ws sz) (wo u) t) (va_A ws sz)) rm.cells rm.slots (va_A ws sz)
def cMD (l : Launch) (G : cG) (y : MethodName) (wy : List Cond) (rm : Room) (as : List Value) (ws : va_W) {S : Type} (post : UInt64 → S → Prop) (wo : S → va_W) : Prop :=
  ∀ sz : Nat, Met l y wy rm (va_Pc as (cPre G sz ws)) (va_Qd post (fun u t => cB G (va_A ws sz) (wo u) t) (va_A ws sz)) rm.cells rm.slots (va_A ws sz)
def cMV (l : Launch) (G : cG) (y : MethodName) (wy : List Cond) (rm : Room) (as : List Value) (ws : va_W) {S : Type} (post : S → Prop) (wo : S → va_W) : Prop :=
  ∀ sz : Nat, Met l y wy rm (va_Pc as (cPre G sz ws)) (va_Qv post (fun u t => cB G (va_A ws sz) (wo u) t) (va_A ws sz)) rm.cells rm.slots (va_A ws sz)
theorem cPre_blind (as : List Value) (G : cG) (sz : Nat) (ws : va_W) : FrameBlind (va_Pc as (cPre G sz ws)) := fun a U g mk q => by
  obtain ⟨q0, q1, qP, qK, qD⟩ := q
  exact ⟨q0, q1, qP, va_K.moved (u := U) (U := U.calling g mk a) (Vm.Alike.refl U.vm) qK, qD⟩
theorem cs_fm {is : List Nat} {ws wc : va_W} (h : is.map (fun i => ws[i]?) = wc.map some) : is.filterMap (fun i => ws[i]?) = wc := by
  have h1 : (is.map (fun i => ws[i]?)).filterMap id = (wc.map some).filterMap id := congrArg (List.filterMap id) h
  simpa [List.filterMap_map, Function.comp_def] using h1
/-- a start: what every walk has at hand -/
abbrev cHas (p : Program) (l : Launch) (e : Env) (s : State) (m : MethodId) (below : List Frame) (meth : Method) (c : Code) (A : Nat → Prop) (G : cG) (y : MethodName) (wy : List Cond) (rm : Room) (as : List Value) (ws : va_W) (own : String) (cc : ByteArray) (maxL : Nat) (ret : Option FieldType) (Q : State → Prop) : Prop :=
  p.tables.exec = Jvm.exec → c.code = cc → meth.sig.returnType = ret → c.maxLocals = maxL → (∀ w ∈ wy, w.before as.toArray s = true) → s.vm.findClass own = some m.cls → meth.locks = false → meth.name = y.name → (∀ q : Nat, s.heap.size ≤ q → A q) → va_K G.1 vwCl (cTy G) s → va_P G.1 vwCl ws s.heap → va_D A ws → va_S A s.heap s.heap [] → ∀ ls : Array Slot, lv_has ls maxL (lv_args 0 as) →
     W p l e rm s m as.toArray below meth c s.heap [] 0 0 Q (F0 m 0 ls [])
theorem cs_sI {l : Launch} {G : cG} {y : MethodName} {wy wy' : List Cond} {rm : Room} {as : List Value} {ws : va_W} {S : Type} {post : Int32 → S → Prop} {wo : S → va_W} {own : String} {cc : ByteArray} {maxL : Nat} {ret : Option FieldType}
    (hy : plainName y.cls = true) (hown : y.cls = own) (hw : wy = Cond.code y cc maxL ret :: wy') (hlen : (lg_sl as).length ≤ maxL)
    (body : ∀ (p : Program) (e : Env) (s : State) (m : MethodId) (below : List Frame) (meth : Method) (c : Code) (A : Nat → Prop), cHas p l e s m below meth c A G y wy rm as ws own cc maxL ret (MQ below (va_Qi post (fun u t => cB G A (wo u) t) A) as.toArray s rm.cells rm.slots A)) : cMI l G y wy rm as ws post wo := by
  intro sz
  refine Met.ofW (cc := cc) (maxL := maxL) (ret := ret) hy hw ?_
  intro p e s m args below meth c s₁ B hml hv
  obtain ⟨rfl, hsz, hP, hK, hD0⟩ := hv
  have hts := atoms_spec (ws := wy) B.pre
  have hown' : s.vm.findClass y.cls = some m.cls := findClass_of_methodNamed B.named
  rw [hown] at hown'
  subst hsz
  have hl := lv_entry as (n := maxL) hlen
  rw [lg_entry_eq]
  exact body p e s m below meth c (va_A ws s.heap.size) B.exec B.bytes B.returns hml hts hown' B.notSynchronized (name_of_methodNamed B.named B.method).1 (fun q h => Or.inr h) hK hP hD0.self va_S.rf _ hl
theorem cs_sL {l : Launch} {G : cG} {y : MethodName} {wy wy' : List Cond} {rm : Room} {as : List Value} {ws : va_W} {S : Type} {post : Int64 → S → Prop} {wo : S → va_W} {own : String} {cc : ByteArray} {maxL : Nat} {ret : Option FieldType}
    (hy : plainName y.cls = true) (hown : y.cls = own) (hw : wy = Cond.code y cc maxL ret :: wy') (hlen : (lg_sl as).length ≤ maxL)
    (body : ∀ (p : Program) (e : Env) (s : State) (m : MethodId) (below : List Frame) (meth : Method) (c : Code) (A : Nat → Prop), cHas p l e s m below meth c A G y wy rm as ws own cc maxL ret (MQ below (va_Ql post (fun u t => cB G A (wo u) t) A) as.toArray s rm.cells rm.slots A)) : cML l G y wy rm as ws post wo := by
  intro sz
  refine Met.ofW (cc := cc) (maxL := maxL) (ret := ret) hy hw ?_
  intro p e s m args below meth c s₁ B hml hv
  obtain ⟨rfl, hsz, hP, hK, hD0⟩ := hv
  have hts := atoms_spec (ws := wy) B.pre
  have hown' : s.vm.findClass y.cls = some m.cls := findClass_of_methodNamed B.named
  rw [hown] at hown'
  subst hsz
  have hl := lv_entry as (n := maxL) hlen
  rw [lg_entry_eq]
  exact body p e s m below meth c (va_A ws s.heap.size) B.exec B.bytes B.returns hml hts hown' B.notSynchronized (name_of_methodNamed B.named B.method).1 (fun q h => Or.inr h) hK hP hD0.self va_S.rf _ hl
theorem cs_sD {l : Launch} {G : cG} {y : MethodName} {wy wy' : List Cond} {rm : Room} {as : List Value} {ws : va_W} {S : Type} {post : UInt64 → S → Prop} {wo : S → va_W} {own : String} {cc : ByteArray} {maxL : Nat} {ret : Option FieldType}
    (hy : plainName y.cls = true) (hown : y.cls = own) (hw : wy = Cond.code y cc maxL ret :: wy') (hlen : (lg_sl as).length ≤ maxL)
    (body : ∀ (p : Program) (e : Env) (s : State) (m : MethodId) (below : List Frame) (meth : Method) (c : Code) (A : Nat → Prop), cHas p l e s m below meth c A G y wy rm as ws own cc maxL ret (MQ below (va_Qd post (fun u t => cB G A (wo u) t) A) as.toArray s rm.cells rm.slots A)) : cMD l G y wy rm as ws post wo := by
  intro sz
  refine Met.ofW (cc := cc) (maxL := maxL) (ret := ret) hy hw ?_
  intro p e s m args below meth c s₁ B hml hv
  obtain ⟨rfl, hsz, hP, hK, hD0⟩ := hv
  have hts := atoms_spec (ws := wy) B.pre
  have hown' : s.vm.findClass y.cls = some m.cls := findClass_of_methodNamed B.named
  rw [hown] at hown'
  subst hsz
  have hl := lv_entry as (n := maxL) hlen
  rw [lg_entry_eq]
  exact body p e s m below meth c (va_A ws s.heap.size) B.exec B.bytes B.returns hml hts hown' B.notSynchronized (name_of_methodNamed B.named B.method).1 (fun q h => Or.inr h) hK hP hD0.self va_S.rf _ hl
theorem cs_sV {l : Launch} {G : cG} {y : MethodName} {wy wy' : List Cond} {rm : Room} {as : List Value} {ws : va_W} {S : Type} {post : S → Prop} {wo : S → va_W} {own : String} {cc : ByteArray} {maxL : Nat} {ret : Option FieldType}
    (hy : plainName y.cls = true) (hown : y.cls = own) (hw : wy = Cond.code y cc maxL ret :: wy') (hlen : (lg_sl as).length ≤ maxL)
    (body : ∀ (p : Program) (e : Env) (s : State) (m : MethodId) (below : List Frame) (meth : Method) (c : Code) (A : Nat → Prop), cHas p l e s m below meth c A G y wy rm as ws own cc maxL ret (MQ below (va_Qv post (fun u t => cB G A (wo u) t) A) as.toArray s rm.cells rm.slots A)) : cMV l G y wy rm as ws post wo := by
  intro sz
  refine Met.ofW (cc := cc) (maxL := maxL) (ret := ret) hy hw ?_
  intro p e s m args below meth c s₁ B hml hv
  obtain ⟨rfl, hsz, hP, hK, hD0⟩ := hv
  have hts := atoms_spec (ws := wy) B.pre
  have hown' : s.vm.findClass y.cls = some m.cls := findClass_of_methodNamed B.named
  rw [hown] at hown'
  subst hsz
  have hl := lv_entry as (n := maxL) hlen
  rw [lg_entry_eq]
  exact body p e s m below meth c (va_A ws s.heap.size) B.exec B.bytes B.returns hml hts hown' B.notSynchronized (name_of_methodNamed B.named B.method).1 (fun q h => Or.inr h) hK hP hD0.self va_S.rf _ hl
section CS1
variable {p : Program} {l : Launch} {e : Env} {R : Room} {s : State} {m : MethodId} {args : Array Value} {below : List Frame} {meth : Method} {c : Code} {H H0 : Heap} {locs : List Loc} {cells slots : Nat} {Q : State → Prop}
variable {cc : ByteArray} {pc : Nat} {ls : Array Slot} {rest st0 : List Value} {A : Nat → Prop} {G : cG} {ws wc wr : va_W}
/-- the top of the stack by another name -/
theorem cs_i {x y : Int32} (h : x = y) (k : W p l e R s m args below meth c H locs cells slots Q (F0 m pc ls (.int y :: rest))) : W p l e R s m args below meth c H locs cells slots Q (F0 m pc ls (.int x :: rest)) := by
  subst h; exact k
theorem cs_l {x y : Int64} (h : x = y) (k : W p l e R s m args below meth c H locs cells slots Q (F0 m pc ls (.long y :: rest))) : W p l e R s m args below meth c H locs cells slots Q (F0 m pc ls (.long x :: rest)) := by
  subst h; exact k
/-- the ends -/
theorem cs_iret {S : Type} {post : Int32 → S → Prop} {wo : S → va_W} (hx : p.tables.exec = Jvm.exec) (hb : c.code = cc) (hr : meth.sig.returnType = some .int) (hlocks : meth.locks = false) (hK : va_K G.1 vwCl (cTy G) s) (hP : va_P G.1 vwCl ws H) (hD : va_D A ws) (hS : va_S A s.heap H locs) {v : Int32} (u : S) (hp : post v u) (hwo : wo u = ws) (hdg : decode cc pc = .ok (.ireturn, 1)) :
    W p l e R s m args below meth c H locs cells slots (MQ below (va_Qi post (fun u t => cB G A (wo u) t) A) args s cells slots A) (F0 m pc ls [.int v]) :=
  W.iret hx hb hr (fun t ht hW => ⟨⟨v, u, rfl, hp, by show cB G A (wo u) t; rw [hwo]; exact ⟨by rw [ht]; exact hP, va_K.moved hW.alike hK, hD⟩⟩, hS.F ht⟩) hS.2.2 hdg hlocks
theorem cs_zret {S : Type} {post : Int32 → S → Prop} {wo : S → va_W} {ty : FieldType} (hx : p.tables.exec = Jvm.exec) (hb : c.code = cc) (hr : meth.sig.returnType = some ty) (hlocks : meth.locks = false) (hK : va_K G.1 vwCl (cTy G) s) (hP : va_P G.1 vwCl ws H) (hD : va_D A ws) (hS : va_S A s.heap H locs) {v : Int32} (hn : narrow ty (.int v) = .int v) (u : S) (hp : post v u) (hwo : wo u = ws) (hdg : decode cc pc = .ok (.ireturn, 1)) :
    W p l e R s m args below meth c H locs cells slots (MQ below (va_Qi post (fun u t => cB G A (wo u) t) A) args s cells slots A) (F0 m pc ls [.int v]) :=
  W.zret hx hb hr hn (fun t ht hW => ⟨⟨v, u, rfl, hp, by show cB G A (wo u) t; rw [hwo]; exact ⟨by rw [ht]; exact hP, va_K.moved hW.alike hK, hD⟩⟩, hS.F ht⟩) hS.2.2 hdg hlocks
theorem cs_lret {S : Type} {post : Int64 → S → Prop} {wo : S → va_W} (hx : p.tables.exec = Jvm.exec) (hb : c.code = cc) (hr : meth.sig.returnType = some .long) (hlocks : meth.locks = false) (hK : va_K G.1 vwCl (cTy G) s) (hP : va_P G.1 vwCl ws H) (hD : va_D A ws) (hS : va_S A s.heap H locs) {v : Int64} (u : S) (hp : post v u) (hwo : wo u = ws) (hdg : decode cc pc = .ok (.lreturn, 1)) :
    W p l e R s m args below meth c H locs cells slots (MQ below (va_Ql post (fun u t => cB G A (wo u) t) A) args s cells slots A) (F0 m pc ls [.long v]) :=
  W.lret hx hb hr (fun t ht hW => ⟨⟨v, u, rfl, hp, by show cB G A (wo u) t; rw [hwo]; exact ⟨by rw [ht]; exact hP, va_K.moved hW.alike hK, hD⟩⟩, hS.F ht⟩) hS.2.2 hdg hlocks
theorem cs_dret {S : Type} {post : UInt64 → S → Prop} {wo : S → va_W} (hx : p.tables.exec = Jvm.exec) (hb : c.code = cc) (hr : meth.sig.returnType = some .double) (hlocks : meth.locks = false) (hK : va_K G.1 vwCl (cTy G) s) (hP : va_P G.1 vwCl ws H) (hD : va_D A ws) (hS : va_S A s.heap H locs) {v : UInt64} (u : S) (hp : post v u) (hwo : wo u = ws) (hdg : decode cc pc = .ok (.dreturn, 1)) :
    W p l e R s m args below meth c H locs cells slots (MQ below (va_Qd post (fun u t => cB G A (wo u) t) A) args s cells slots A) (F0 m pc ls [.double v]) :=
  W.dret hx hb hr (fun t ht hW => ⟨⟨v, u, rfl, hp, by show cB G A (wo u) t; rw [hwo]; exact ⟨by rw [ht]; exact hP, va_K.moved hW.alike hK, hD⟩⟩, hS.F ht⟩) hS.2.2 hdg hlocks
theorem cs_vret {S : Type} {post : S → Prop} {wo : S → va_W} (hx : p.tables.exec = Jvm.exec) (hb : c.code = cc) (hr : meth.sig.returnType = none) (hlocks : meth.locks = false) (hK : va_K G.1 vwCl (cTy G) s) (hP : va_P G.1 vwCl ws H) (hD : va_D A ws) (hS : va_S A s.heap H locs) (u : S) (hp : post u) (hwo : wo u = ws) (hdg : decode cc pc = .ok (.return_, 1)) :
    W p l e R s m args below meth c H locs cells slots (MQ below (va_Qv post (fun u t => cB G A (wo u) t) A) args s cells slots A) (F0 m pc ls []) :=
  W.vret hx hb hr (fun t ht hW => ⟨⟨u, rfl, hp, by show cB G A (wo u) t; rw [hwo]; exact ⟨by rw [ht]; exact hP, va_K.moved hW.alike hK, hD⟩⟩, hS.F ht⟩) hS.2.2 hdg hlocks
/-- a loop, its head with an empty stack: a measure that falls -/
theorem cs_loop {nL : Nat} {σ : Type} (μ : σ → Nat) (inv : σ → Prop) (wf : σ → va_W) (lv : σ → List (Nat × Value))
    (step : ∀ x : σ, inv x → (∀ y : σ, μ y < μ x → inv y → ∀ (H : Heap) (locs : List Loc) (ls : Array Slot), va_P G.1 vwCl (wf y) H → va_D A (wf y) → va_S A H0 H locs → lv_has ls nL (lv y) → W p l e R s m args below meth c H locs cells slots Q (F0 m pc ls [])) →
      ∀ (H : Heap) (locs : List Loc) (ls : Array Slot), va_P G.1 vwCl (wf x) H → va_D A (wf x) → va_S A H0 H locs → lv_has ls nL (lv x) → W p l e R s m args below meth c H locs cells slots Q (F0 m pc ls []))
    (x0 : σ) (h0 : inv x0) (hP : va_P G.1 vwCl (wf x0) H) (hD : va_D A (wf x0)) (hS : va_S A H0 H locs) (hl : lv_has ls nL (lv x0)) : W p l e R s m args below meth c H locs cells slots Q (F0 m pc ls []) := by
  have key : ∀ (n : Nat) (x : σ), μ x < n → inv x → ∀ (H : Heap) (locs : List Loc) (ls : Array Slot), va_P G.1 vwCl (wf x) H → va_D A (wf x) → va_S A H0 H locs → lv_has ls nL (lv x) → W p l e R s m args below meth c H locs cells slots Q (F0 m pc ls []) := by
    intro n
    induction n with
    | zero => intro x h; exact absurd h (Nat.not_lt_zero _)
    | succ n ih => intro x hx hi; exact step x hi (fun y hy hiy => ih y (by omega) hiy)
  exact key (μ x0 + 1) x0 (Nat.lt_succ_self _) h0 H locs ls hP hD hS hl
variable {nL index n : Nat} {own C : String} {Ts wy : List Cond} {y : MethodName} {bytes : ByteArray} {maxL : Nat} {ret : Option FieldType} {rm : Room} {b : Nat} {As : List Value}
/-- what a call's cut needs -/
abbrev cCut (ws wc wr : va_W) (isC isR : List Nat) : Prop := isC.map (fun i => ws[i]?) = wc.map some ∧ isR.map (fun i => ws[i]?) = wr.map some ∧ va_nd isC = true ∧ va_nd isR = true ∧ ∀ i ∈ isR, i ∉ isC
theorem cs_vi {S : Type} {post : Int32 → S → Prop} {wo : S → va_W} (Sf : CallFix p m c cc nL s args Ts own) (hK : va_K G.1 vwCl (cTy G) s) (hP : va_P G.1 vwCl ws H) (hD : va_D A ws) (hS : va_S A H0 H locs) (hA : ∀ q, H0.size ≤ q → A q)
    (hM : cMI l G y wy rm (.ref b :: As) wc post wo) (cw : CallW R s args own C index y bytes maxL ret wy rm rm.cells rm.slots n) (isC isR : List Nat) (hcut : cCut ws wc wr isC isR)
    (q0 ci : Nat) {fs : List Value} {T : u_T} {N : Nat} (he : ws[q0]? = some (b, .inr (ci, fs))) (hc : vwCl[ci]? = some (C, T, N)) (hn : As.length = n) (hsize : ls.size = nL) (hst : st0 = As.reverse ++ .ref b :: rest) (hW : (rest.map fun v => v.category).sum ≤ 8)
    (hf : cells + rm.cells ≤ R.cells ∧ slots + rm.slots ≤ R.slots) (hdg : decode cc pc = .ok (.invokevirtual index, 3))
    (kk : ∀ (r : Int32) (u : S) (H1 : Heap) (locs1 : List Loc), post r u → va_P G.1 vwCl (wr ++ wo u) H1 → va_D A (wr ++ wo u) → va_S A H0 H1 locs1 → W p l e R s m args below meth c H1 locs1 (cells + rm.cells) (slots + rm.slots) Q (F0 m (pc + 3) ls (.int r :: rest))) :
    W p l e R s m args below meth c H locs cells slots Q (F0 m pc ls st0) := by
  obtain ⟨hC, hR, hn1, hn2, hdis⟩ := hcut
  have hPc := hP.sub isC (cs_fm hC)
  have hDc := hD.sub isC hn1 hC
  have hFc := va_free hD hS hA isC hC
  refine va_calli (va_runV (As := As) (rest := rest) Sf (hM H.size) cw ⟨cPre_blind _ _ _ _, va_recv hK hP hc he, fun U hU hW => ⟨rfl, by rw [hU], by rw [hU]; exact hPc, va_K.moved hW.alike hK, hDc.weaken (fun _ _ _ _ => trivial)⟩⟩ rfl hn hsize hst (lv_room hW) hdg hf) hS (fun q _ h => hFc q h) hFc (fun r u t H1 locs1 ht hvm hw hB hz1 hk1 hS => ?_)
  obtain ⟨hP1, hK1, hD1⟩ := hB
  rw [ht] at hP1
  obtain ⟨hP, hD⟩ := va_join hP hD isC isR hC hR hn2 hdis hk1 hFc hP1 hD1
  exact kk r u H1 locs1 hw hP hD hS
theorem cs_vl {S : Type} {post : Int64 → S → Prop} {wo : S → va_W} (Sf : CallFix p m c cc nL s args Ts own) (hK : va_K G.1 vwCl (cTy G) s) (hP : va_P G.1 vwCl ws H) (hD : va_D A ws) (hS : va_S A H0 H locs) (hA : ∀ q, H0.size ≤ q → A q)
    (hM : cML l G y wy rm (.ref b :: As) wc post wo) (cw : CallW R s args own C index y bytes maxL ret wy rm rm.cells rm.slots n) (isC isR : List Nat) (hcut : cCut ws wc wr isC isR)
    (q0 ci : Nat) {fs : List Value} {T : u_T} {N : Nat} (he : ws[q0]? = some (b, .inr (ci, fs))) (hc : vwCl[ci]? = some (C, T, N)) (hn : As.length = n) (hsize : ls.size = nL) (hst : st0 = As.reverse ++ .ref b :: rest) (hW : (rest.map fun v => v.category).sum ≤ 8)
    (hf : cells + rm.cells ≤ R.cells ∧ slots + rm.slots ≤ R.slots) (hdg : decode cc pc = .ok (.invokevirtual index, 3))
    (kk : ∀ (r : Int64) (u : S) (H1 : Heap) (locs1 : List Loc), post r u → va_P G.1 vwCl (wr ++ wo u) H1 → va_D A (wr ++ wo u) → va_S A H0 H1 locs1 → W p l e R s m args below meth c H1 locs1 (cells + rm.cells) (slots + rm.slots) Q (F0 m (pc + 3) ls (.long r :: rest))) :
    W p l e R s m args below meth c H locs cells slots Q (F0 m pc ls st0) := by
  obtain ⟨hC, hR, hn1, hn2, hdis⟩ := hcut
  have hPc := hP.sub isC (cs_fm hC)
  have hDc := hD.sub isC hn1 hC
  have hFc := va_free hD hS hA isC hC
  refine va_calll (va_runV (As := As) (rest := rest) Sf (hM H.size) cw ⟨cPre_blind _ _ _ _, va_recv hK hP hc he, fun U hU hW => ⟨rfl, by rw [hU], by rw [hU]; exact hPc, va_K.moved hW.alike hK, hDc.weaken (fun _ _ _ _ => trivial)⟩⟩ rfl hn hsize hst (lv_room hW) hdg hf) hS (fun q _ h => hFc q h) hFc (fun r u t H1 locs1 ht hvm hw hB hz1 hk1 hS => ?_)
  obtain ⟨hP1, hK1, hD1⟩ := hB
  rw [ht] at hP1
  obtain ⟨hP, hD⟩ := va_join hP hD isC isR hC hR hn2 hdis hk1 hFc hP1 hD1
  exact kk r u H1 locs1 hw hP hD hS
theorem cs_vd {S : Type} {post : UInt64 → S → Prop} {wo : S → va_W} (Sf : CallFix p m c cc nL s args Ts own) (hK : va_K G.1 vwCl (cTy G) s) (hP : va_P G.1 vwCl ws H) (hD : va_D A ws) (hS : va_S A H0 H locs) (hA : ∀ q, H0.size ≤ q → A q)
    (hM : cMD l G y wy rm (.ref b :: As) wc post wo) (cw : CallW R s args own C index y bytes maxL ret wy rm rm.cells rm.slots n) (isC isR : List Nat) (hcut : cCut ws wc wr isC isR)
    (q0 ci : Nat) {fs : List Value} {T : u_T} {N : Nat} (he : ws[q0]? = some (b, .inr (ci, fs))) (hc : vwCl[ci]? = some (C, T, N)) (hn : As.length = n) (hsize : ls.size = nL) (hst : st0 = As.reverse ++ .ref b :: rest) (hW : (rest.map fun v => v.category).sum ≤ 8)
    (hf : cells + rm.cells ≤ R.cells ∧ slots + rm.slots ≤ R.slots) (hdg : decode cc pc = .ok (.invokevirtual index, 3))
    (kk : ∀ (r : UInt64) (u : S) (H1 : Heap) (locs1 : List Loc), post r u → va_P G.1 vwCl (wr ++ wo u) H1 → va_D A (wr ++ wo u) → va_S A H0 H1 locs1 → W p l e R s m args below meth c H1 locs1 (cells + rm.cells) (slots + rm.slots) Q (F0 m (pc + 3) ls (.double r :: rest))) :
    W p l e R s m args below meth c H locs cells slots Q (F0 m pc ls st0) := by
  obtain ⟨hC, hR, hn1, hn2, hdis⟩ := hcut
  have hPc := hP.sub isC (cs_fm hC)
  have hDc := hD.sub isC hn1 hC
  have hFc := va_free hD hS hA isC hC
  refine va_calld (va_runV (As := As) (rest := rest) Sf (hM H.size) cw ⟨cPre_blind _ _ _ _, va_recv hK hP hc he, fun U hU hW => ⟨rfl, by rw [hU], by rw [hU]; exact hPc, va_K.moved hW.alike hK, hDc.weaken (fun _ _ _ _ => trivial)⟩⟩ rfl hn hsize hst (lv_room hW) hdg hf) hS (fun q _ h => hFc q h) hFc (fun r u t H1 locs1 ht hvm hw hB hz1 hk1 hS => ?_)
  obtain ⟨hP1, hK1, hD1⟩ := hB
  rw [ht] at hP1
  obtain ⟨hP, hD⟩ := va_join hP hD isC isR hC hR hn2 hdis hk1 hFc hP1 hD1
  exact kk r u H1 locs1 hw hP hD hS
theorem cs_vv {S : Type} {post : S → Prop} {wo : S → va_W} (Sf : CallFix p m c cc nL s args Ts own) (hK : va_K G.1 vwCl (cTy G) s) (hP : va_P G.1 vwCl ws H) (hD : va_D A ws) (hS : va_S A H0 H locs) (hA : ∀ q, H0.size ≤ q → A q)
    (hM : cMV l G y wy rm (.ref b :: As) wc post wo) (cw : CallW R s args own C index y bytes maxL ret wy rm rm.cells rm.slots n) (isC isR : List Nat) (hcut : cCut ws wc wr isC isR)
    (q0 ci : Nat) {fs : List Value} {T : u_T} {N : Nat} (he : ws[q0]? = some (b, .inr (ci, fs))) (hc : vwCl[ci]? = some (C, T, N)) (hn : As.length = n) (hsize : ls.size = nL) (hst : st0 = As.reverse ++ .ref b :: rest) (hW : (rest.map fun v => v.category).sum ≤ 8)
    (hf : cells + rm.cells ≤ R.cells ∧ slots + rm.slots ≤ R.slots) (hdg : decode cc pc = .ok (.invokevirtual index, 3))
    (kk : ∀ (u : S) (H1 : Heap) (locs1 : List Loc), post u → va_P G.1 vwCl (wr ++ wo u) H1 → va_D A (wr ++ wo u) → va_S A H0 H1 locs1 → W p l e R s m args below meth c H1 locs1 (cells + rm.cells) (slots + rm.slots) Q (F0 m (pc + 3) ls rest)) :
    W p l e R s m args below meth c H locs cells slots Q (F0 m pc ls st0) := by
  obtain ⟨hC, hR, hn1, hn2, hdis⟩ := hcut
  have hPc := hP.sub isC (cs_fm hC)
  have hDc := hD.sub isC hn1 hC
  have hFc := va_free hD hS hA isC hC
  refine va_callv (va_runV (As := As) (rest := rest) Sf (hM H.size) cw ⟨cPre_blind _ _ _ _, va_recv hK hP hc he, fun U hU hW => ⟨rfl, by rw [hU], by rw [hU]; exact hPc, va_K.moved hW.alike hK, hDc.weaken (fun _ _ _ _ => trivial)⟩⟩ rfl hn hsize hst (lv_room hW) hdg hf) hS (fun q _ h => hFc q h) hFc (fun u t H1 locs1 ht hvm hw hB hz1 hk1 hS => ?_)
  obtain ⟨hP1, hK1, hD1⟩ := hB
  rw [ht] at hP1
  obtain ⟨hP, hD⟩ := va_join hP hD isC isR hC hR hn2 hdis hk1 hFc hP1 hD1
  exact kk u H1 locs1 hw hP hD hS
theorem cs_si {S : Type} {post : Int32 → S → Prop} {wo : S → va_W} (Sf : CallFix p m c cc nL s args Ts own) (hK : va_K G.1 vwCl (cTy G) s) (hP : va_P G.1 vwCl ws H) (hD : va_D A ws) (hS : va_S A H0 H locs) (hA : ∀ q, H0.size ≤ q → A q)
    (hM : cMI l G y wy rm As wc post wo) (cw : CallB R s args own index y bytes maxL ret wy rm rm.cells rm.slots n ∧ (Cond.static y).before args s = true) (isC isR : List Nat) (hcut : cCut ws wc wr isC isR)
    (hn : As.length = n) (hsize : ls.size = nL) (hst : st0 = As.reverse ++ rest) (hW : (rest.map fun v => v.category).sum ≤ 8)
    (hf : cells + rm.cells ≤ R.cells ∧ slots + rm.slots ≤ R.slots) (hdg : decode cc pc = .ok (.invokestatic index, 3))
    (kk : ∀ (r : Int32) (u : S) (H1 : Heap) (locs1 : List Loc), post r u → va_P G.1 vwCl (wr ++ wo u) H1 → va_D A (wr ++ wo u) → va_S A H0 H1 locs1 → W p l e R s m args below meth c H1 locs1 (cells + rm.cells) (slots + rm.slots) Q (F0 m (pc + 3) ls (.int r :: rest))) :
    W p l e R s m args below meth c H locs cells slots Q (F0 m pc ls st0) := by
  obtain ⟨hC, hR, hn1, hn2, hdis⟩ := hcut
  have hPc := hP.sub isC (cs_fm hC)
  have hDc := hD.sub isC hn1 hC
  have hFc := va_free hD hS hA isC hC
  refine va_calli (va_runS (As := As) (rest := rest) Sf (hM H.size) cw ⟨cPre_blind _ _ _ _, fun U hU hW => ⟨rfl, by rw [hU], by rw [hU]; exact hPc, va_K.moved hW.alike hK, hDc.weaken (fun _ _ _ _ => trivial)⟩⟩ rfl hn hsize hst (lv_room hW) hdg hf) hS (fun q _ h => hFc q h) hFc (fun r u t H1 locs1 ht hvm hw hB hz1 hk1 hS => ?_)
  obtain ⟨hP1, hK1, hD1⟩ := hB
  rw [ht] at hP1
  obtain ⟨hP, hD⟩ := va_join hP hD isC isR hC hR hn2 hdis hk1 hFc hP1 hD1
  exact kk r u H1 locs1 hw hP hD hS
theorem cs_sl {S : Type} {post : Int64 → S → Prop} {wo : S → va_W} (Sf : CallFix p m c cc nL s args Ts own) (hK : va_K G.1 vwCl (cTy G) s) (hP : va_P G.1 vwCl ws H) (hD : va_D A ws) (hS : va_S A H0 H locs) (hA : ∀ q, H0.size ≤ q → A q)
    (hM : cML l G y wy rm As wc post wo) (cw : CallB R s args own index y bytes maxL ret wy rm rm.cells rm.slots n ∧ (Cond.static y).before args s = true) (isC isR : List Nat) (hcut : cCut ws wc wr isC isR)
    (hn : As.length = n) (hsize : ls.size = nL) (hst : st0 = As.reverse ++ rest) (hW : (rest.map fun v => v.category).sum ≤ 8)
    (hf : cells + rm.cells ≤ R.cells ∧ slots + rm.slots ≤ R.slots) (hdg : decode cc pc = .ok (.invokestatic index, 3))
    (kk : ∀ (r : Int64) (u : S) (H1 : Heap) (locs1 : List Loc), post r u → va_P G.1 vwCl (wr ++ wo u) H1 → va_D A (wr ++ wo u) → va_S A H0 H1 locs1 → W p l e R s m args below meth c H1 locs1 (cells + rm.cells) (slots + rm.slots) Q (F0 m (pc + 3) ls (.long r :: rest))) :
    W p l e R s m args below meth c H locs cells slots Q (F0 m pc ls st0) := by
  obtain ⟨hC, hR, hn1, hn2, hdis⟩ := hcut
  have hPc := hP.sub isC (cs_fm hC)
  have hDc := hD.sub isC hn1 hC
  have hFc := va_free hD hS hA isC hC
  refine va_calll (va_runS (As := As) (rest := rest) Sf (hM H.size) cw ⟨cPre_blind _ _ _ _, fun U hU hW => ⟨rfl, by rw [hU], by rw [hU]; exact hPc, va_K.moved hW.alike hK, hDc.weaken (fun _ _ _ _ => trivial)⟩⟩ rfl hn hsize hst (lv_room hW) hdg hf) hS (fun q _ h => hFc q h) hFc (fun r u t H1 locs1 ht hvm hw hB hz1 hk1 hS => ?_)
  obtain ⟨hP1, hK1, hD1⟩ := hB
  rw [ht] at hP1
  obtain ⟨hP, hD⟩ := va_join hP hD isC isR hC hR hn2 hdis hk1 hFc hP1 hD1
  exact kk r u H1 locs1 hw hP hD hS
end CS1
/-! ===== numbers in arrays and answers ===== -/
/-- an array that holds whole numbers -/
def nF (k : Nat → Nat) : Nat → Int32 := fun j => nI (k j)
theorem nF_at (k : Nat → Nat) {i : Nat} (h : i < 2 ^ 31) : nF k (nI i).toNatClampNeg = nI (k i) := by unfold nF; rw [nI_clamp h]
theorem aF_at (f : Nat → Int32) {i : Nat} (h : i < 2 ^ 31) : f (nI i).toNatClampNeg = f i := by rw [nI_clamp h]
theorem nF_upd (k : Nat → Nat) {i : Nat} (h : i < 2 ^ 31) (v : Nat) : upd (nF k) (nI i).toNatClampNeg (nI v) = nF (va_up k i v) := by
  rw [nI_clamp h]
  funext j
  by_cases hj : j = i
  · subst hj; simp [upd, nF, va_up]
  · simp [upd, nF, va_up, hj]
theorem aF_upd (f : Nat → Int32) {i : Nat} (h : i < 2 ^ 31) (v : Int32) : upd f (nI i).toNatClampNeg v = va_up f i v := by
  rw [nI_clamp h]; rfl
/-- a truth as an int -/
def bI (b : Bool) : Int32 := if b then 1 else 0
theorem bI_t : bI true = 1 := rfl
theorem bI_f : bI false = 0 := rfl
theorem bI_0 {b : Bool} (h : bI b = 0) : b = false := by cases b <;> simp_all [bI]
theorem bI_n0 {b : Bool} (h : ¬ bI b = 0) : b = true := by cases b <;> simp_all [bI]
theorem bI_nar (b : Bool) : narrow .boolean (.int (bI b)) = .int (bI b) := by cases b <;> rfl
theorem bI_nI (b : Bool) : bI b = nI (if b then 1 else 0) := by cases b <;> rfl
end
section
/-! ===== numbers: nI over the ops of ints ===== -/
theorem nI_dec {n : Nat} (h : 0 < n) : nI n + Int32.ofInt (-1) = nI (n - 1) := sb_m1 h
theorem nI_eq0 {a : Nat} (h : a < 2 ^ 31) : nI a = 0 ↔ a = 0 := by rw [← nI_0]; exact nI_eq h (by omega)
theorem nI_ne0I {a : Nat} (h : a < 2 ^ 31) : (¬ nI a = 0) ↔ ¬ a = 0 := not_congr (nI_eq0 h)
theorem nI_neI {a b : Nat} (ha : a < 2 ^ 31) (hb : b < 2 ^ 31) : (¬ nI a = nI b) ↔ ¬ a = b := not_congr (nI_eq ha hb)
theorem nI_lt0 {a : Nat} (h : a < 2 ^ 31) : nI a < 0 ↔ a < 0 := by rw [← nI_0]; exact nI_ltI h (by omega)
theorem nI_ge0 {a : Nat} (h : a < 2 ^ 31) : 0 ≤ nI a ↔ 0 ≤ a := by rw [← nI_0]; exact nI_leI (by omega) h
theorem nI_gt0 {a : Nat} (h : a < 2 ^ 31) : 0 < nI a ↔ 0 < a := by rw [← nI_0]; exact nI_ltI (by omega) h
theorem nI_le0 {a : Nat} (h : a < 2 ^ 31) : nI a ≤ 0 ↔ a ≤ 0 := by rw [← nI_0]; exact nI_leI h (by omega)
theorem nI_max {a b : Nat} (ha : a < 2 ^ 31) (hb : b < 2 ^ 31) : (if nI a < nI b then nI b else nI a) = nI (max a b) := by
  by_cases h : a < b
  · rw [if_pos ((nI_ltI ha hb).mpr h), Nat.max_eq_right (by omega)]
  · rw [if_neg (mt (nI_ltI ha hb).mp h), Nat.max_eq_left (by omega)]
theorem nI_min {a b : Nat} (ha : a < 2 ^ 31) (hb : b < 2 ^ 31) : (if nI b < nI a then nI b else nI a) = nI (min a b) := by
  by_cases h : b < a
  · rw [if_pos ((nI_ltI hb ha).mpr h), Nat.min_eq_right (by omega)]
  · rw [if_neg (mt (nI_ltI hb ha).mp h), Nat.min_eq_left (by omega)]
theorem nI_bv (n : Nat) : (nI n).toBitVec = BitVec.ofNat 32 n := rfl
theorem nI_shr {d p : Nat} (hd : d < 2 ^ 31) (hp : p < 32) : nI d >>> (nI p &&& 31) = nI (d >>> p) := by
  rw [Nat.shiftRight_eq_div_pow]; exact pk_shrN hd _ p (s_l p hp)
theorem nI_shl (a : Nat) {p : Nat} (hp : p < 32) : nI a <<< (nI p &&& 31) = nI (a * 2 ^ p) := by
  apply Int32.toBitVec_inj.mp
  apply BitVec.eq_of_toNat_eq
  rw [pk_shl (nI a) _ p (s_l p hp), nI_bv, nI_bv, BitVec.toNat_ofNat, BitVec.toNat_ofNat, Nat.mod_mul_mod]
theorem nI_one_shl {p : Nat} (hp : p < 32) : nI 1 <<< (nI p &&& 31) = nI (2 ^ p) := by
  rw [nI_shl 1 hp, Nat.one_mul]
theorem nI_ushr {n k : Nat} (hn : n < 2 ^ 32) (hk : k < 32) : ((nI n).toUInt32 >>> ((nI k).toUInt32 &&& Int32.toUInt32 31)).toInt32 = nI (n >>> k) := by
  rw [Nat.shiftRight_eq_div_pow]; exact pk_ushrN hn _ k (s_u k hk)
theorem jF_upd (f : Nat → Int64) {i : Nat} (h : i < 2 ^ 31) (v : Int64) : vp_updL f (nI i).toNatClampNeg v = va_up f i v := by
  rw [nI_clamp h]; rfl
/-- a without the bits of b -/
def nd (a b : Nat) : Nat := a ^^^ (a &&& b)
theorem nd_bit (a b i : Nat) : (nd a b).testBit i = (a.testBit i && !b.testBit i) := by
  unfold nd; rw [Nat.testBit_xor, Nat.testBit_and]; cases a.testBit i <;> cases b.testBit i <;> rfl
theorem nd_lt {a b n : Nat} (h : a < 2 ^ n) : nd a b < 2 ^ n := by
  unfold nd; exact Nat.xor_lt_two_pow h (Nat.lt_of_le_of_lt Nat.and_le_left h)
theorem nI_nd (a b : Nat) : nI a &&& (nI b ^^^ (-1)) = nI (nd a b) := by
  apply b_ext
  intro i hi
  rw [b_and, b_xor, b_m1 i hi]
  show ((nI a).toBitVec.getLsbD i && ((nI b).toBitVec.getLsbD i ^^ true)) = (nI (nd a b)).toBitVec.getLsbD i
  rw [nI_bv, nI_bv, nI_bv, BitVec.getLsbD_ofNat, BitVec.getLsbD_ofNat, BitVec.getLsbD_ofNat, nd_bit]
  cases a.testBit i <;> cases b.testBit i <;> simp [hi]
theorem shr_and1 (d p : Nat) : (d >>> p) &&& 1 = if d.testBit p then 1 else 0 := by
  rw [Nat.and_one_is_mod, Nat.shiftRight_eq_div_pow]
  have h : d.testBit p = decide (d / 2 ^ p % 2 = 1) := by rw [Nat.testBit_eq_decide_div_mod_eq]
  rw [h]
  have := Nat.mod_two_eq_zero_or_one (d / 2 ^ p)
  rcases this with q | q <;> simp [q]
theorem bitI (d p : Nat) : nI ((d >>> p) &&& 1) = bI (d.testBit p) := by rw [shr_and1, bI_nI]
/-! ===== the words of the document over numbers ===== -/
/-- the kinds of the first n places of a dish, as bits -/
def kds (k : Nat → Nat) (d : Nat) : Nat → Nat
  | 0 => 0
  | n + 1 => if d.testBit n then kds k d n ||| 2 ^ k n else kds k d n
theorem kds_lt {k : Nat → Nat} {d : Nat} : ∀ {n : Nat}, (∀ j, j < n → k j < 16) → kds k d n < 65536
  | 0, _ => by unfold kds; decide
  | n + 1, h => by
    unfold kds
    have ih : kds k d n < 65536 := kds_lt (fun j hj => h j (by omega))
    have h2 : 2 ^ k n < 2 ^ 16 := Nat.pow_lt_pow_right (by decide) (h n (by omega))
    split
    · exact Nat.or_lt_two_pow (n := 16) ih h2
    · exact ih
/-- a rule holds for kinds -/
def hld (nd sp kk : Nat) : Bool := decide (nd ≠ 0) && (decide (kk &&& nd = nd) && decide (kk &&& sp = 0))
/-- how many rules of the first r hold -/
def hcn (nd sp : Nat → Nat) (kk : Nat) : Nat → Nat
  | 0 => 0
  | r + 1 => hcn nd sp kk r + if hld (nd r) (sp r) kk then 1 else 0
theorem hcn_le (nd sp : Nat → Nat) (kk : Nat) : ∀ r, hcn nd sp kk r ≤ r
  | 0 => Nat.le_refl 0
  | r + 1 => by have := hcn_le nd sp kk r; unfold hcn; split <;> omega
/-- how many bits of the first n are set -/
def cnt (d : Nat) : Nat → Nat
  | 0 => 0
  | n + 1 => cnt d n + if d.testBit n then 1 else 0
theorem cnt_le (d : Nat) : ∀ n, cnt d n ≤ n
  | 0 => Nat.le_refl 0
  | n + 1 => by have := cnt_le d n; unfold cnt; split <;> omega
/-- the places whose number in the dish is from a on, ahead of b -/
def prt (d a b : Nat) : Nat → Nat
  | 0 => 0
  | n + 1 => if d.testBit n && (decide (a ≤ cnt d n) && decide (cnt d n < b)) then prt d a b n ||| 2 ^ n else prt d a b n
/-- the least needed number of the first r rules that can hold -/
def lst (nd : Nat → Nat) (kk : Nat) : Nat → Nat
  | 0 => 0
  | r + 1 => if (0 < cnt (nd r) 24 ∧ kk &&& nd r = nd r) ∧ (lst nd kk r = 0 ∨ cnt (nd r) 24 < lst nd kk r) then cnt (nd r) 24 else lst nd kk r
theorem lst_t {nd : Nat → Nat} {kk r : Nat} (h1 : 0 < cnt (nd r) 24) (h2 : kk &&& nd r = nd r) (h3 : lst nd kk r = 0 ∨ cnt (nd r) 24 < lst nd kk r) : lst nd kk (r + 1) = cnt (nd r) 24 := if_pos ⟨⟨h1, h2⟩, h3⟩
theorem lst_f {nd : Nat → Nat} {kk r : Nat} (h : ¬ ((0 < cnt (nd r) 24 ∧ kk &&& nd r = nd r) ∧ (lst nd kk r = 0 ∨ cnt (nd r) 24 < lst nd kk r))) : lst nd kk (r + 1) = lst nd kk r := if_neg h
theorem lst_le (nd : Nat → Nat) (kk : Nat) : ∀ r, lst nd kk r ≤ 24
  | 0 => by unfold lst; omega
  | r + 1 => by
    have h := lst_le nd kk r
    have h2 := cnt_le (nd r) 24
    show (if (0 < cnt (nd r) 24 ∧ kk &&& nd r = nd r) ∧ (lst nd kk r = 0 ∨ cnt (nd r) 24 < lst nd kk r) then cnt (nd r) 24 else lst nd kk r) ≤ 24
    split <;> omega
theorem hld_t {a b kk : Nat} (h1 : ¬ a = 0) (h2 : kk &&& a = a) (h3 : kk &&& b = 0) : hld a b kk = true := by
  unfold hld; rw [decide_eq_true h1, decide_eq_true h2, decide_eq_true h3]; rfl
theorem hld_f1 {a b kk : Nat} (h1 : a = 0) : hld a b kk = false := by
  unfold hld; rw [decide_eq_false (fun h => h h1)]; rfl
theorem hld_f2 {a b kk : Nat} (h2 : ¬ kk &&& a = a) : hld a b kk = false := by
  unfold hld; rw [decide_eq_false h2, Bool.false_and, Bool.and_false]
theorem hld_f3 {a b kk : Nat} (h3 : ¬ kk &&& b = 0) : hld a b kk = false := by
  unfold hld; rw [decide_eq_false h3, Bool.and_false, Bool.and_false]
theorem hcn_t {a b : Nat → Nat} {kk r : Nat} (h : hld (a r) (b r) kk = true) : hcn a b kk (r + 1) = hcn a b kk r + 1 := by
  show hcn a b kk r + (if hld (a r) (b r) kk then 1 else 0) = _; rw [if_pos h]
theorem hcn_f {a b : Nat → Nat} {kk r : Nat} (h : hld (a r) (b r) kk = false) : hcn a b kk (r + 1) = hcn a b kk r := by
  show hcn a b kk r + (if hld (a r) (b r) kk then 1 else 0) = _; rw [if_neg (by rw [h]; decide)]; rfl
theorem kds_t {k : Nat → Nat} {d n : Nat} (h : d.testBit n = true) : kds k d (n + 1) = kds k d n ||| 2 ^ k n := if_pos h
theorem kds_f {k : Nat → Nat} {d n : Nat} (h : d.testBit n = false) : kds k d (n + 1) = kds k d n := if_neg (by rw [h]; decide)
/-! ===== one bit's place: the walk of Integer.numberOfTrailingZeros ===== -/
theorem ntz_0 : ∀ p, p < 24 → (nI (2 ^ p) ^^^ (-1)) &&& nI (2 ^ p - 1) = nI (2 ^ p - 1) := by decide +kernel
theorem ntz_lt : ∀ p, p < 24 → 1 ≤ 2 ^ p ∧ 2 ^ p < 2 ^ 24 := by decide +kernel
theorem ntz_c : ∀ p, p < 24 → (0 < 2 ^ p - 1 ↔ 0 < p) ∧ (2 ^ p - 1 ≤ 65536 ↔ p ≤ 16) ∧ (2 ^ p - 1 ≤ 256 ↔ p ≤ 8) ∧ (2 ^ p - 1 ≤ 16 ↔ p ≤ 4) ∧ (2 ^ p - 1 ≤ 4 ↔ p ≤ 2) := by decide +kernel
theorem ntz_s : ∀ p, p < 24 → ∀ s, s < 24 → s ≤ p → (2 ^ p - 1) >>> s = 2 ^ (p - s) - 1 := by decide +kernel
theorem ntz_e : ∀ q, q < 3 → 0 < q → (2 ^ q - 1) >>> 1 = q - 1 := by decide +kernel
/-! ===== places, dishes, what is told of them in ints ===== -/
def hp (x : Int32) (n : Nat) : Bool := decide (0 ≤ x) && decide (x < nI n)
theorem hp_t {x : Int32} {n : Nat} (h1 : ¬ x < 0) (h2 : ¬ nI n ≤ x) : hp x n = true := by
  unfold hp; rw [decide_eq_true (fa_of_nlt h1), decide_eq_true (fa_of_nle h2)]; rfl
theorem hp_f1 {x : Int32} {n : Nat} (h1 : x < 0) : hp x n = false := by
  unfold hp; rw [decide_eq_false (fun h => (fa_of_lt h1).2.1 h)]; rfl
theorem hp_f2 {x : Int32} {n : Nat} (h2 : nI n ≤ x) : hp x n = false := by
  unfold hp; rw [decide_eq_false (p := x < nI n) (fun h => (fa_of_lt h).2.1 h2), Bool.and_false]
theorem hp_nI {j n : Nat} (hj : j < n) (hn : n ≤ 24) : hp (nI j) n = true :=
  hp_t (by rw [nI_lt0 (by omega)]; omega) (by rw [nI_leI (by omega) (by omega)]; omega)
theorem hp_of {x : Int32} {n : Nat} (hn : n ≤ 24) (h : hp x n = true) : ∃ j, j < n ∧ x = nI j := by
  unfold hp at h
  rw [Bool.and_eq_true, decide_eq_true_eq, decide_eq_true_eq] at h
  rcases pk_ix x (n := n) (by omega) with q | q | q
  · exact absurd h.1 (fa_of_lt q).2.1
  · exact absurd q (fa_of_lt h.2).2.1
  · exact q
def hdi (x : Int32) (n : Nat) : Bool := decide (0 ≤ x) && decide (x >>> (nI n &&& 31) = 0)
theorem hdi_t {x : Int32} {n : Nat} (h1 : ¬ x < 0) (h2 : x >>> (nI n &&& 31) = 0) : hdi x n = true := by
  unfold hdi; rw [decide_eq_true (fa_of_nlt h1), decide_eq_true h2]; rfl
theorem hdi_f1 {x : Int32} {n : Nat} (h1 : x < 0) : hdi x n = false := by
  unfold hdi; rw [decide_eq_false (fun h => (fa_of_lt h1).2.1 h)]; rfl
theorem hdi_f2 {x : Int32} {n : Nat} (h2 : ¬ x >>> (nI n &&& 31) = 0) : hdi x n = false := by
  unfold hdi; rw [decide_eq_false (p := x >>> (nI n &&& 31) = 0) h2, Bool.and_false]
/-- a row while the place j is taken out, moved up to ahead of i -/
def tkt (k : Nat → Nat) (j i : Nat) : Nat → Nat := fun q => if j ≤ q ∧ q < i then k (q + 1) else k q
theorem tkt_0 (k : Nat → Nat) (j : Nat) : tkt k j j = k := by
  funext q; unfold tkt; rw [if_neg (by omega)]
theorem tkt_s (k : Nat → Nat) {j i : Nat} (h : j ≤ i) : va_up (tkt k j i) i (tkt k j i (i + 1)) = tkt k j (i + 1) := by
  funext q
  unfold va_up tkt
  by_cases hq : q = i
  · subst hq; rw [if_pos rfl, if_neg (by omega), if_pos (by omega)]
  · rw [if_neg hq]
    by_cases h2 : j ≤ q ∧ q < i
    · rw [if_pos h2, if_pos (by omega)]
    · rw [if_neg h2, if_neg (by omega)]
/-! ===== how many bits: the walk of Integer.bitCount, byte by byte ===== -/
theorem add_and (n x y : Nat) {a b : Nat} (ha : a < 2 ^ n) (hb : b < 2 ^ n) : (2 ^ n * x + a) &&& (2 ^ n * y + b) = 2 ^ n * (x &&& y) + (a &&& b) := by
  apply Nat.eq_of_testBit_eq
  intro i
  rw [Nat.testBit_and, Nat.testBit_two_pow_mul_add x ha, Nat.testBit_two_pow_mul_add y hb, Nat.testBit_two_pow_mul_add (x &&& y) (Nat.and_lt_two_pow a hb)]
  split
  · rw [Nat.testBit_and]
  · rw [Nat.testBit_and]
def bc1 (d m : Nat) : Nat := d - ((d >>> 1) &&& m)
def bc2 (d m : Nat) : Nat := (d &&& m) + ((d >>> 2) &&& m)
def bc3 (d m : Nat) : Nat := (d + (d >>> 4)) &&& m
theorem bc_b1 : ∀ t, t < 2 → ∀ b, b < 128 → (128 * t + b) &&& 85 = b &&& 85 := by decide +kernel
theorem bc_b2 : ∀ t, t < 4 → ∀ b, b < 64 → (64 * t + b) &&& 51 = b &&& 51 := by decide +kernel
theorem bc1_s (y m : Nat) {b : Nat} (hb : b < 256) : bc1 (256 * y + b) (256 * m + 85) = 256 * bc1 y m + bc1 b 85 := by
  unfold bc1
  rw [Nat.shiftRight_eq_div_pow, Nat.shiftRight_eq_div_pow, Nat.shiftRight_eq_div_pow]
  have e : (256 * y + b) / 2 ^ 1 = 2 ^ 8 * (y / 2 ^ 1) + (128 * (y % 2) + b / 2) := by omega
  have h0 : 128 * (y % 2) + b / 2 < 2 ^ 8 := by omega
  rw [e, show 256 * m + 85 = 2 ^ 8 * m + 85 from rfl, add_and 8 (y / 2 ^ 1) m h0 (by decide), bc_b1 (y % 2) (by omega) (b / 2) (by omega)]
  have h1 : (y / 2 ^ 1) &&& m ≤ y := Nat.le_trans Nat.and_le_left (by omega)
  have h2 : (b / 2) &&& 85 ≤ b := Nat.le_trans Nat.and_le_left (by omega)
  show 256 * y + b - (256 * ((y / 2 ^ 1) &&& m) + ((b / 2) &&& 85)) = 256 * (y - ((y / 2 ^ 1) &&& m)) + (b - ((b / 2) &&& 85))
  omega
theorem bc2_s (y m : Nat) {b : Nat} (hb : b < 256) : bc2 (256 * y + b) (256 * m + 51) = 256 * bc2 y m + bc2 b 51 := by
  unfold bc2
  rw [Nat.shiftRight_eq_div_pow, Nat.shiftRight_eq_div_pow, Nat.shiftRight_eq_div_pow]
  have e : (256 * y + b) / 2 ^ 2 = 2 ^ 8 * (y / 2 ^ 2) + (64 * (y % 4) + b / 4) := by omega
  have h0 : 64 * (y % 4) + b / 4 < 2 ^ 8 := by omega
  have h3 := add_and 8 y m (a := b) (b := 51) (by omega) (by decide)
  have h4 := add_and 8 (y / 2 ^ 2) m h0 (b := 51) (by decide)
  rw [e, show 256 * m + 51 = 2 ^ 8 * m + 51 from rfl, h4, bc_b2 (y % 4) (by omega) (b / 4) (by omega), show 256 * y + b = 2 ^ 8 * y + b from rfl, h3]
  show 256 * (y &&& m) + (b &&& 51) + (256 * ((y / 2 ^ 2) &&& m) + ((b / 4) &&& 51)) = 256 * ((y &&& m) + ((y / 2 ^ 2) &&& m)) + ((b &&& 51) + ((b / 4) &&& 51))
  omega
theorem bc_b3 : ∀ t, t < 6 → ∀ b, b < 103 → (16 * t + b + b / 16) &&& 15 = (b + b / 16) &&& 15 := by decide +kernel
theorem bc3_s (y m : Nat) {b : Nat} (hb : b < 103) (hy : y % 16 < 6) : bc3 (256 * y + b) (256 * m + 15) = 256 * bc3 y m + bc3 b 15 := by
  unfold bc3
  rw [Nat.shiftRight_eq_div_pow, Nat.shiftRight_eq_div_pow, Nat.shiftRight_eq_div_pow]
  have e : 256 * y + b + (256 * y + b) / 2 ^ 4 = 2 ^ 8 * (y + y / 2 ^ 4) + (16 * (y % 16) + b + b / 16) := by omega
  have h0 : 16 * (y % 16) + b + b / 16 < 2 ^ 8 := by omega
  rw [e, show 256 * m + 15 = 2 ^ 8 * m + 15 from rfl, add_and 8 _ m h0 (by decide), bc_b3 (y % 16) hy b hb]
theorem bc_t : ∀ b, b < 256 → bc2 (bc1 b 85) 51 < 103 ∧ bc2 (bc1 b 85) 51 % 16 < 6 ∧ bc1 b 85 < 256 ∧ bc3 (bc2 (bc1 b 85) 51) 15 = cnt b 8 := by decide +kernel
theorem cnt_succ (d n : Nat) : cnt d (n + 1) = cnt d n + if d.testBit n then 1 else 0 := rfl
theorem cnt_s (y : Nat) {b : Nat} (hb : b < 256) : ∀ n, cnt (256 * y + b) (8 + n) = cnt b 8 + cnt y n
  | 0 => by
    have h : ∀ i, i ≤ 8 → cnt (256 * y + b) i = cnt b i := by
      intro i
      induction i with
      | zero => intro _; rfl
      | succ i ih =>
        intro hi
        rw [cnt_succ, cnt_succ, ih (by omega), show 256 * y + b = 2 ^ 8 * y + b from rfl, Nat.testBit_two_pow_mul_add y (i := 8) hb, if_pos (show i < 8 by omega)]
    exact h 8 (Nat.le_refl 8)
  | n + 1 => by
    show cnt (256 * y + b) (8 + n) + (if (256 * y + b).testBit (8 + n) then 1 else 0) = cnt b 8 + (cnt y n + if y.testBit n then 1 else 0)
    have e : (256 * y + b).testBit (8 + n) = y.testBit n := by
      rw [show 256 * y + b = 2 ^ 8 * y + b from rfl, Nat.testBit_two_pow_mul_add y (i := 8) hb, if_neg (by omega), show 8 + n - 8 = n by omega]
    rw [e, cnt_s y hb n, Nat.add_assoc]
theorem bc_t2 : ∀ b, b < 256 → bc1 b 21845 = bc1 b 85 ∧ bc2 (bc1 b 85) 13107 = bc2 (bc1 b 85) 51 ∧ bc3 (bc2 (bc1 b 85) 51) 3855 = bc3 (bc2 (bc1 b 85) 51) 15 := by decide +kernel
theorem bc_all {d : Nat} (hd : d < 2 ^ 24) (i3 : Nat) (h3 : i3 = bc3 (bc2 (bc1 d 1431655765) 858993459) 252645135) (i4 : Nat) (h4 : i4 = i3 + (i3 >>> 8)) (i5 : Nat) (h5 : i5 = i4 + (i4 >>> 16)) : i3 < 2 ^ 24 ∧ i4 < 2 ^ 25 ∧ i5 < 2 ^ 26 ∧ i5 &&& 63 = cnt d 24 := by
  obtain ⟨b0, b1, b2, g0, g1, g2, rfl⟩ : ∃ b0 b1 b2, b0 < 256 ∧ b1 < 256 ∧ b2 < 256 ∧ d = 256 * (256 * b2 + b1) + b0 := ⟨d % 256, d / 256 % 256, d / 65536, by omega, by omega, by omega, by omega⟩
  obtain ⟨t0, u0, v0, w0⟩ := bc_t b0 g0
  obtain ⟨t1, u1, v1, w1⟩ := bc_t b1 g1
  obtain ⟨t2, u2, v2, w2⟩ := bc_t b2 g2
  obtain ⟨x1, x2, x3⟩ := bc_t2 b2 g2
  have e1 : bc1 (256 * (256 * b2 + b1) + b0) 1431655765 = 256 * (256 * bc1 b2 85 + bc1 b1 85) + bc1 b0 85 := by
    rw [show (1431655765 : Nat) = 256 * (256 * 21845 + 85) + 85 from rfl, bc1_s _ _ g0, bc1_s _ _ g1, x1]
  have e2 : bc2 (256 * (256 * bc1 b2 85 + bc1 b1 85) + bc1 b0 85) 858993459 = 256 * (256 * bc2 (bc1 b2 85) 51 + bc2 (bc1 b1 85) 51) + bc2 (bc1 b0 85) 51 := by
    rw [show (858993459 : Nat) = 256 * (256 * 13107 + 51) + 51 from rfl, bc2_s _ _ v0, bc2_s _ _ v1, x2]
  have e3 : bc3 (256 * (256 * bc2 (bc1 b2 85) 51 + bc2 (bc1 b1 85) 51) + bc2 (bc1 b0 85) 51) 252645135 = 256 * (256 * cnt b2 8 + cnt b1 8) + cnt b0 8 := by
    rw [show (252645135 : Nat) = 256 * (256 * 3855 + 15) + 15 from rfl, bc3_s _ _ t0 (by omega), bc3_s _ _ t1 (by omega), x3, w0, w1, w2]
  rw [e1, e2, e3] at h3
  have c0 := cnt_le b0 8
  have c1 := cnt_le b1 8
  have c2 := cnt_le b2 8
  have hc : cnt (256 * (256 * b2 + b1) + b0) 24 = cnt b0 8 + (cnt b1 8 + cnt b2 8) := by
    rw [show (24 : Nat) = 8 + (8 + 8) from rfl, cnt_s _ g0, cnt_s _ g1]
  rw [hc]
  rw [Nat.shiftRight_eq_div_pow] at h4 h5
  rw [show (63 : Nat) = 2 ^ 6 - 1 from rfl, Nat.and_two_pow_sub_one_eq_mod]
  generalize cnt b0 8 = q0 at *
  generalize cnt b1 8 = q1 at *
  generalize cnt b2 8 = q2 at *
  clear e1 e2 e3 t0 u0 v0 w0 t1 u1 v1 w1 t2 u2 v2 w2 x1 x2 x3 hc hd g0 g1 g2
  have k3 : i3 / 2 ^ 8 = 256 * q2 + q1 := by omega
  have k4 : i4 = 65536 * q2 + 256 * (q1 + q2) + (q0 + q1) := by omega
  have k5 : i4 / 2 ^ 16 = q2 := by omega
  have k6 : i5 = 65536 * q2 + 256 * (q1 + q2) + (q0 + q1 + q2) := by omega
  refine ⟨by omega, by omega, by omega, by omega⟩
theorem bc_lt {d : Nat} (hd : d < 2 ^ 24) : ((d >>> 1) &&& 1431655765) ≤ d ∧ bc1 d 1431655765 < 2 ^ 24 ∧ (bc1 d 1431655765 &&& 858993459) < 2 ^ 24 ∧ ((bc1 d 1431655765 >>> 2) &&& 858993459) < 2 ^ 24 ∧ bc2 (bc1 d 1431655765) 858993459 < 2 ^ 25 ∧ (bc2 (bc1 d 1431655765) 858993459 >>> 4) < 2 ^ 25 := by
  have h1 : ((d >>> 1) &&& 1431655765) ≤ d := Nat.le_trans Nat.and_le_left (by rw [Nat.shiftRight_eq_div_pow]; omega)
  have h2 : bc1 d 1431655765 < 2 ^ 24 := by unfold bc1; omega
  have h3 : (bc1 d 1431655765 &&& 858993459) < 2 ^ 24 := Nat.lt_of_le_of_lt Nat.and_le_left h2
  have h4 : ((bc1 d 1431655765 >>> 2) &&& 858993459) < 2 ^ 24 := Nat.lt_of_le_of_lt Nat.and_le_left (by rw [Nat.shiftRight_eq_div_pow]; omega)
  have h5 : bc2 (bc1 d 1431655765) 858993459 < 2 ^ 25 := by unfold bc2; omega
  exact ⟨h1, h2, h3, h4, h5, by rw [Nat.shiftRight_eq_div_pow]; omega⟩
end
section
set_option maxRecDepth 100000 in
theorem in0_X0_size : ∀ w ∈ wsX00, w ∈ wsX0_size := by decide +kernel
set_option maxHeartbeats 4000000 in
set_option maxRecDepth 100000 in
theorem c_X0_size (l : Launch) (G : cG) (a ka n : Nat) (k : Nat → Nat) (hn : n ≤ 24) : cMI l G yX0_size wsX0_size ({ frames := 0, cells := 0, slots := 0, locals := 0 }) [.ref a] [(a, .inr (0, [.ref ka, .int (nI n)])), (ka, .inl (G.2.1, 24, .inl (nF k)))] (fun (r : Int32) (_ : Unit) => r = nI n) (fun (_ : Unit) => [(a, .inr (0, [.ref ka, .int (nI n)])), (ka, .inl (G.2.1, 24, .inl (nF k)))]) := by
  refine cs_sI (own := RX0) (cc := cX0_size) (maxL := 1) (ret := (some .int)) (by decide) rfl rfl (Nat.le_of_ble_eq_true rfl) ?_
  intro p e s m below meth c A hx hb hr hml hts hown hlocks hinit hA hK hP hD hS ls hl
  have hin0 := in0_X0_size
  have hl : lv_has ls 1 [(0, .ref a)] := hl
  refine lv_aload_n hx hb dX0_size_0 rfl (lv_at hl 0 rfl) ?_
  refine va_get (D := G.1) (ci := 0) (v := .int (nI n)) (C := RX0) (T := TX0) (N := 2) hx hb hts hin0 hown hK hP 0 rfl rfl 1 (by decide) (hts (.fieldLink RX0 15 "FaultShrinker$Recipe" "size" "I") (List.mem_of_getElem? (i := 1) rfl)) (fun _ h9 => h9) rfl dX0_size_1 ?_
  exact cs_iret hx hb hr hlocks hK hP hD hS (v := nI n) () (by first | rfl | assumption) rfl dX0_size_4

set_option maxRecDepth 100000 in
theorem in0_X0_isFull : ∀ w ∈ wsX00, w ∈ wsX0_isFull := by decide +kernel
set_option maxHeartbeats 4000000 in
set_option maxRecDepth 100000 in
theorem c_X0_isFull (l : Launch) (G : cG) (a ka n : Nat) (k : Nat → Nat) (hn : n ≤ 24) : cMI l G yX0_isFull wsX0_isFull ({ frames := 0, cells := 0, slots := 0, locals := 0 }) [.ref a] [(a, .inr (0, [.ref ka, .int (nI n)])), (ka, .inl (G.2.1, 24, .inl (nF k)))] (fun (r : Int32) (_ : Unit) => r = bI (decide (24 ≤ n))) (fun (_ : Unit) => [(a, .inr (0, [.ref ka, .int (nI n)])), (ka, .inl (G.2.1, 24, .inl (nF k)))]) := by
  refine cs_sI (own := RX0) (cc := cX0_isFull) (maxL := 1) (ret := (some .boolean)) (by decide) rfl rfl (Nat.le_of_ble_eq_true rfl) ?_
  intro p e s m below meth c A hx hb hr hml hts hown hlocks hinit hA hK hP hD hS ls hl
  have hin0 := in0_X0_isFull
  have hl : lv_has ls 1 [(0, .ref a)] := hl
  refine lv_aload_n hx hb dX0_isFull_0 rfl (lv_at hl 0 rfl) ?_
  refine va_get (D := G.1) (ci := 0) (v := .int (nI n)) (C := RX0) (T := TX0) (N := 2) hx hb hts hin0 hown hK hP 0 rfl rfl 1 (by decide) (hts (.fieldLink RX0 15 "FaultShrinker$Recipe" "size" "I") (List.mem_of_getElem? (i := 1) rfl)) (fun _ h9 => h9) rfl dX0_isFull_1 ?_
  refine lv_aload_n hx hb dX0_isFull_4 rfl (lv_at hl 0 rfl) ?_
  refine va_get (D := G.1) (ci := 0) (v := .ref ka) (C := RX0) (T := TX0) (N := 2) hx hb hts hin0 hown hK hP 0 rfl rfl 0 (by decide) (hts (.fieldLink RX0 9 "FaultShrinker$Recipe" "kinds" "[I") (List.mem_of_getElem? (i := 2) rfl)) (fun _ h9 => h9) rfl dX0_isFull_5 ?_
  refine va_alen hx hb hK hP 1 0 rfl rfl (v := nI 24) rfl dX0_isFull_8 ?_
  refine lv_icmp_lt (tgt := 16) hx hb dX0_isFull_9 (by decide) (fun c_9 => ?_) (fun c_9 => ?_)
  · have c_9 := (nI_ltI (by omega) (by omega)).mp c_9
    refine lv_iconst (v := nI 0) hx hb dX0_isFull_16 (by decide +kernel) ?_
    exact cs_zret hx hb hr hlocks hK hP hD hS (v := nI 0) (rfl) () (by first | (rw [decide_eq_true (by omega)]; rfl) | (rw [decide_eq_false (by omega)]; rfl)) rfl dX0_isFull_17
  · have c_9 := mt (nI_ltI (by omega) (by omega)).mpr c_9
    refine lv_iconst (v := nI 1) hx hb dX0_isFull_12 (by decide +kernel) ?_
    refine lv_goto (tgt := 17) hx hb dX0_isFull_13 (by decide) ?_
    exact cs_zret hx hb hr hlocks hK hP hD hS (v := nI 1) (rfl) () (by first | (rw [decide_eq_true (by omega)]; rfl) | (rw [decide_eq_false (by omega)]; rfl)) rfl dX0_isFull_17

set_option maxRecDepth 100000 in
theorem in0_X0_hasPlace : ∀ w ∈ wsX00, w ∈ wsX0_hasPlace := by decide +kernel
set_option maxHeartbeats 4000000 in
set_option maxRecDepth 100000 in
theorem c_X0_hasPlace (l : Launch) (G : cG) (a ka n : Nat) (k : Nat → Nat) (hn : n ≤ 24) (x : Int32) : cMI l G yX0_hasPlace wsX0_hasPlace ({ frames := 0, cells := 0, slots := 0, locals := 0 }) [.ref a, .int x] [(a, .inr (0, [.ref ka, .int (nI n)])), (ka, .inl (G.2.1, 24, .inl (nF k)))] (fun (r : Int32) (_ : Unit) => r = bI (hp x n)) (fun (_ : Unit) => [(a, .inr (0, [.ref ka, .int (nI n)])), (ka, .inl (G.2.1, 24, .inl (nF k)))]) := by
  refine cs_sI (own := RX0) (cc := cX0_hasPlace) (maxL := 2) (ret := (some .boolean)) (by decide) rfl rfl (Nat.le_of_ble_eq_true rfl) ?_
  intro p e s m below meth c A hx hb hr hml hts hown hlocks hinit hA hK hP hD hS ls hl
  have hin0 := in0_X0_hasPlace
  have hl : lv_has ls 2 [(0, .ref a), (1, .int x)] := hl
  refine lv_iload_n hx hb dX0_hasPlace_0 rfl (lv_at hl 1 rfl) ?_
  refine lv_if_lt (tgt := 16) hx hb dX0_hasPlace_1 (by decide) (fun c_1 => ?_) (fun c_1 => ?_)
  · refine lv_iconst (v := nI 0) hx hb dX0_hasPlace_16 (by decide +kernel) ?_
    exact cs_zret hx hb hr hlocks hK hP hD hS (v := nI 0) (rfl) () (by first | (rw [hp_t c_1 c_9]; rfl) | (rw [hp_f1 c_1]; rfl) | (rw [hp_f2 c_9]; rfl)) rfl dX0_hasPlace_17
  · refine lv_iload_n hx hb dX0_hasPlace_4 rfl (lv_at hl 1 rfl) ?_
    refine lv_aload_n hx hb dX0_hasPlace_5 rfl (lv_at hl 0 rfl) ?_
    refine va_get (D := G.1) (ci := 0) (v := .int (nI n)) (C := RX0) (T := TX0) (N := 2) hx hb hts hin0 hown hK hP 0 rfl rfl 1 (by decide) (hts (.fieldLink RX0 15 "FaultShrinker$Recipe" "size" "I") (List.mem_of_getElem? (i := 1) rfl)) (fun _ h9 => h9) rfl dX0_hasPlace_6 ?_
    refine lv_icmp_ge (tgt := 16) hx hb dX0_hasPlace_9 (by decide) (fun c_9 => ?_) (fun c_9 => ?_)
    · refine lv_iconst (v := nI 0) hx hb dX0_hasPlace_16 (by decide +kernel) ?_
      exact cs_zret hx hb hr hlocks hK hP hD hS (v := nI 0) (rfl) () (by first | (rw [hp_t c_1 c_9]; rfl) | (rw [hp_f1 c_1]; rfl) | (rw [hp_f2 c_9]; rfl)) rfl dX0_hasPlace_17
    · refine lv_iconst (v := nI 1) hx hb dX0_hasPlace_12 (by decide +kernel) ?_
      refine lv_goto (tgt := 17) hx hb dX0_hasPlace_13 (by decide) ?_
      exact cs_zret hx hb hr hlocks hK hP hD hS (v := nI 1) (rfl) () (by first | (rw [hp_t c_1 c_9]; rfl) | (rw [hp_f1 c_1]; rfl) | (rw [hp_f2 c_9]; rfl)) rfl dX0_hasPlace_17

set_option maxRecDepth 100000 in
theorem in0_X0_hasDish : ∀ w ∈ wsX00, w ∈ wsX0_hasDish := by decide +kernel
set_option maxHeartbeats 4000000 in
set_option maxRecDepth 100000 in
theorem c_X0_hasDish (l : Launch) (G : cG) (a ka n : Nat) (k : Nat → Nat) (hn : n ≤ 24) (x : Int32) : cMI l G yX0_hasDish wsX0_hasDish ({ frames := 0, cells := 0, slots := 0, locals := 0 }) [.ref a, .int x] [(a, .inr (0, [.ref ka, .int (nI n)])), (ka, .inl (G.2.1, 24, .inl (nF k)))] (fun (r : Int32) (_ : Unit) => r = bI (hdi x n)) (fun (_ : Unit) => [(a, .inr (0, [.ref ka, .int (nI n)])), (ka, .inl (G.2.1, 24, .inl (nF k)))]) := by
  refine cs_sI (own := RX0) (cc := cX0_hasDish) (maxL := 2) (ret := (some .boolean)) (by decide) rfl rfl (Nat.le_of_ble_eq_true rfl) ?_
  intro p e s m below meth c A hx hb hr hml hts hown hlocks hinit hA hK hP hD hS ls hl
  have hin0 := in0_X0_hasDish
  have hl : lv_has ls 2 [(0, .ref a), (1, .int x)] := hl
  refine lv_iload_n hx hb dX0_hasDish_0 rfl (lv_at hl 1 rfl) ?_
  refine lv_if_lt (tgt := 17) hx hb dX0_hasDish_1 (by decide) (fun c_1 => ?_) (fun c_1 => ?_)
  · refine lv_iconst (v := nI 0) hx hb dX0_hasDish_17 (by decide +kernel) ?_
    exact cs_zret hx hb hr hlocks hK hP hD hS (v := nI 0) (rfl) () (by first | (rw [hdi_t c_1 c_10]; rfl) | (rw [hdi_f1 c_1]; rfl) | (rw [hdi_f2 c_10]; rfl)) rfl dX0_hasDish_18
  · refine lv_iload_n hx hb dX0_hasDish_4 rfl (lv_at hl 1 rfl) ?_
    refine lv_aload_n hx hb dX0_hasDish_5 rfl (lv_at hl 0 rfl) ?_
    refine va_get (D := G.1) (ci := 0) (v := .int (nI n)) (C := RX0) (T := TX0) (N := 2) hx hb hts hin0 hown hK hP 0 rfl rfl 1 (by decide) (hts (.fieldLink RX0 15 "FaultShrinker$Recipe" "size" "I") (List.mem_of_getElem? (i := 1) rfl)) (fun _ h9 => h9) rfl dX0_hasDish_6 ?_
    refine lv_ishr hx hb dX0_hasDish_9 ?_
    refine lv_if_ne (tgt := 17) hx hb dX0_hasDish_10 (by decide) (fun c_10 => ?_) (fun c_10 => ?_)
    · refine lv_iconst (v := nI 0) hx hb dX0_hasDish_17 (by decide +kernel) ?_
      exact cs_zret hx hb hr hlocks hK hP hD hS (v := nI 0) (rfl) () (by first | (rw [hdi_t c_1 c_10]; rfl) | (rw [hdi_f1 c_1]; rfl) | (rw [hdi_f2 c_10]; rfl)) rfl dX0_hasDish_18
    · refine lv_iconst (v := nI 1) hx hb dX0_hasDish_13 (by decide +kernel) ?_
      refine lv_goto (tgt := 18) hx hb dX0_hasDish_14 (by decide) ?_
      exact cs_zret hx hb hr hlocks hK hP hD hS (v := nI 1) (rfl) () (by first | (rw [hdi_t c_1 c_10]; rfl) | (rw [hdi_f1 c_1]; rfl) | (rw [hdi_f2 c_10]; rfl)) rfl dX0_hasDish_18

set_option maxRecDepth 100000 in
theorem in0_X0_wholeDish : ∀ w ∈ wsX00, w ∈ wsX0_wholeDish := by decide +kernel
set_option maxHeartbeats 4000000 in
set_option maxRecDepth 100000 in
theorem c_X0_wholeDish (l : Launch) (G : cG) (a ka n : Nat) (k : Nat → Nat) (hn : n ≤ 24) : cMI l G yX0_wholeDish wsX0_wholeDish ({ frames := 0, cells := 0, slots := 0, locals := 0 }) [.ref a] [(a, .inr (0, [.ref ka, .int (nI n)])), (ka, .inl (G.2.1, 24, .inl (nF k)))] (fun (r : Int32) (_ : Unit) => r = nI (2 ^ n - 1)) (fun (_ : Unit) => [(a, .inr (0, [.ref ka, .int (nI n)])), (ka, .inl (G.2.1, 24, .inl (nF k)))]) := by
  refine cs_sI (own := RX0) (cc := cX0_wholeDish) (maxL := 1) (ret := (some .int)) (by decide) rfl rfl (Nat.le_of_ble_eq_true rfl) ?_
  intro p e s m below meth c A hx hb hr hml hts hown hlocks hinit hA hK hP hD hS ls hl
  have hin0 := in0_X0_wholeDish
  have hl : lv_has ls 1 [(0, .ref a)] := hl
  refine lv_iconst (v := nI 1) hx hb dX0_wholeDish_0 (by decide +kernel) ?_
  refine lv_aload_n hx hb dX0_wholeDish_1 rfl (lv_at hl 0 rfl) ?_
  refine va_get (D := G.1) (ci := 0) (v := .int (nI n)) (C := RX0) (T := TX0) (N := 2) hx hb hts hin0 hown hK hP 0 rfl rfl 1 (by decide) (hts (.fieldLink RX0 15 "FaultShrinker$Recipe" "size" "I") (List.mem_of_getElem? (i := 1) rfl)) (fun _ h9 => h9) rfl dX0_wholeDish_2 ?_
  refine lv_ishl hx hb dX0_wholeDish_5 ?_
  refine cs_i (y := nI (2 ^ n)) (nI_one_shl (by omega)) ?_
  refine lv_iconst (v := nI 1) hx hb dX0_wholeDish_6 (by decide +kernel) ?_
  refine lv_isub hx hb dX0_wholeDish_7 ?_
  refine cs_i (y := nI (2 ^ n - 1)) (pk_sub (Nat.one_le_two_pow)) ?_
  exact cs_iret hx hb hr hlocks hK hP hD hS (v := nI (2 ^ n - 1)) () (by first | rfl | assumption) rfl dX0_wholeDish_8

set_option maxRecDepth 100000 in
theorem in0_X0_kindAt : ∀ w ∈ wsX00, w ∈ wsX0_kindAt := by decide +kernel
set_option maxHeartbeats 4000000 in
set_option maxRecDepth 100000 in
theorem c_X0_kindAt (l : Launch) (G : cG) (a ka n : Nat) (k : Nat → Nat) (hn : n ≤ 24) (j : Nat) (hj : j < n) : cMI l G yX0_kindAt wsX0_kindAt ({ frames := 1, cells := 0, slots := 0, locals := 21 }) [.ref a, .int (nI j)] [(a, .inr (0, [.ref ka, .int (nI n)])), (ka, .inl (G.2.1, 24, .inl (nF k)))] (fun (r : Int32) (_ : Unit) => r = nI (k j)) (fun (_ : Unit) => [(a, .inr (0, [.ref ka, .int (nI n)])), (ka, .inl (G.2.1, 24, .inl (nF k)))]) := by
  refine cs_sI (own := RX0) (cc := cX0_kindAt) (maxL := 2) (ret := (some .int)) (by decide) rfl rfl (Nat.le_of_ble_eq_true rfl) ?_
  intro p e s m below meth c A hx hb hr hml hts hown hlocks hinit hA hK hP hD hS ls hl
  have hin0 := in0_X0_kindAt
  have hl : lv_has ls 2 [(0, .ref a), (1, .int (nI j))] := hl
  refine lv_aload_n hx hb dX0_kindAt_0 rfl (lv_at hl 0 rfl) ?_
  refine lv_iload_n hx hb dX0_kindAt_1 rfl (lv_at hl 1 rfl) ?_
  refine cs_vi (As := [.int (nI j)]) (rest := []) (wr := []) ⟨hx, hb, hml, hown, hts⟩ hK hP hD hS hA (c_X0_hasPlace l G a ka n k (by first | assumption | omega) (nI j)) (cwV 1 hts gX0_kindAt_X0_hasPlace rfl rfl rfl (by decide +kernel) ⟨Nat.le_of_ble_eq_true rfl, Nat.le_of_ble_eq_true rfl⟩) [0, 1] [] ⟨rfl, rfl, by decide, by decide, by decide⟩ 0 0 rfl rfl rfl hl.1 rfl (by decide) ⟨Nat.le_of_ble_eq_true rfl, Nat.le_of_ble_eq_true rfl⟩ dX0_kindAt_2 (fun r u H locs hw hP hD hS => ?_)
  have hP : va_P G.1 vwCl [(a, .inr (0, [.ref ka, .int (nI n)])), (ka, .inl (G.2.1, 24, .inl (nF k)))] H := hP.sub [0, 1] rfl
  have hD : va_D A [(a, .inr (0, [.ref ka, .int (nI n)])), (ka, .inl (G.2.1, 24, .inl (nF k)))] := hD.sub [0, 1] (by decide) rfl
  subst hw
  refine lv_if_eq (tgt := 17) hx hb dX0_kindAt_5 (by decide) (fun c_5 => ?_) (fun c_5 => ?_)
  · have c_5 := bI_0 c_5
    exact absurd c_5 (by rw [hp_nI hj hn]; decide)
  · have c_5 := bI_n0 c_5
    refine lv_aload_n hx hb dX0_kindAt_8 rfl (lv_at hl 0 rfl) ?_
    refine va_get (D := G.1) (ci := 0) (v := .ref ka) (C := RX0) (T := TX0) (N := 2) hx hb hts hin0 hown hK hP 0 rfl rfl 0 (by decide) (hts (.fieldLink RX0 9 "FaultShrinker$Recipe" "kinds" "[I") (List.mem_of_getElem? (i := 1) rfl)) (fun _ h9 => h9) rfl dX0_kindAt_9 ?_
    refine lv_iload_n hx hb dX0_kindAt_12 rfl (lv_at hl 1 rfl) ?_
    refine va_iald hx hb hK hP 1 0 rfl rfl (vp_in_nI (by omega) (by omega)) dX0_kindAt_13 ?_
    refine cs_i (y := nI (k j)) (nF_at _ (by omega)) ?_
    refine lv_goto (tgt := 18) hx hb dX0_kindAt_14 (by decide) ?_
    exact cs_iret hx hb hr hlocks hK hP hD hS (v := nI (k j)) () (by first | rfl | assumption) rfl dX0_kindAt_18

set_option maxRecDepth 100000 in
theorem in0_X0_append : ∀ w ∈ wsX00, w ∈ wsX0_append := by decide +kernel
set_option maxHeartbeats 4000000 in
set_option maxRecDepth 100000 in
theorem c_X0_append (l : Launch) (G : cG) (a ka n : Nat) (k : Nat → Nat) (hn : n < 24) (v : Nat) : cMV l G yX0_append wsX0_append ({ frames := 1, cells := 0, slots := 0, locals := 20 }) [.ref a, .int (nI v)] [(a, .inr (0, [.ref ka, .int (nI n)])), (ka, .inl (G.2.1, 24, .inl (nF k)))] (fun (_ : Unit) => True) (fun (_ : Unit) => [(a, .inr (0, [.ref ka, .int (nI (n + 1))])), (ka, .inl (G.2.1, 24, .inl (nF (va_up k n v))))]) := by
  refine cs_sV (own := RX0) (cc := cX0_append) (maxL := 2) (ret := none) (by decide) rfl rfl (Nat.le_of_ble_eq_true rfl) ?_
  intro p e s m below meth c A hx hb hr hml hts hown hlocks hinit hA hK hP hD hS ls hl
  have hin0 := in0_X0_append
  have hl : lv_has ls 2 [(0, .ref a), (1, .int (nI v))] := hl
  refine lv_aload_n hx hb dX0_append_0 rfl (lv_at hl 0 rfl) ?_
  refine cs_vi (As := []) (rest := []) (wr := []) ⟨hx, hb, hml, hown, hts⟩ hK hP hD hS hA (c_X0_isFull l G a ka n k (by first | assumption | omega)) (cwV 0 hts gX0_append_X0_isFull rfl rfl rfl (by decide +kernel) ⟨Nat.le_of_ble_eq_true rfl, Nat.le_of_ble_eq_true rfl⟩) [0, 1] [] ⟨rfl, rfl, by decide, by decide, by decide⟩ 0 0 rfl rfl rfl hl.1 rfl (by decide) ⟨Nat.le_of_ble_eq_true rfl, Nat.le_of_ble_eq_true rfl⟩ dX0_append_1 (fun r u H locs hw hP hD hS => ?_)
  have hP : va_P G.1 vwCl [(a, .inr (0, [.ref ka, .int (nI n)])), (ka, .inl (G.2.1, 24, .inl (nF k)))] H := hP.sub [0, 1] rfl
  have hD : va_D A [(a, .inr (0, [.ref ka, .int (nI n)])), (ka, .inl (G.2.1, 24, .inl (nF k)))] := hD.sub [0, 1] (by decide) rfl
  subst hw
  refine lv_if_ne (tgt := 27) hx hb dX0_append_4 (by decide) (fun c_4 => ?_) (fun c_4 => ?_)
  · have c_4 := bI_n0 c_4
    exact absurd c_4 (by rw [decide_eq_false (by omega)]; decide)
  · have c_4 := bI_0 c_4
    refine lv_aload_n hx hb dX0_append_7 rfl (lv_at hl 0 rfl) ?_
    refine va_get (D := G.1) (ci := 0) (v := .ref ka) (C := RX0) (T := TX0) (N := 2) hx hb hts hin0 hown hK hP 0 rfl rfl 0 (by decide) (hts (.fieldLink RX0 9 "FaultShrinker$Recipe" "kinds" "[I") (List.mem_of_getElem? (i := 1) rfl)) (fun _ h9 => h9) rfl dX0_append_8 ?_
    refine lv_aload_n hx hb dX0_append_11 rfl (lv_at hl 0 rfl) ?_
    refine va_get (D := G.1) (ci := 0) (v := .int (nI n)) (C := RX0) (T := TX0) (N := 2) hx hb hts hin0 hown hK hP 0 rfl rfl 1 (by decide) (hts (.fieldLink RX0 15 "FaultShrinker$Recipe" "size" "I") (List.mem_of_getElem? (i := 2) rfl)) (fun _ h9 => h9) rfl dX0_append_12 ?_
    refine lv_iload_n hx hb dX0_append_15 rfl (lv_at hl 1 rfl) ?_
    refine va_iast hx hb hK hP hD hS 1 0 rfl rfl (vp_in_nI (by omega) (by omega)) dX0_append_16 (fun H locs hP hD hS => ?_)
    rw [nF_upd _ (by omega)] at hP hD
    have hP : va_P G.1 vwCl [(a, .inr (0, [.ref ka, .int (nI n)])), (ka, .inl (G.2.1, 24, .inl (nF (va_up k n v))))] H := hP
    have hD : va_D A [(a, .inr (0, [.ref ka, .int (nI n)])), (ka, .inl (G.2.1, 24, .inl (nF (va_up k n v))))] := hD
    refine lv_aload_n hx hb dX0_append_17 rfl (lv_at hl 0 rfl) ?_
    refine lv_dup hx hb dX0_append_18 rfl ?_
    refine va_get (D := G.1) (ci := 0) (v := .int (nI n)) (C := RX0) (T := TX0) (N := 2) hx hb hts hin0 hown hK hP 0 rfl rfl 1 (by decide) (hts (.fieldLink RX0 15 "FaultShrinker$Recipe" "size" "I") (List.mem_of_getElem? (i := 2) rfl)) (fun _ h9 => h9) rfl dX0_append_19 ?_
    refine lv_iconst (v := nI 1) hx hb dX0_append_22 (by decide +kernel) ?_
    refine lv_iadd hx hb dX0_append_23 ?_
    refine cs_i (y := nI (n + 1)) (nI_add _ _) ?_
    refine va_put (D := G.1) (ci := 0) (v := .int (nI (n + 1))) (ty := .int) (C := RX0) (T := TX0) (N := 2) hx hb hts hin0 tyX0 tyX0_ok nmX0 hown hK hP hD hS 0 rfl rfl 1 (by decide) (hts (.fieldLink RX0 15 "FaultShrinker$Recipe" "size" "I") (List.mem_of_getElem? (i := 2) rfl)) (fun _ h9 => h9) rfl (by decide +kernel) rfl rfl (Nat.le_of_ble_eq_true rfl) dX0_append_24 (fun H locs hP hD hS => ?_)
    have hP : va_P G.1 vwCl [(a, .inr (0, [.ref ka, .int (nI (n + 1))])), (ka, .inl (G.2.1, 24, .inl (nF (va_up k n v))))] H := hP
    have hD : va_D A [(a, .inr (0, [.ref ka, .int (nI (n + 1))])), (ka, .inl (G.2.1, 24, .inl (nF (va_up k n v))))] := hD
    exact cs_vret hx hb hr hlocks hK hP hD hS () (trivial) rfl dX0_append_27

set_option maxRecDepth 100000 in
theorem in0_X0_takeOut : ∀ w ∈ wsX00, w ∈ wsX0_takeOut := by decide +kernel
set_option maxHeartbeats 4000000 in
set_option maxRecDepth 100000 in
theorem c_X0_takeOut (l : Launch) (G : cG) (a ka n : Nat) (k : Nat → Nat) (j : Nat) (hn : n ≤ 24) (hj : j < n) : cMV l G yX0_takeOut wsX0_takeOut ({ frames := 1, cells := 0, slots := 0, locals := 21 }) [.ref a, .int (nI j)] [(a, .inr (0, [.ref ka, .int (nI n)])), (ka, .inl (G.2.1, 24, .inl (nF k)))] (fun (_ : Unit) => True) (fun (_ : Unit) => [(a, .inr (0, [.ref ka, .int (nI (n - 1))])), (ka, .inl (G.2.1, 24, .inl (nF (tkt k j (n - 1)))))]) := by
  refine cs_sV (own := RX0) (cc := cX0_takeOut) (maxL := 3) (ret := none) (by decide) rfl rfl (Nat.le_of_ble_eq_true rfl) ?_
  intro p e s m below meth c A hx hb hr hml hts hown hlocks hinit hA hK hP hD hS ls hl
  have hin0 := in0_X0_takeOut
  have hl : lv_has ls 3 [(0, .ref a), (1, .int (nI j))] := hl
  refine lv_aload_n hx hb dX0_takeOut_0 rfl (lv_at hl 0 rfl) ?_
  refine lv_iload_n hx hb dX0_takeOut_1 rfl (lv_at hl 1 rfl) ?_
  refine cs_vi (As := [.int (nI j)]) (rest := []) (wr := []) ⟨hx, hb, hml, hown, hts⟩ hK hP hD hS hA (c_X0_hasPlace l G a ka n k (by first | assumption | omega) (nI j)) (cwV 1 hts gX0_takeOut_X0_hasPlace rfl rfl rfl (by decide +kernel) ⟨Nat.le_of_ble_eq_true rfl, Nat.le_of_ble_eq_true rfl⟩) [0, 1] [] ⟨rfl, rfl, by decide, by decide, by decide⟩ 0 0 rfl rfl rfl hl.1 rfl (by decide) ⟨Nat.le_of_ble_eq_true rfl, Nat.le_of_ble_eq_true rfl⟩ dX0_takeOut_2 (fun r u H locs hw hP hD hS => ?_)
  have hP : va_P G.1 vwCl [(a, .inr (0, [.ref ka, .int (nI n)])), (ka, .inl (G.2.1, 24, .inl (nF k)))] H := hP.sub [0, 1] rfl
  have hD : va_D A [(a, .inr (0, [.ref ka, .int (nI n)])), (ka, .inl (G.2.1, 24, .inl (nF k)))] := hD.sub [0, 1] (by decide) rfl
  subst hw
  refine lv_if_ne (tgt := 9) hx hb dX0_takeOut_5 (by decide) (fun c_5 => ?_) (fun c_5 => ?_)
  · have c_5 := bI_n0 c_5
    refine lv_iload_n hx hb dX0_takeOut_9 rfl (lv_at hl 1 rfl) ?_
    refine lv_istore_n (lv' := [(2, .int (nI j)), (0, .ref a), (1, .int (nI j))]) hx hb dX0_takeOut_10 rfl hl (by decide) rfl (fun ls hl => ?_)
    have e9 : nF k = nF (tkt k j j) := by rw [tkt_0]
    rw [e9] at hP hD
    have hP : va_P G.1 vwCl [(a, .inr (0, [.ref ka, .int (nI n)])), (ka, .inl (G.2.1, 24, .inl (nF (tkt k j j))))] H := hP
    have hD : va_D A [(a, .inr (0, [.ref ka, .int (nI n)])), (ka, .inl (G.2.1, 24, .inl (nF (tkt k j j))))] := hD
    refine cs_loop (G := G) (nL := 3) (σ := Nat) (fun (i : Nat) => n - i) (fun (i : Nat) => j ≤ i ∧ i + 1 ≤ n) (fun (i : Nat) => [(a, .inr (0, [.ref ka, .int (nI n)])), (ka, .inl (G.2.1, 24, .inl (nF (tkt k j i))))]) (fun (i : Nat) => [(0, .ref a), (1, .int (nI j)), (2, .int (nI i))]) ?_ (j) (by show j ≤ j ∧ j + 1 ≤ n; omega) (hP.sub (ws' := [(a, .inr (0, [.ref ka, .int (nI n)])), (ka, .inl (G.2.1, 24, .inl (nF (tkt k j j))))]) [0, 1] rfl) (hD.sub (ws' := [(a, .inr (0, [.ref ka, .int (nI n)])), (ka, .inl (G.2.1, 24, .inl (nF (tkt k j j))))]) [0, 1] (by decide) rfl) hS (lv_sub (l' := [(0, .ref a), (1, .int (nI j)), (2, .int (nI j))]) hl [1, 2, 0] rfl)
    rintro i hinv ih H locs ls hP hD hS hl
    have hP : va_P G.1 vwCl [(a, .inr (0, [.ref ka, .int (nI n)])), (ka, .inl (G.2.1, 24, .inl (nF (tkt k j i))))] H := hP
    have hD : va_D A [(a, .inr (0, [.ref ka, .int (nI n)])), (ka, .inl (G.2.1, 24, .inl (nF (tkt k j i))))] := hD
    have hl : lv_has ls 3 [(0, .ref a), (1, .int (nI j)), (2, .int (nI i))] := hl
    have hinv : j ≤ i ∧ i + 1 ≤ n := hinv
    refine lv_iload_n hx hb dX0_takeOut_11 rfl (lv_at hl 2 rfl) ?_
    refine lv_iconst (v := nI 1) hx hb dX0_takeOut_12 (by decide +kernel) ?_
    refine lv_iadd hx hb dX0_takeOut_13 ?_
    refine cs_i (y := nI (i + 1)) (nI_add _ _) ?_
    refine lv_aload_n hx hb dX0_takeOut_14 rfl (lv_at hl 0 rfl) ?_
    refine va_get (D := G.1) (ci := 0) (v := .int (nI n)) (C := RX0) (T := TX0) (N := 2) hx hb hts hin0 hown hK hP 0 rfl rfl 1 (by decide) (hts (.fieldLink RX0 15 "FaultShrinker$Recipe" "size" "I") (List.mem_of_getElem? (i := 1) rfl)) (fun _ h9 => h9) rfl dX0_takeOut_15 ?_
    refine lv_icmp_ge (tgt := 41) hx hb dX0_takeOut_18 (by decide) (fun c_18 => ?_) (fun c_18 => ?_)
    · have c_18 := (nI_leI (by omega) (by omega)).mp c_18
      have e7 : i = n - 1 := by omega
      try rw [e7] at hP
      try rw [e7] at hD
      try rw [e7] at hl
      refine lv_aload_n hx hb dX0_takeOut_41 rfl (lv_at hl 0 rfl) ?_
      refine lv_dup hx hb dX0_takeOut_42 rfl ?_
      refine va_get (D := G.1) (ci := 0) (v := .int (nI n)) (C := RX0) (T := TX0) (N := 2) hx hb hts hin0 hown hK hP 0 rfl rfl 1 (by decide) (hts (.fieldLink RX0 15 "FaultShrinker$Recipe" "size" "I") (List.mem_of_getElem? (i := 1) rfl)) (fun _ h9 => h9) rfl dX0_takeOut_43 ?_
      refine lv_iconst (v := nI 1) hx hb dX0_takeOut_46 (by decide +kernel) ?_
      refine lv_isub hx hb dX0_takeOut_47 ?_
      refine cs_i (y := nI (n - 1)) (pk_sub (by omega)) ?_
      refine va_put (D := G.1) (ci := 0) (v := .int (nI (n - 1))) (ty := .int) (C := RX0) (T := TX0) (N := 2) hx hb hts hin0 tyX0 tyX0_ok nmX0 hown hK hP hD hS 0 rfl rfl 1 (by decide) (hts (.fieldLink RX0 15 "FaultShrinker$Recipe" "size" "I") (List.mem_of_getElem? (i := 1) rfl)) (fun _ h9 => h9) rfl (by decide +kernel) rfl rfl (Nat.le_of_ble_eq_true rfl) dX0_takeOut_48 (fun H locs hP hD hS => ?_)
      have hP : va_P G.1 vwCl [(a, .inr (0, [.ref ka, .int (nI (n - 1))])), (ka, .inl (G.2.1, 24, .inl (nF (tkt k j (n - 1)))))] H := hP
      have hD : va_D A [(a, .inr (0, [.ref ka, .int (nI (n - 1))])), (ka, .inl (G.2.1, 24, .inl (nF (tkt k j (n - 1)))))] := hD
      exact cs_vret hx hb hr hlocks hK hP hD hS () (trivial) rfl dX0_takeOut_51
    · have c_18 := mt (nI_leI (by omega) (by omega)).mpr c_18
      refine lv_aload_n hx hb dX0_takeOut_21 rfl (lv_at hl 0 rfl) ?_
      refine va_get (D := G.1) (ci := 0) (v := .ref ka) (C := RX0) (T := TX0) (N := 2) hx hb hts hin0 hown hK hP 0 rfl rfl 0 (by decide) (hts (.fieldLink RX0 9 "FaultShrinker$Recipe" "kinds" "[I") (List.mem_of_getElem? (i := 2) rfl)) (fun _ h9 => h9) rfl dX0_takeOut_22 ?_
      refine lv_iload_n hx hb dX0_takeOut_25 rfl (lv_at hl 2 rfl) ?_
      refine lv_aload_n hx hb dX0_takeOut_26 rfl (lv_at hl 0 rfl) ?_
      refine va_get (D := G.1) (ci := 0) (v := .ref ka) (C := RX0) (T := TX0) (N := 2) hx hb hts hin0 hown hK hP 0 rfl rfl 0 (by decide) (hts (.fieldLink RX0 9 "FaultShrinker$Recipe" "kinds" "[I") (List.mem_of_getElem? (i := 2) rfl)) (fun _ h9 => h9) rfl dX0_takeOut_27 ?_
      refine lv_iload_n hx hb dX0_takeOut_30 rfl (lv_at hl 2 rfl) ?_
      refine lv_iconst (v := nI 1) hx hb dX0_takeOut_31 (by decide +kernel) ?_
      refine lv_iadd hx hb dX0_takeOut_32 ?_
      refine cs_i (y := nI (i + 1)) (nI_add _ _) ?_
      refine va_iald hx hb hK hP 1 0 rfl rfl (vp_in_nI (by omega) (by omega)) dX0_takeOut_33 ?_
      refine cs_i (y := nI ((tkt k j i) (i + 1))) (nF_at _ (by omega)) ?_
      refine va_iast hx hb hK hP hD hS 1 0 rfl rfl (vp_in_nI (by omega) (by omega)) dX0_takeOut_34 (fun H locs hP hD hS => ?_)
      rw [nF_upd _ (by omega)] at hP hD
      have hP : va_P G.1 vwCl [(a, .inr (0, [.ref ka, .int (nI n)])), (ka, .inl (G.2.1, 24, .inl (nF (va_up (tkt k j i) i ((tkt k j i) (i + 1))))))] H := hP
      have hD : va_D A [(a, .inr (0, [.ref ka, .int (nI n)])), (ka, .inl (G.2.1, 24, .inl (nF (va_up (tkt k j i) i ((tkt k j i) (i + 1))))))] := hD
      have e9 : nF (va_up (tkt k j i) i ((tkt k j i) (i + 1))) = nF (tkt k j (i + 1)) := congrArg nF (tkt_s k hinv.1)
      rw [e9] at hP hD
      have hP : va_P G.1 vwCl [(a, .inr (0, [.ref ka, .int (nI n)])), (ka, .inl (G.2.1, 24, .inl (nF (tkt k j (i + 1)))))] H := hP
      have hD : va_D A [(a, .inr (0, [.ref ka, .int (nI n)])), (ka, .inl (G.2.1, 24, .inl (nF (tkt k j (i + 1)))))] := hD
      refine lv_iinc (v := nI (i + 1)) (lv' := [(2, .int (nI (i + 1))), (0, .ref a), (1, .int (nI j))]) hx hb dX0_takeOut_35 hl (k := 2) rfl ((nI_succ i).symm) (by decide) rfl (fun ls hl => ?_)
      refine lv_goto (tgt := 11) hx hb dX0_takeOut_38 (by decide) ?_
      exact ih (i + 1) (by show n - (i + 1) < n - i; omega) (by show j ≤ (i + 1) ∧ (i + 1) + 1 ≤ n; omega) _ _ _ (hP.sub (ws' := [(a, .inr (0, [.ref ka, .int (nI n)])), (ka, .inl (G.2.1, 24, .inl (nF (tkt k j (i + 1)))))]) [0, 1] rfl) (hD.sub (ws' := [(a, .inr (0, [.ref ka, .int (nI n)])), (ka, .inl (G.2.1, 24, .inl (nF (tkt k j (i + 1)))))]) [0, 1] (by decide) rfl) hS (lv_sub (l' := [(0, .ref a), (1, .int (nI j)), (2, .int (nI (i + 1)))]) hl [1, 2, 0] rfl)
  · have c_5 := bI_0 c_5
    exact absurd c_5 (by rw [hp_nI hj hn]; decide)

set_option maxRecDepth 100000 in
theorem in0_X0_kindsOf : ∀ w ∈ wsX00, w ∈ wsX0_kindsOf := by decide +kernel
set_option maxHeartbeats 4000000 in
set_option maxRecDepth 100000 in
theorem c_X0_kindsOf (l : Launch) (G : cG) (a ka n : Nat) (k : Nat → Nat) (d : Nat) (hn : n ≤ 24) (hk : ∀ j, j < n → k j < 16) (hd : d < 2 ^ 24) : cMI l G yX0_kindsOf wsX0_kindsOf ({ frames := 0, cells := 0, slots := 0, locals := 0 }) [.ref a, .int (nI d)] [(a, .inr (0, [.ref ka, .int (nI n)])), (ka, .inl (G.2.1, 24, .inl (nF k)))] (fun (r : Int32) (_ : Unit) => r = nI (kds k d n)) (fun (_ : Unit) => [(a, .inr (0, [.ref ka, .int (nI n)])), (ka, .inl (G.2.1, 24, .inl (nF k)))]) := by
  refine cs_sI (own := RX0) (cc := cX0_kindsOf) (maxL := 4) (ret := (some .int)) (by decide) rfl rfl (Nat.le_of_ble_eq_true rfl) ?_
  intro p e s m below meth c A hx hb hr hml hts hown hlocks hinit hA hK hP hD hS ls hl
  have hin0 := in0_X0_kindsOf
  have hl : lv_has ls 4 [(0, .ref a), (1, .int (nI d))] := hl
  refine lv_iconst (v := nI 0) hx hb dX0_kindsOf_0 (by decide +kernel) ?_
  refine lv_istore_n (lv' := [(2, .int (nI 0)), (0, .ref a), (1, .int (nI d))]) hx hb dX0_kindsOf_1 rfl hl (by decide) rfl (fun ls hl => ?_)
  refine lv_iconst (v := nI 0) hx hb dX0_kindsOf_2 (by decide +kernel) ?_
  refine lv_istore_n (lv' := [(3, .int (nI 0)), (2, .int (nI 0)), (0, .ref a), (1, .int (nI d))]) hx hb dX0_kindsOf_3 rfl hl (by decide) rfl (fun ls hl => ?_)
  refine cs_loop (G := G) (nL := 4) (σ := Nat) (fun (i : Nat) => n - i) (fun (i : Nat) => i ≤ n) (fun (i : Nat) => [(a, .inr (0, [.ref ka, .int (nI n)])), (ka, .inl (G.2.1, 24, .inl (nF k)))]) (fun (i : Nat) => [(0, .ref a), (1, .int (nI d)), (2, .int (nI (kds k d i))), (3, .int (nI i))]) ?_ (0) (by show 0 ≤ n; omega) (hP.sub (ws' := [(a, .inr (0, [.ref ka, .int (nI n)])), (ka, .inl (G.2.1, 24, .inl (nF k)))]) [0, 1] rfl) (hD.sub (ws' := [(a, .inr (0, [.ref ka, .int (nI n)])), (ka, .inl (G.2.1, 24, .inl (nF k)))]) [0, 1] (by decide) rfl) hS (lv_sub (l' := [(0, .ref a), (1, .int (nI d)), (2, .int (nI (kds k d 0))), (3, .int (nI 0))]) hl [2, 3, 1, 0] rfl)
  rintro i hinv ih H locs ls hP hD hS hl
  have hP : va_P G.1 vwCl [(a, .inr (0, [.ref ka, .int (nI n)])), (ka, .inl (G.2.1, 24, .inl (nF k)))] H := hP
  have hD : va_D A [(a, .inr (0, [.ref ka, .int (nI n)])), (ka, .inl (G.2.1, 24, .inl (nF k)))] := hD
  have hl : lv_has ls 4 [(0, .ref a), (1, .int (nI d)), (2, .int (nI (kds k d i))), (3, .int (nI i))] := hl
  have hinv : i ≤ n := hinv
  refine lv_iload_n hx hb dX0_kindsOf_4 rfl (lv_at hl 3 rfl) ?_
  refine lv_aload_n hx hb dX0_kindsOf_5 rfl (lv_at hl 0 rfl) ?_
  refine va_get (D := G.1) (ci := 0) (v := .int (nI n)) (C := RX0) (T := TX0) (N := 2) hx hb hts hin0 hown hK hP 0 rfl rfl 1 (by decide) (hts (.fieldLink RX0 15 "FaultShrinker$Recipe" "size" "I") (List.mem_of_getElem? (i := 1) rfl)) (fun _ h9 => h9) rfl dX0_kindsOf_6 ?_
  refine lv_icmp_ge (tgt := 37) hx hb dX0_kindsOf_9 (by decide) (fun c_9 => ?_) (fun c_9 => ?_)
  · have c_9 := (nI_leI (by omega) (by omega)).mp c_9
    have e7 : i = n := by omega
    subst e7
    refine lv_iload_n hx hb dX0_kindsOf_37 rfl (lv_at hl 2 rfl) ?_
    exact cs_iret hx hb hr hlocks hK hP hD hS (v := nI (kds k d i)) () (by first | rfl | assumption) rfl dX0_kindsOf_38
  · have c_9 := mt (nI_leI (by omega) (by omega)).mpr c_9
    refine lv_iload_n hx hb dX0_kindsOf_12 rfl (lv_at hl 1 rfl) ?_
    refine lv_iload_n hx hb dX0_kindsOf_13 rfl (lv_at hl 3 rfl) ?_
    refine lv_ishr hx hb dX0_kindsOf_14 ?_
    refine cs_i (y := nI (d >>> i)) (nI_shr (by omega) (by omega)) ?_
    refine lv_iconst (v := nI 1) hx hb dX0_kindsOf_15 (by decide +kernel) ?_
    refine lv_iand hx hb dX0_kindsOf_16 ?_
    refine cs_i (y := bI (d.testBit i)) (by rw [fa_and]; exact bitI d i) ?_
    refine lv_if_eq (tgt := 31) hx hb dX0_kindsOf_17 (by decide) (fun c_17 => ?_) (fun c_17 => ?_)
    · have c_17 := bI_0 c_17
      refine lv_iinc (v := nI (i + 1)) (lv' := [(3, .int (nI (i + 1))), (0, .ref a), (1, .int (nI d)), (2, .int (nI (kds k d i)))]) hx hb dX0_kindsOf_31 hl (k := 3) rfl ((nI_succ i).symm) (by decide) rfl (fun ls hl => ?_)
      have e8 : nI (kds k d i) = nI (kds k d (i + 1)) := by first | exact congrArg nI (kds_f c_17).symm | exact congrArg nI (kds_t c_17).symm
      rw [e8] at hl
      refine lv_goto (tgt := 4) hx hb dX0_kindsOf_34 (by decide) ?_
      exact ih (i + 1) (by show n - (i + 1) < n - i; omega) (by show (i + 1) ≤ n; omega) _ _ _ (hP.sub (ws' := [(a, .inr (0, [.ref ka, .int (nI n)])), (ka, .inl (G.2.1, 24, .inl (nF k)))]) [0, 1] rfl) (hD.sub (ws' := [(a, .inr (0, [.ref ka, .int (nI n)])), (ka, .inl (G.2.1, 24, .inl (nF k)))]) [0, 1] (by decide) rfl) hS (lv_sub (l' := [(0, .ref a), (1, .int (nI d)), (2, .int (nI (kds k d (i + 1)))), (3, .int (nI (i + 1)))]) hl [1, 2, 3, 0] rfl)
    · have c_17 := bI_n0 c_17
      have hki := hk i (by omega)
      refine lv_iload_n hx hb dX0_kindsOf_20 rfl (lv_at hl 2 rfl) ?_
      refine lv_iconst (v := nI 1) hx hb dX0_kindsOf_21 (by decide +kernel) ?_
      refine lv_aload_n hx hb dX0_kindsOf_22 rfl (lv_at hl 0 rfl) ?_
      refine va_get (D := G.1) (ci := 0) (v := .ref ka) (C := RX0) (T := TX0) (N := 2) hx hb hts hin0 hown hK hP 0 rfl rfl 0 (by decide) (hts (.fieldLink RX0 9 "FaultShrinker$Recipe" "kinds" "[I") (List.mem_of_getElem? (i := 2) rfl)) (fun _ h9 => h9) rfl dX0_kindsOf_23 ?_
      refine lv_iload_n hx hb dX0_kindsOf_26 rfl (lv_at hl 3 rfl) ?_
      refine va_iald hx hb hK hP 1 0 rfl rfl (vp_in_nI (by omega) (by omega)) dX0_kindsOf_27 ?_
      refine cs_i (y := nI (k i)) (nF_at _ (by omega)) ?_
      refine lv_ishl hx hb dX0_kindsOf_28 ?_
      refine cs_i (y := nI (2 ^ (k i))) (nI_one_shl (by omega)) ?_
      refine lv_ior hx hb dX0_kindsOf_29 ?_
      refine cs_i (y := nI ((kds k d i) ||| (2 ^ (k i)))) (fa_or _ _) ?_
      refine lv_istore_n (lv' := [(2, .int (nI ((kds k d i) ||| (2 ^ (k i))))), (0, .ref a), (1, .int (nI d)), (3, .int (nI i))]) hx hb dX0_kindsOf_30 rfl hl (by decide) rfl (fun ls hl => ?_)
      refine lv_iinc (v := nI (i + 1)) (lv' := [(3, .int (nI (i + 1))), (2, .int (nI ((kds k d i) ||| (2 ^ (k i))))), (0, .ref a), (1, .int (nI d))]) hx hb dX0_kindsOf_31 hl (k := 3) rfl ((nI_succ i).symm) (by decide) rfl (fun ls hl => ?_)
      have e8 : nI ((kds k d i) ||| (2 ^ (k i))) = nI (kds k d (i + 1)) := by first | exact congrArg nI (kds_f c_17).symm | exact congrArg nI (kds_t c_17).symm
      rw [e8] at hl
      refine lv_goto (tgt := 4) hx hb dX0_kindsOf_34 (by decide) ?_
      exact ih (i + 1) (by show n - (i + 1) < n - i; omega) (by show (i + 1) ≤ n; omega) _ _ _ (hP.sub (ws' := [(a, .inr (0, [.ref ka, .int (nI n)])), (ka, .inl (G.2.1, 24, .inl (nF k)))]) [0, 1] rfl) (hD.sub (ws' := [(a, .inr (0, [.ref ka, .int (nI n)])), (ka, .inl (G.2.1, 24, .inl (nF k)))]) [0, 1] (by decide) rfl) hS (lv_sub (l' := [(0, .ref a), (1, .int (nI d)), (2, .int (nI (kds k d (i + 1)))), (3, .int (nI (i + 1)))]) hl [2, 3, 1, 0] rfl)
end
