theorem mxn_5 (f : Nat → Int32) (D : Int64) : mxn f 5 D = ((((D * 31 + (f 0).toInt64) * 31 + (f 1).toInt64) * 31 + (f 2).toInt64) * 31 + (f 3).toInt64) * 31 + (f 4).toInt64 := rfl
theorem oI_l0 {o : Option Nat} (h : ∀ k, o = some k → k < 2 ^ 31) : oI o < 0 ↔ o = none := by
  rcases o with _ | k
  · exact ⟨fun _ => rfl, fun _ => by decide⟩
  · refine ⟨fun q => ?_, fun q => by cases q⟩
    have q2 : nI k < 0 := q
    rw [nI_lt0 (h k rfl)] at q2
    omega
theorem dgs_e {k ne sp : Nat → Nat} {n rc dd kq ts al st d2 n2 d3 : Nat} {K2 K3 : List Nat} {F F2 : List Int32} {fx : Nat → Int32} (hst : st = F.length / 5) (hfx : FR fx F) (hR : hal (spl k ne sp n rc) (2 ^ n - 1) = (d2, n2, K2, F2)) (hR3 : obl (spl k ne sp n rc) (2 ^ n - 1) = (d3, K3)) :
    ((((((mxq (fun y9 x9 => fx (y9 * 5 + x9)) 5 st (mxn (fun x9 => nI (plc dd x9)) (cnt dd 24) (mxq (fun y9 x9 => nI (tld k ne sp n kq y9 x9)) 5 rc (mxn (fun x9 => nI (k x9)) n (mxn (fun x9 => nI (cfc k ne sp n rc dd st ts al x9)) 7 1499))))) * 31 + (nI d2).toInt64) * 31 + (nI K2.length).toInt64) * 31 + (nI (F2.length / 5)).toInt64) * 31 + (nI d3).toInt64) * 31 + (nI K3.length).toInt64) * 31 + (nI (lst ne (kds k (2 ^ n - 1) n) rc)).toInt64 = dgs k ne sp n rc dd kq ts al F := by
  subst hst
  unfold dgs
  rw [mxn_5, (wld_0 hR).1, (wld_0 hR).2.1, (wld_0 hR).2.2, (wld_3 hR3).1, (wld_3 hR3).2, mxq_flat fx 5, Nat.mul_comm (F.length / 5) 5, mxn_congr (f := fx) (g := fun j => F.getD j 0) _ (5 * (F.length / 5)) (fun i hi => hfx i (by omega))]
  rfl
