section
section
variable {G : mG} {d z q w T A B D N C n p O P K Ab Be Cm V F c s L cnt a s9 S0 k0 Nn : Nat} {M0 M M' M1 M2 : mM} {ns : Nat → Int} {sf ef : Nat → Nat} {W pl nq : Nat → Int} {sm : Nat → Nat → Prop} {nms : List nm9} {ft fS : Int × Int}
theorem rc59 {zr : List Int} (h : W a = 36) (h4 : slv (59 :: zr) < 40) : Rc W (59 :: zr) a (1 :: 38 :: 23 :: 61 :: 37 :: 75 :: zr) (a + 1) := Rc.one (mst_n (by decide) (by decide) (ys := [1, 38, 23, 61, 37, 75]) (t := 1) (by
  show ex59 (W a) = _
  unfold ex59
  rw [if_pos h]) (Or.inr h4))
theorem rf59 {zr : List Int} (hR : Rc W [50] 0 (59 :: zr) a) (h : W a ≠ 36) : Rf W [50] 0 a := hR.rf (Rf.of (mst_no (by decide) (by decide) (by
  show ex59 (W a) = _
  unfold ex59
  rw [if_neg h])))
theorem rc58 {zr : List Int} (h : W a = 10) : Rc W (58 :: zr) a zr (a + 1) := Rc.one (mst_n (by decide) (by decide) (ys := []) (t := 1) (by
  show ex58 (W a) = _
  unfold ex58
  rw [if_pos h]) (Or.inl (by decide)))
theorem rc58n {zr : List Int} (h : W a ≠ 10) : Rc W (58 :: zr) a (59 :: 60 :: zr) a := Rc.one (mst_n (by decide) (by decide) (ys := [59, 60]) (t := 0) (by
  show ex58 (W a) = _
  unfold ex58
  rw [if_neg h]) (Or.inl (by decide)))
end
end
