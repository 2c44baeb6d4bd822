/-! The law's script: an old array of ints, which may lie at address 0. -/
section SCR
variable {G : mG} {y : mY} {d pc : Nat} {L st : List mV} {M : mM} {Q : Option mV → mM → Prop}
theorem wm_ialdV {a : Nat} {i : Int} (hd : decode y.2.1 pc = .ok (.iaload, 1)) (hK : mK M a = 40) (hi : 0 ≤ i ∧ i < mN M a) (h : mWm G y d (pc + 1) L (vi (mI M a i.toNat) :: st) M Q) : mWm G y d pc L (vi i :: vo a :: st) M Q :=
  wm_st (fun p e R s m args below meth co H locs cells slots ls Qf hA hR hL kk => by
    obtain ⟨g1, g2, cell, g3, g4, g5, g6, g7⟩ := (hR.2.2.2.2.2.2 a).2.2 hK
    obtain ⟨hx, hb, -, -, -, -, hown, hKK, hts, -, hvm, -⟩ := hA
    have hi3 : i32 i := ⟨by omega, by omega⟩
    exact W.iald (v := mcv (vi (mI M a i.toNat))) hx hb g3 (State.isArrayOf_alike hvm.1 g4) g5 (by rw [g6]; exact i32_in hi g2) (by rw [i32_clamp hi3]; exact g7 _ (by omega)) rfl rfl hd kk) h
theorem wm_alenV {a : Nat} (hd : decode y.2.1 pc = .ok (.arraylength, 1)) (hK : mK M a = 40) (h : mWm G y d (pc + 1) L (vi (mN M a : Int) :: st) M Q) : mWm G y d pc L (vo a :: st) M Q :=
  wm_st (fun p e R s m args below meth co H locs cells slots ls Qf hA hR hL kk => by
    obtain ⟨g1, g2, cell, g3, g4, g5, g6, g7⟩ := (hR.2.2.2.2.2.2 a).2.2 hK
    obtain ⟨hx, hb, -, -, -, -, hown, hKK, hts, -, hvm, -⟩ := hA
    exact W.alen (n := Int32.ofInt (mN M a : Int)) hx hb g3 (State.isArrayOf_alike hvm.1 g4) (by rw [g6]; rfl) rfl rfl hd kk) h
end SCR
