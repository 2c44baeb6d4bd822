/-! The reference's compile and explore, with what was explored. -/
section PUE
variable {G : mG} {d a : Nat} {M M' : mM} {Nt9 : tP9}
/-- the latest fault is at p -/
def plc (i : tI9) (p : Int) : tI9 := (i.1, i.2.1, i.2.2.1, i.2.2.2.1, i.2.2.2.2.1, (p, i.2.2.2.2.2.1.2), i.2.2.2.2.2.2)
/-- what exploring leaves -/
def exp9 (i : tI9) : tI9 := (i.1, i.2.1, i.2.2.1, i.2.2.2.1, i.2.2.2.2.1, exG i.2.2.2.2.1)
theorem RI0.e9 {l : Int} {c : Nat → Int} {i : tI9} {e : tE9} (h : RI0 (l, c, i) M a) : RI0 (l, c, i.1, i.2.1, i.2.2.1, i.2.2.2.1, i.2.2.2.2.1, e) M a := by
  obtain ⟨h1, h2, h3, h4, h5, h6, h7, h8⟩ := h
  exact ⟨h1, h2, h3, h4, h5, h6, h7, h8⟩
theorem r_MM_compile (hWK : WKx G kwx) (h : RI Nt9 M a) : Ci G y_MM_compile (d + 12) [vr a] M (fun r M' => ∃ i8 : tI9, ((i32 r ∧ RI (z9 i8) M' a ∧ FR M a M') ∧ cmR Nt9.2.1 Nt9.1.toNat a r (mI M' a 12) (i8.2.1, i8.2.2.1, i8.2.2.2.1, i8.2.2.2.2.1)) ∧ ((r ≠ 0 ∧ i8 = plc Nt9.2.2 (mI M' a 12)) ∨ (r = 0 ∧ i8.1 = 1 ∧ i8.2.2.2.2.2 = ((-1, Nt9.2.2.2.2.2.2.2.1.2.1, 0), [], []) ∧ mI M' a 12 = -1))) := by
  refine (x_MM_compile hWK h.r0).mono (fun r M' q => ?_)
  obtain ⟨i8, ⟨⟨q1, q2, q3⟩, q4⟩, q5⟩ := q
  obtain ⟨x1, x2, x3, x4, x5⟩ := h.xe
  rcases q5 with ⟨z, e8, k, k9⟩ | ⟨z, ⟨e81, e82⟩, k29, k30, k31⟩
  · subst e8
    refine ⟨plc Nt9.2.2 (mI M' a 12), ⟨⟨q1, (RI0.e9 (e := ((mI M' a 12, Nt9.2.2.2.2.2.2.2.1.2), Nt9.2.2.2.2.2.2.2.2)) q2).ri ⟨rfl, ⟨by rw [k.1.2.1]; exact x2.1, k9.trans x2.2⟩, by rw [k.1.1]; exact x3, x4, fun u => ?_⟩, q3⟩, q4⟩, Or.inl ⟨z, rfl⟩⟩
    obtain ⟨W, w1, w2, w3, w4⟩ := x5 u
    exact ⟨W, w1, w2.xe k, w3.xe k, w4⟩
  · have p12 : mI M' a 12 = -1 := by
      obtain ⟨Mw, N, -, -, -, y⟩ := q4
      rcases y with ⟨y, -⟩ | ⟨-, -, sF, -, y⟩
      · rw [y] at z
        exact absurd z (by decide)
      · rcases y with ⟨y1, y2, -⟩ | ⟨-, -, y3, -⟩
        · exact absurd (y2.symm.trans z) y1
        · exact y3
    refine ⟨i8, ⟨⟨q1, q2.ri ?_, q3⟩, q4⟩, Or.inr ⟨z, e81, e82, p12⟩⟩
    show XE i8 M' a
    unfold XE
    rw [e82]
    exact ⟨p12, ⟨by rw [k30]; exact x2.1, k31⟩, k29, fun _ => rfl, fun u => absurd rfl u⟩
theorem xU.xe (h : xU M M' a) (w : Wd M a) : xeF M M' a ∧ mI M' a 12 = mI M a 12 ∧ mI M' (a + 117 + 30) 0 = mI M (a + 117 + 30) 0 := by
  obtain ⟨h1, h2, h3, h4⟩ := h
  have s : ∀ q, q ∈ nums a → sl M M' q := fun q hq => by
    have n1 := nums_in hq
    have na : mR M q 0 ≠ a := by
      rcases (w.arr hq).2 with y | y <;> omega
    refine ⟨by unfold ln; rw [h3 q (by omega)], fun j => ?_⟩
    unfold nt
    rw [h1, h3 _ na]
  exact ⟨⟨⟨h4 29 (by decide), h4 30 (by decide), h4 40 (by decide)⟩, ⟨h3 _ (by omega), h3 _ (by omega), h3 _ (by omega), h3 _ (by omega), h3 _ (by omega)⟩, by rw [h2]; exact ⟨rfl, rfl⟩, s _ (nums_o (by decide)), s _ (nums_o (by decide)), s _ (nums_o (by decide)), s _ (nums_o (by decide)), by rw [h3 _ (by omega)], fun i p q => h3 _ (by omega)⟩, h4 12 (by decide), by rw [h3 _ (by omega)]⟩
theorem r_MM_explore (h : RI Nt9 M a) : Ci G y_MM_explore (d + 10) [vr a] M (fun r M' => ∃ n1 : tP9, (i32 r ∧ RI n1 M' a ∧ FR M a M') ∧ ((Nt9.2.2.1 = 0 ∧ n1 = Nt9 ∧ mI M' a 0 = 1) ∨ (Nt9.2.2.1 ≠ 0 ∧ n1 = (Nt9.1, Nt9.2.1, exp9 Nt9.2.2) ∧ r = Nt9.2.2.2.2.2.2.1.1.1 ∧ mI M' a 0 = 0))) := by
  refine (x_MM_expl (d := d) h.r0).mono (fun r M' q => ?_)
  obtain ⟨⟨q1, q2, q3⟩, q4⟩ := q
  rcases q4 with ⟨y1, y2, y3⟩ | ⟨y1, ⟨W, w1, w2⟩, y3⟩
  · obtain ⟨k1, k2, k3⟩ := y3.xe h.2.1
    exact ⟨Nt9, ⟨q1, q2.ri (h.xe.xe k1 k2 k3), q3⟩, Or.inl ⟨y1, rfl, y2⟩⟩
  · obtain ⟨e1, e2⟩ := w2.xe (i9 := exp9 Nt9.2.2) w1 rfl
    exact ⟨(Nt9.1, Nt9.2.1, exp9 Nt9.2.2), ⟨q1, (RI0.e9 (l := Nt9.1) (c := Nt9.2.1) (i := Nt9.2.2) (e := exG Nt9.2.2.2.2.2.2.1) q2).ri e1, q3⟩, Or.inr ⟨y1, rfl, e2, y3⟩⟩
end PUE
