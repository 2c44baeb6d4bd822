section
section
variable {G : mG} {d z m U Ab Be C Ab0 Be0 C0 t s c p O P K : Nat} {M0 M M' M1 M2 : mM} {S R : Nat → Prop}
/-- how two numbers stand to each other: the class's answer for an order o -/
def rlv (o r : Int) (a b e f : Int) : vrs := if o = 15 ∨ o = 16 then (if (0 < r ↔ o = 15) then (0, e, f) else (0, a, b)) else if (o = 24 ∧ r = 0) ∨ (o = 19 ∧ r ≠ 0) ∨ (o = 22 ∧ r < 0) ∨ (o = 20 ∧ r ≤ 0) ∨ (o = 23 ∧ 0 < r) ∨ (o ≠ 24 ∧ o ≠ 19 ∧ o ≠ 22 ∧ o ≠ 20 ∧ o ≠ 23 ∧ 0 ≤ r) then (0, 1, 1) else (0, 0, 1)
theorem x_Ma_relate {o x a b e f : Int} (io : i32 o) (ix : i32 x) (h : MS M0 z m U Ab0 Be0 C0 M (t + 1) c) (hA : (t : Int) + 1 < mN M (mR M m 6)) (hB : (t : Int) + 1 < mN M (mR M m 7)) (hv : 1 ≤ mI M (mR M m 7) (t + 1) ∧ mI M (mR M m 7) (t + 1) < 1000000000) (h1 : ptq M m t a b) (h2 : ptq M m (t + 1) e f) : Ci G y_Ma_relate d [vr m, vi o, vi x] M (fun r M' => r = 1 ∧ (rlv o x a b e f).1 = 0 ∧ MS M0 z m U Ab0 Be0 C0 M' (t + 1) c ∧ mtq m M M' ∧ plq M M' m t ∧ ptq M' m t (rlv o x a b e f).2.1 (rlv o x a b e f).2.2) := by
  obtain ⟨ok, k0, h8, kA, kB, tA, tB, bA, bB, hb, ⟨mA, mB⟩, ne⟩ := h.pile
  have q1 : Int.toNat (mI M m 8 - 1) = t := by omega
  have q2 : Int.toNat (mI M m 8) = t + 1 := by omega
  refine k_Ma_relate ok io ix ⟨fun o1 v7 e7 v13 e13 => ⟨fun ey => ?_, fun ny => k_Ma_relate_75 ok ?_⟩, fun o1 v50 e50 => ⟨k0, fun v57 e57 => ?_⟩⟩
  · have er : rlv o x a b e f = (0, e, f) := by
      unfold rlv
      rw [if_pos o1, if_pos]
      rw [e7, e13] at ey
      by_cases u : x ≤ 0 <;> by_cases w : o = 15 <;> simp [u, w] at ey ⊢ <;> omega
    rw [er, q1, q2]
    refine ⟨k0, kA, by omega, by omega, fun M24 e24 => ?_⟩
    have f24 : FI (fun b => b = mR M m 6) M M24 := by rw [e24]; exact FI.ui rfl
    have e8 : mI M24 m 8 = mI M m 8 := by rw [f24.2.2.2.2.2.2 m mA]
    rw [e8, q1, q2]
    refine ⟨by rw [f24.1, f24.2.2.1]; exact kB, by rw [f24.2.1, f24.2.2.1]; omega, by rw [f24.2.1, f24.2.2.1]; omega, fun M29 e29 => ?_⟩
    have eB : mI M24 (mR M24 m 7) (t + 1) = mI M (mR M m 7) (t + 1) := by rw [f24.2.2.1, f24.2.2.2.2.2.2 _ (fun u => ne u.symm)]
    have w := ms_val h (j := t) (by omega) (ok _ _).1 (by rw [eB]; exact hv) e24 e29
    have pv := pl_val ⟨mA, mB⟩ ne e24 e29
    rw [eB, h2.1, h2.2] at pv
    exact k_Ma_relate_75 w.1.pile.1 ⟨rfl, rfl, w.1, mtq.val h e24 e29, pv.1, pv.2⟩
  · have er : rlv o x a b e f = (0, a, b) := by
      unfold rlv
      rw [if_pos o1, if_neg]
      rw [e7, e13] at ny
      by_cases u : x ≤ 0 <;> by_cases w : o = 15 <;> simp [u, w] at ny ⊢ <;> omega
    rw [er]
    exact ⟨rfl, rfl, h, mtq.refl, plq.refl, h1⟩
  · have er : rlv o x a b e f = (0, v57, 1) := by
      unfold rlv
      rw [if_neg o1]
      rw [e57, e50]
      by_cases y : (o = 24 ∧ x = 0) ∨ (o = 19 ∧ x ≠ 0) ∨ (o = 22 ∧ x < 0) ∨ (o = 20 ∧ x ≤ 0) ∨ (o = 23 ∧ 0 < x) ∨ (o ≠ 24 ∧ o ≠ 19 ∧ o ≠ 22 ∧ o ≠ 20 ∧ o ≠ 23 ∧ 0 ≤ x)
      · rw [if_pos y, if_neg (by omega)]
      · rw [if_neg y, if_pos (by omega)]
    rw [er, q1]
    refine ⟨kA, by omega, fun M64 e64 => ?_⟩
    have f64 : FI (fun b => b = mR M m 6) M M64 := by rw [e64]; exact FI.ui rfl
    have e8 : mI M64 m 8 = mI M m 8 := by rw [f64.2.2.2.2.2.2 m mA]
    rw [e8, q1]
    refine ⟨by rw [f64.1, f64.2.2.1]; exact kB, by rw [f64.2.1, f64.2.2.1]; omega, fun M68 e68 => ?_⟩
    have i57 : i32 v57 := by rw [e57]; split <;> exact i32s (by omega) (by omega)
    have w := ms_val h (j := t) (by omega) i57 ⟨by omega, by omega⟩ e64 e68
    have pv := pl_val ⟨mA, mB⟩ ne e64 e68
    exact ⟨rfl, rfl, w.1, mtq.val h e64 e68, pv.1, pv.2⟩
end
end
