section
section
variable {G : mG} {d z r w T A B D N C n p O P K k a s L V F d0 c : Nat} {M0 M M' M1 M2 M110 M126 M133 : mM} {H H' : Nat → Nat} {ns : Nat → Int} {wt : Int}

theorem pshE.of {M18 M22 : mM} {o pl od : Int} (r22 : ∀ i, mI M22 r i = if i = 2 then (a : Int) + 1 else if i = 7 then 1 else if i = 12 then (k : Int) + 1 else mI M18 r i) (t1 : ∀ i, mI M22 (r + 1) i = if i = k then o else mI M18 (r + 1) i) (t2 : ∀ i, mI M22 (r + 2) i = if i = k then pl else mI M18 (r + 2) i) (t3 : ∀ i, mI M22 (r + 3) i = if i = k then od else mI M18 (r + 3) i) (t4 : ∀ i, mI M22 (r + 4) i = if i = k then 0 else mI M18 (r + 4) i) (Z : ∀ b, (b < r ∨ r + 4 < b) → mI M22 b = mI M18 b) (Y : ∀ b, r ≤ b → b ≤ r + 9 → mI M18 b = mI M b) : pshE M r k o pl od 0 (mI M r 5) (mI M r 14) M22 := by
  have y0 := Y r (by omega) (by omega)
  have S22 : ∀ i, i ≠ 2 → i ≠ 7 → i ≠ 12 → mI M22 r i = mI M r i := fun i i2 i7 i12 => by rw [r22, if_neg i2, if_neg i7, if_neg i12, y0]
  exact ⟨⟨by rw [r22, if_neg (by decide), if_neg (by decide), if_pos rfl], S22 5 (by decide) (by decide) (by decide), S22 3 (by decide) (by decide) (by decide), S22 4 (by decide) (by decide) (by decide), S22 14 (by decide) (by decide) (by decide)⟩, fun i => by rw [t1, Y (r + 1) (by omega) (by omega)], fun i => by rw [t2, Y (r + 2) (by omega) (by omega)], fun i => by rw [t3, Y (r + 3) (by omega) (by omega)], fun i => by rw [t4, Y (r + 4) (by omega) (by omega)], by rw [Z (r + 5) (by omega), Y (r + 5) (by omega) (by omega)]⟩
end
end
