/-! The class's game: weighChances. -/
section GAD
variable {G : mG} {d z g p O P K V F L cnt U Ab Be C Ab0 Be0 C0 s h t c cn k u v cc n : Nat} {M0 M M' M1 M2 : mM} {ns : Nat → Int} {sf ef : Nat → Nat} {H : Nat → Nat} {S R : Nat → Prop}
/-- what weighing comes to -/
def weQ (M0 : mM) (z g p O P K V F : Nat) (ns : Nat → Int) (sf ef : Nat → Nat) (L cnt Ab0 Be0 C0 : Nat) (MB : mM) (n cc : Nat) (r : Int) (M' : mM) : Prop := i32 r ∧ wgF MB g M' ∧ (∃ Ab Be C, GX M0 z g p O P K V F ns sf ef L cnt Ab0 Be0 C0 M' Ab Be C) ∧ (r = 0 → chz M' g n ∧ ∃ mu : Nat, mI M' (g + 6) cc = ((mu : Nat) : Int) ∧ 1 ≤ mu ∧ mu < 1000000000 ∧ shS M' g mu n = ((mu : Nat) : Int) ∧ ∀ b, b < n → (mI M' (g + 22) b) ∣ ((mu : Nat) : Int))
theorem pl_we (hx : GX M0 z g p O P K V F ns sf ef L cnt Ab0 Be0 C0 M Ab Be C) (hw : wgF M1 g M) (q : plQ M g M') {r : Int} (ir : i32 r) (hr : r ≠ 0) : weQ M0 z g p O P K V F ns sf ef L cnt Ab0 Be0 C0 M1 n cc r M' := by
  obtain ⟨q1, q2, q3⟩ := q
  have nb : ∀ x, x ≠ g → mI M' x = mI M x := fun x hx => q2.2.2.2.2.2.2 x hx
  refine ⟨ir, hw.trans ⟨q3, fun i i1 _ _ => nb _ (by omega), nb _ (by omega), fun i _ => by rw [nb _ (by omega)], by rw [nb _ (by omega)]⟩, ⟨Ab, Be, C, hx.fi q1 (q2.mono (fun x y => Or.inl (by have y' : x = g := y; omega)))⟩, fun u => absurd u hr⟩
end GAD
