/-! The class's game: follow, the whole; tryCommand. -/
section GAG
variable {G : mG} {d z g p O P K V F L cnt U Ab Be C Ab0 Be0 C0 s h t c cn k u v cc n bc bc0 x a0 br : Nat} {M0 M M' M1 M2 : mM} {ns : Nat → Int} {sf ef : Nat → Nat} {H : Nat → Nat} {S R : Nat → Prop} {sm sh : Int}
theorem pl_fo {r : Int} (hb1 : mI M1 g 13 = ((bc : Nat) : Int)) (hx : GX M0 z g p O P K V F ns sf ef L cnt Ab0 Be0 C0 M Ab Be C) (hf : flF M1 g p bc0 M) (hcn : mI M g 0 = ((cn : Nat) : Int)) (hk : k ≤ cn) (hcn5 : cn ≤ 512) (hsl : SLt M g cn) (hbc : mI M g 13 = ((bc : Nat) : Int)) (hb : bc0 ≤ bc ∧ bc ≤ 4096) (q : plQ M g M') (ir : i32 r) (hr : r ≠ 0) : foQ M0 z g p O P K V F ns sf ef L cnt Ab0 Be0 C0 M1 bc0 k sm r M' := by
  obtain ⟨q1, q2, q3⟩ := q
  have off := ga_off hx
  have nb : ∀ x, x ≠ g → mI M' x = mI M x := fun x hx => q2.2.2.2.2.2.2 x hx
  exact ⟨ir, hf.trans ⟨fun i _ i10 _ => q3 i i10, fun i i2 _ => nb _ (by omega), ⟨nb _ (by omega), nb _ (by omega)⟩, by rw [nb _ (by omega)], fun i hi => nb _ (off i 0 hi (by omega)), fun i _ => ⟨by rw [nb _ (by omega)], by rw [nb _ (by omega)]⟩⟩, ⟨Ab, Be, C, hx.fi q1 (q2.mono (fun x y => Or.inl (by have y' : x = g := y; omega)))⟩, cn, bc, ⟨by rw [q3 0 (by decide)]; exact hcn, hk, hcn5, fun i hi => by rw [nb _ (by omega)]; exact hsl i hi⟩, by rw [q3 13 (by decide)]; exact hbc, hb.1, ⟨hb.2, by omega⟩, fun u => absurd u hr⟩
end GAG
