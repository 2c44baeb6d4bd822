section
section
variable {G : mG} {d z r w T A B D N C n p O P K k a s L V F d0 : Nat} {M M' M1 M2 : mM} {H H' : Nat → Nat} {ns : Nat → Int} {wt : Int}
theorem s_RR_push {o pl od : Int} (ho : i32 o) (hpl : i32 pl) (hod : i32 od) (h : RB M z r w T A B D N C n p O P K) (hk : mI M r 12 = k) (hk3 : k < 336) (ha : mI M r 2 = a) (ha2 : a ≤ 16384) : Cv G y_RR_push d [vr r, vi o, vi pl, vi od] M (fun M' => RB M' z r w T A B D N C n p O P K ∧ FI (fun b => r ≤ b ∧ b ≤ r + 4) M M' ∧ (∀ i, mI M' r i = if i = 2 then (a : Int) + 1 else if i = 7 then 1 else if i = 12 then (k : Int) + 1 else mI M r i) ∧ (∀ i, mI M' (r + 1) i = if i = k then o else mI M (r + 1) i) ∧ (∀ i, mI M' (r + 2) i = if i = k then pl else mI M (r + 2) i) ∧ (∀ i, mI M' (r + 3) i = if i = k then od else mI M (r + 3) i) ∧ (∀ i, mI M' (r + 4) i = if i = k then 0 else mI M (r + 4) i)) := by
  have q8 : ∀ {Mx : mM}, RB Mx z r w T A B D N C n p O P K → (mR Mx r 8 = r + 1 ∧ mR Mx r 9 = r + 2 ∧ mR Mx r 10 = r + 3 ∧ mR Mx r 11 = r + 4) ∧ (mK Mx (r + 1) = 30 ∧ mK Mx (r + 2) = 30 ∧ mK Mx (r + 3) = 30 ∧ mK Mx (r + 4) = 30) ∧ (mN Mx (r + 1) = 336 ∧ mN Mx (r + 2) = 336 ∧ mN Mx (r + 3) = 336 ∧ mN Mx (r + 4) = 336) := fun hx => by
    obtain ⟨-, ⟨-, ⟨a1, a2, a3, a4, -⟩, ⟨b1, b2, b3, b4, -⟩, ⟨c1, c2, c3, c4, -⟩⟩, -⟩ := hx
    exact ⟨⟨a1, a2, a3, a4⟩, ⟨b1, b2, b3, b4⟩, ⟨c1, c2, c3, c4⟩⟩
  refine k_RR_push h.1 ho hpl hod ⟨h.2.1.1, fun y => absurd y (by omega), fun _ => ?_⟩
  rw [(q8 h).1.1, hk, Int.toNat_natCast, (q8 h).2.2.1]
  refine ⟨(q8 h).2.1.1, by omega, fun M16 e16 => ?_⟩
  obtain ⟨h16, f16, g16, u16⟩ := rb_tab h (i := 1) (by omega) (by omega) ho e16
  rw [(q8 h16).1.2.1, u16 r (by omega), hk, Int.toNat_natCast, (q8 h16).2.2.2.1]
  refine ⟨(q8 h16).2.1.2.1, by omega, fun M20 e20 => ?_⟩
  obtain ⟨h20, f20, g20, u20⟩ := rb_tab h16 (i := 2) (by omega) (by omega) hpl e20
  rw [(q8 h20).1.2.2.1, u20 r (by omega), u16 r (by omega), hk, Int.toNat_natCast, (q8 h20).2.2.2.2.1]
  refine ⟨(q8 h20).2.1.2.2.1, by omega, fun M24 e24 => ?_⟩
  obtain ⟨h24, f24, g24, u24⟩ := rb_tab h20 (i := 3) (by omega) (by omega) hod e24
  rw [(q8 h24).1.2.2.2, u24 r (by omega), u20 r (by omega), u16 r (by omega), hk, Int.toNat_natCast, (q8 h24).2.2.2.2.2]
  refine ⟨(q8 h24).2.1.2.2.2, by omega, fun M28 e28 => ?_⟩
  obtain ⟨h28, f28, g28, u28⟩ := rb_tab h24 (i := 4) (by omega) (by omega) (v := 0) (i32s (by omega) (by omega)) e28
  have r28 : mI M28 r = mI M r := by rw [u28 r (by omega), u24 r (by omega), u20 r (by omega), u16 r (by omega)]
  rw [r28, hk]
  refine ⟨⟨by omega, by omega⟩, fun M31 e31 M33 e33 => ?_⟩
  obtain ⟨h31, f31, g31, u31⟩ := rb_fld h28 ⟨by omega, by omega⟩ e31
  obtain ⟨h33, f33, g33, u33⟩ := rb_fld h31 (v := 1) (i32s (by omega) (by omega)) e33
  have e2 : mI M33 r 2 = a := by rw [g33, if_neg (by decide), g31, if_neg (by decide), r28, ha]
  rw [e2]
  refine ⟨⟨by omega, by omega⟩, fun M36 e36 => ?_⟩
  obtain ⟨h36, f36, g36, u36⟩ := rb_fld h33 ⟨by omega, by omega⟩ e36
  have fi : FI (fun b => r ≤ b ∧ b ≤ r + 4) M M36 := by
    have x16 : FI (fun b => r ≤ b ∧ b ≤ r + 4) M M16 := by rw [e16]; exact FI.ui ⟨by omega, by omega⟩
    have x20 : FI (fun b => r ≤ b ∧ b ≤ r + 4) M16 M20 := by rw [e20]; exact FI.ui ⟨by omega, by omega⟩
    have x24 : FI (fun b => r ≤ b ∧ b ≤ r + 4) M20 M24 := by rw [e24]; exact FI.ui ⟨by omega, by omega⟩
    have x28 : FI (fun b => r ≤ b ∧ b ≤ r + 4) M24 M28 := by rw [e28]; exact FI.ui ⟨by omega, by omega⟩
    have x31 : FI (fun b => r ≤ b ∧ b ≤ r + 4) M28 M31 := by rw [e31]; exact FI.ui ⟨by omega, by omega⟩
    have x33 : FI (fun b => r ≤ b ∧ b ≤ r + 4) M31 M33 := by rw [e33]; exact FI.ui ⟨by omega, by omega⟩
    have x36 : FI (fun b => r ≤ b ∧ b ≤ r + 4) M33 M36 := by rw [e36]; exact FI.ui ⟨by omega, by omega⟩
    exact (((((x16.trans x20).trans x24).trans x28).trans x31).trans x33).trans x36
  refine ⟨h36, fi, fun i => ?_, fun i => ?_, fun i => ?_, fun i => ?_, fun i => ?_⟩
  · rw [g36]
    by_cases y2 : i = 2
    · rw [if_pos y2, if_pos y2]
    · rw [if_neg y2, if_neg y2, g33]
      by_cases y7 : i = 7
      · rw [if_pos y7, if_pos y7]
      · rw [if_neg y7, if_neg y7, g31, r28]
  · rw [u36 _ (by omega), u33 _ (by omega), u31 _ (by omega), u28 _ (by omega), u24 _ (by omega), u20 _ (by omega), g16]
  · rw [u36 _ (by omega), u33 _ (by omega), u31 _ (by omega), u28 _ (by omega), u24 _ (by omega), g20, u16 _ (by omega)]
  · rw [u36 _ (by omega), u33 _ (by omega), u31 _ (by omega), u28 _ (by omega), g24, u20 _ (by omega), u16 _ (by omega)]
  · rw [u36 _ (by omega), u33 _ (by omega), u31 _ (by omega), g28, u24 _ (by omega), u20 _ (by omega), u16 _ (by omega)]
/-- the orders lie apart from the reader -/
theorem off0 {x r : Nat} (h : x < r ∨ r + 9 < x) : x ≠ r := by omega
theorem off9 {x r i : Nat} (h : x < r ∨ r + 9 < x) (hi : i ≤ 9) : x ≠ r + i := by omega
theorem off4 {x r : Nat} (h : x < r ∨ r + 9 < x) : x < r ∨ r + 4 < x := by omega
theorem fof0 {x r : Nat} (h : x < r ∨ r + 9 < x) : r ≠ x := by omega
theorem fof9 {x r i : Nat} (h : x < r ∨ r + 9 < x) (hi : i ≤ 9) : r + i ≠ x := by omega
end
end
