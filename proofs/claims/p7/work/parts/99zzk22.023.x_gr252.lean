section
section
variable {G : mG} {d z r w T A B D N C n p O P K k a s L V F d0 c : Nat} {M0 M M' M1 M2 M110 M126 M133 : mM} {H H' : Nat → Nat} {ns : Nat → Int} {wt : Int}
theorem x_gr252 {l3 l4 : Int} {pp : Prop} (g : RG M0 r p O P n s V F ns d0 H L (k + 1) a 0) (hb0 : RB M0 z r w T A B D N C n p O P K) (ho : grpO (mI M0 (r + 1) k)) (h : gI M0 z r w T A B D N C n p O P K k (skk M0 r k) M) (h3 : l3 = 0 ∨ l3 = 1) (h4 : i32 l4) (hx5 : mI M (r + 5) = mI M0 (r + 5)) (hx3 : mI M r 3 = mI M0 r 3 ∧ mI M r 4 = mI M0 r 4) (hpp : l4 = 0 ↔ ¬ pp) : h_RR_group_252 G d r (mI M0 (r + 1) k) l3 l4 M (fun M' => gQ M0 z r w T A B D N C n p O P K s V F ns d0 H L k a M' ∧ gE M0 r p O P k L l3 (kft pp (mI M0 (r + 2) k)) M') := by
  have rm := g.room
  obtain ⟨-, ⟨k0, ⟨q8, q9, -⟩, ⟨kk1, kk2, -⟩, ⟨nn1, nn2, -⟩⟩, -⟩ := id h.1
  have e12 := h.2.2.2.1.1
  refine k_RR_group_252 h.1.1 (hb0.1 _ _).1 (i32s (by omega) (by omega)) h4 ⟨fun y => ?_, fun y => ?_⟩
  · rw [q9, nn2]
    have hnp : ¬ pp := hpp.mp y
    have ek : kft pp (mI M0 (r + 2) k) = (3, mI M0 (r + 2) k) := if_neg hnp
    have h7 := h.2.2.2.2.2.1 (r + 2) (by omega) (by omega)
    refine ⟨k0, kk2, by omega, ?_⟩
    rw [e12, Int.toNat_natCast, h7]
    have h' := h
    obtain ⟨a1, a2, a3, ⟨a4, a5⟩, a6, a7, a8⟩ := h'
    refine (x_RR_note (i32s (by omega) (by omega)) (hb0.1 _ _).1 a1).mono (fun M1 q => ?_)
    obtain ⟨b1, f1, g1, -, g3, g4⟩ := q
    have o1 : ∀ b, b ≠ r → mI M1 b = mI M b := fun b hb => f1.2.2.2.2.2.2 b hb
    have hI : gI M0 z r w T A B D N C n p O P K k (skk M0 r k) M1 := ⟨b1, a2.trans (f1.mono (fun b q => Or.inl ⟨by omega, by omega⟩)), fun i i3 i4 i12 i14 => by rw [g1 i i3 i4]; exact a3 i i3 i4 i12 i14, ⟨by rw [g1 12 (by decide) (by decide)]; exact a4, by rw [g1 14 (by decide) (by decide)]; exact a5⟩, fun q => by rw [g3 (by rw [a6 q]; exact q)]; exact a6 q, fun b b1 b2 => by rw [o1 b b1]; exact a7 b b1 b2, fun j => by rw [o1 (r + 5) (by omega)]; exact a8 j⟩
    refine ⟨b1.1, ?_⟩
    rw [ek]
    exact x_gr271 g hb0 ho hI h3 (by rw [o1 (r + 5) (by omega)]; exact hx5) ((g4 (by decide)).first hx3.1 hx3.2)
  · have hp : pp := Classical.byContradiction (fun q => y (hpp.mpr q))
    have ek : kft pp (mI M0 (r + 2) k) = (0, 0) := if_pos hp
    rw [ek]
    exact x_gr271 g hb0 ho h h3 hx5 (Fq_none hx3.1 hx3.2)

end
end
