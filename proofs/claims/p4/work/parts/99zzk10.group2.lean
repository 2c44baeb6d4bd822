/-! The class's reader of rules: group, a sign. -/
section RRM
variable {G : mG} {d z r w T A B D N C n p O P K k a s L V F d0 c : Nat} {M0 M M' M1 M2 : mM} {H H' : Nat → Nat} {ns : Nat → Int} {wt : Int}
theorem s_gr252 {l3 l4 : Int} (g : RG M0 r p O P n s V F ns d0 H L (k + 1) a 0) (hb0 : RB M0 z r w T A B D N C n p O P K) (ho : grpO (mI M0 (r + 1) k)) (h : gI M0 z r w T A B D N C n p O P K k (skk M0 r k) M) (h3 : l3 = 0 ∨ l3 = 1) (h4 : i32 l4) : h_RR_group_252 G d r (mI M0 (r + 1) k) l3 l4 M (gQ M0 z r w T A B D N C n p O P K s V F ns d0 H L k a) := by
  have rm := g.room
  obtain ⟨-, ⟨k0, ⟨q8, q9, -⟩, ⟨kk1, kk2, -⟩, ⟨nn1, nn2, -⟩⟩, -⟩ := id h.1
  have e12 := h.2.2.2.1.1
  refine k_RR_group_252 h.1.1 (hb0.1 _ _).1 (i32s (by omega) (by omega)) h4 ⟨fun y => ?_, fun y => s_gr271 g hb0 ho h h3⟩
  rw [q9, nn2]
  exact ⟨k0, kk2, by omega, (h.note (i32s (by omega) (by omega)) (h.1.1 _ _).1).mono (fun M1 q => ⟨q.1.1, s_gr271 g hb0 ho q h3⟩)⟩
theorem s_RR_group (g : RG M0 r p O P n s V F ns d0 H L (k + 1) a 0) (hb0 : RB M0 z r w T A B D N C n p O P K) (ho : grpO (mI M0 (r + 1) k)) (e : M = mUI M0 r 12 (((k + 1 : Nat) : Int) - 1)) : Cv G y_RR_group (d + 1) [vr r] M (gQ M0 z r w T A B D N C n p O P K s V F ns d0 H L k a) := by
  have rm := g.room
  have u0 : uw 0 = 1 := rfl
  rw [show ((k + 1 : Nat) : Int) - 1 = (k : Int) by omega] at e
  obtain ⟨hM, fM, rM, nM⟩ := rb_fld hb0 ⟨by omega, by omega⟩ e
  have sk1 := (sum_top M0 r k).2.1
  have hg : gI M0 z r w T A B D N C n p O P K k (skk M0 r k + ckk (mI M0 (r + 1) k) + 1) M := by
    obtain ⟨-, -, -, gc, -, -, -, -, -, -, gt⟩ := id g
    refine ⟨hM, fM, fun i i3 i4 i12 i14 => by rw [rM, if_neg i12], ⟨by rw [rM, if_pos rfl], by rw [rM, if_neg (by decide), gc, sk1]; omega⟩, fun _ => by rw [rM, if_neg (by decide)], fun b b1 _ => nM b b1, fun j => by rw [nM (r + 5) (by omega)]; exact gt j⟩
  have b1 : skk M0 r k + ckk (mI M0 (r + 1) k) < 336 := by omega
  obtain ⟨-, ⟨k0, ⟨q8, -⟩, ⟨kk1, -⟩, ⟨nn1, -⟩⟩, -⟩ := id hM
  have e12 := hg.2.2.2.1.1
  refine k_RR_group hM.1 ?_
  rw [q8, nn1, e12, Int.toNat_natCast, nM (r + 1) (by omega)]
  have D1 : ∀ {l3 l4 : Int} {M2 : mM}, gI M0 z r w T A B D N C n p O P K k (skk M0 r k) M2 → (l3 = 0 ∨ l3 = 1) → (l4 = 0 ∨ l4 = 1) → h_RR_group_252 G d r (mI M0 (r + 1) k) l3 l4 M2 (gQ M0 z r w T A B D N C n p O P K s V F ns d0 H L k a) := fun h2 y3 y4 => s_gr252 g hb0 ho h2 y3 (i32s (by omega) (by omega))
  refine ⟨k0, kk1, by omega, (hg.pop b1).mono (fun x5 M4 q => ?_)⟩
  obtain ⟨hx5, g4⟩ := q
  refine ⟨i32s (by omega) (by omega), g4.1.1, (s_RR_level (hb0.1 _ _).1 g4.1.1).mono (fun x8 M7 q => ?_)⟩
  obtain ⟨e7, ex8⟩ := q
  subst e7
  have lb := lvl_b (mI M0 (r + 1) k)
  generalize hop : mI M0 (r + 1) k = o at *
  refine ⟨i32s (by omega) (by omega), g4.1.1, fun v11 e11 => ?_⟩
  have i11 : v11 = 0 ∨ v11 = 1 := by rw [e11]; split <;> omega
  have two : (19 ≤ o ∧ o ≤ 31) → gI M0 z r w T A B D N C n p O P K k (skk M0 r k + 1) M7 := fun y => by
    have : ckk o = 1 := by unfold ckk; rw [if_pos y]
    rw [this] at g4
    exact g4
  have one : ¬ (19 ≤ o ∧ o ≤ 31) → gI M0 z r w T A B D N C n p O P K k (skk M0 r k) M7 := fun y => by
    have : ckk o = 0 := by unfold ckk; rw [if_neg y]
    rw [this] at g4
    exact g4
  have sb : skk M0 r k < 336 := by omega
  refine ⟨fun y => ⟨g4.1.2.1.1, ((two (by omega)).pop sb).mono (fun x M2 q => ?_)⟩, fun y1 => ⟨fun y => ⟨g4.1.2.1.1, ((two (by omega)).pop sb).mono (fun x M2 q => ?_)⟩, fun y2 => ⟨fun y v48 e48 => D1 (one (by omega)) (Or.inl rfl) (by rw [e48]; split <;> omega), fun y3 => ⟨fun y => D1 (one (by omega)) i11 hx5, fun y4 => ⟨fun y => ?_, fun y5 => ⟨g4.1.2.1.1, ((two (by unfold grpO at ho; omega)).pop sb).mono (fun x M2 q => ?_)⟩⟩⟩⟩⟩⟩
  · exact ⟨i32s (by omega) (by omega), q.2.1.1, fun v24 e24 => D1 q.2 i11 (by rw [e24]; split <;> omega)⟩
  · exact ⟨i32s (by omega) (by omega), q.2.1.1, fun v24 e24 => D1 q.2 i11 (by rw [e24]; split <;> omega)⟩
  · obtain ⟨-, ⟨k0', ⟨-, -, -, q11, -⟩, ⟨-, -, -, kk4, -⟩, ⟨-, -, -, nn4, -⟩⟩, -⟩ := id g4.1
    have e12' := g4.2.2.2.1.1
    rw [q11, nn4]
    exact ⟨k0', kk4, by omega, fun v62 e62 v67 e67 => D1 (one (by omega)) hx5 (by rw [e67]; split <;> omega)⟩
  · exact ⟨i32s (by omega) (by omega), q.2.1.1, fun v24 e24 => D1 q.2 i11 (by rw [e24]; split <;> omega)⟩
end RRM
