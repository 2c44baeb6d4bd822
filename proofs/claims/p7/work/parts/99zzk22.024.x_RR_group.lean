section
section
variable {G : mG} {d z r w T A B D N C n p O P K k a s L V F d0 c : Nat} {M0 M M' M1 M2 M110 M126 M133 : mM} {H H' : Nat → Nat} {ns : Nat → Int} {wt : Int}
theorem x_RR_group (g : RG M0 r p O P n s V F ns d0 H L (k + 1) a 0) (hb0 : RB M0 z r w T A B D N C n p O P K) (ho : grpO (mI M0 (r + 1) k)) (e : M = mUI M0 r 12 (((k + 1 : Nat) : Int) - 1)) : Cv G y_RR_group (d + 1) [vr r] M (fun M' => gQ M0 z r w T A B D N C n p O P K s V F ns d0 H L k a M' ∧ gE M0 r p O P k L (gtv (mI M0 (r + 1) k) (mI M0 (r + 5) (skk M0 r k + ckk (mI M0 (r + 1) k)))) (kft (gft (mI M0 (r + 1) k) (mI M0 (r + 4) k) (mI M0 (r + 5) (skk M0 r k)) (mI M0 (r + 5) (skk M0 r k + ckk (mI M0 (r + 1) k)))) (mI M0 (r + 2) k)) M') := by
  have rm := g.room
  have u0 : uw 0 = 1 := rfl
  rw [show ((k + 1 : Nat) : Int) - 1 = (k : Int) by first | rfl | omega] at e
  obtain ⟨hM, fM, rM, nM⟩ := rb_fld hb0 ⟨by omega, by omega⟩ e
  have sk1 := (sum_top M0 r k).2.1
  have gt0 : ∀ j, mI M0 (r + 5) j = 0 ∨ mI M0 (r + 5) j = 1 := g.2.2.2.2.2.2.2.2.2.2
  have hg : gI M0 z r w T A B D N C n p O P K k (skk M0 r k + ckk (mI M0 (r + 1) k) + 1) M := by
    obtain ⟨-, -, -, gc, -, -, -, -, -, -, gt⟩ := id g
    refine ⟨hM, fM, fun i i3 i4 i12 i14 => by rw [rM, if_neg i12], ⟨by rw [rM, if_pos rfl], by rw [rM, if_neg (by decide), gc, sk1]; omega⟩, fun _ => by rw [rM, if_neg (by decide)], fun b b1 _ => nM b b1, fun j => by rw [nM (r + 5) (by omega)]; exact gt j⟩
  -- a kind is taken, and nothing else
  have pop : ∀ {c9 : Nat} {M4 : mM}, gI M0 z r w T A B D N C n p O P K k (c9 + 1) M4 → mI M4 (r + 5) = mI M0 (r + 5) → (mI M4 r 3 = mI M0 r 3 ∧ mI M4 r 4 = mI M0 r 4) → c9 < 336 → Ci G y_RR_popKind d [vr r] M4 (fun v M5 => v = mI M0 (r + 5) c9 ∧ gI M0 z r w T A B D N C n p O P K k c9 M5 ∧ mI M5 (r + 5) = mI M0 (r + 5) ∧ (mI M5 r 3 = mI M0 r 3 ∧ mI M5 r 4 = mI M0 r 4)) := fun {c9 M4} h h5 h34 hc => by
    obtain ⟨h1, h2, h3, ⟨h4, h5'⟩, h6, h7, h8⟩ := h
    refine (x_RR_popKind h1 h5' hc).mono (fun v M1 q => ?_)
    obtain ⟨⟨hv, hv2⟩, b1, f1, g1⟩ := q
    have o1 : ∀ b, b ≠ r → mI M1 b = mI M4 b := fun b hb => f1.2.2.2.2.2.2 b hb
    refine ⟨by rw [← h5]; exact hv2 (h8 c9), ⟨b1, h2.trans (f1.mono (fun b q => Or.inl ⟨by omega, by omega⟩)), fun i i3 i4 i12 i14 => by rw [g1, if_neg i14]; exact h3 i i3 i4 i12 i14, ⟨by rw [g1, if_neg (by decide)]; exact h4, by rw [g1, if_pos rfl]⟩, fun q => by rw [g1, if_neg (by decide)]; exact h6 q, fun b b1 b2 => by rw [o1 b b1]; exact h7 b b1 b2, fun j => by rw [o1 (r + 5) (by omega)]; exact h8 j⟩, by rw [o1 (r + 5) (by omega)]; exact h5, by rw [g1, if_neg (by decide)]; exact h34.1, by rw [g1, if_neg (by decide)]; exact h34.2⟩
  have b1 : skk M0 r k + ckk (mI M0 (r + 1) k) < 336 := by omega
  obtain ⟨-, ⟨k0, ⟨q8, -⟩, ⟨kk1, -⟩, ⟨nn1, -⟩⟩, -⟩ := id hM
  have e12 := hg.2.2.2.1.1
  refine k_RR_group hM.1 ?_
  rw [q8, nn1, e12, Int.toNat_natCast, nM (r + 1) (by omega)]
  refine ⟨k0, kk1, by omega, (pop hg (nM (r + 5) (by omega)) ⟨by rw [rM, if_neg (by decide)], by rw [rM, if_neg (by decide)]⟩ b1).mono (fun x5 M4 q => ?_)⟩
  obtain ⟨hx5, g4, y4, z4⟩ := q
  have hx01 := gt0 (skk M0 r k + ckk (mI M0 (r + 1) k))
  rw [← hx5] at hx01 ⊢
  refine ⟨i32s (by omega) (by omega), g4.1.1, (s_RR_level (hb0.1 _ _).1 g4.1.1).mono (fun x8 M7 q => ?_)⟩
  obtain ⟨e7, ex8⟩ := q
  subst e7
  have lb := lvl_b (mI M0 (r + 1) k)
  have h4k : mI M7 (r + 4) k = mI M0 (r + 4) k := by rw [g4.2.2.2.2.2.1 (r + 4) (by omega) (by omega)]
  generalize hop : mI M0 (r + 1) k = o at *
  have D1 : ∀ {l3 l4 : Int} {pp : Prop} {M2 : mM}, gI M0 z r w T A B D N C n p O P K k (skk M0 r k) M2 → mI M2 (r + 5) = mI M0 (r + 5) → (mI M2 r 3 = mI M0 r 3 ∧ mI M2 r 4 = mI M0 r 4) → (l3 = 0 ∨ l3 = 1) → (l4 = 0 ∨ l4 = 1) → (l4 = 0 ↔ ¬ pp) → l3 = gtv o x5 → (pp ↔ gft o (mI M0 (r + 4) k) (mI M0 (r + 5) (skk M0 r k)) x5) → h_RR_group_252 G d r o l3 l4 M2 (fun M' => gQ M0 z r w T A B D N C n p O P K s V F ns d0 H L k a M' ∧ gE M0 r p O P k L (gtv o x5) (kft (gft o (mI M0 (r + 4) k) (mI M0 (r + 5) (skk M0 r k)) x5) (mI M0 (r + 2) k)) M') := fun {l3 l4 pp M2} h2 y5 y34 y3 y4 yp et ep => by
    have := x_gr252 (G := G) (d := d) (l3 := l3) (l4 := l4) (pp := pp) g hb0 (by rw [hop]; exact ho) h2 y3 (i32s (by omega) (by omega)) y5 y34 yp
    rw [hop, propext ep, et] at this
    rw [et]
    exact this
  refine ⟨i32s (by omega) (by omega), g4.1.1, fun v11 e11 => ?_⟩
  have i11 : v11 = 0 ∨ v11 = 1 := by rw [e11]; split <;> omega
  have two : (19 ≤ o ∧ o ≤ 31) → gI M0 z r w T A B D N C n p O P K k (skk M0 r k + 1) M7 := fun y => by
    have : ckk o = 1 := by unfold ckk; rw [if_pos y]
    rw [this] at g4
    exact g4
  have one : ¬ (19 ≤ o ∧ o ≤ 31) → gI M0 z r w T A B D N C n p O P K k (skk M0 r k) M7 := fun y => by
    have : ckk o = 0 := by unfold ckk; rw [if_neg y]
    rw [this] at g4
    exact g4
  have sb : skk M0 r k < 336 := by omega
  have l01 := gt0 (skk M0 r k)
  have tv11 : ((19 ≤ o ∧ o ≤ 31) ∨ o = 41) → v11 = gtv o x5 := fun y => by
    rw [e11, ex8]
    clear i11 l01 lb hx01 sb b1 rm sk1 u0
    unfold gtv lvl
    (repeat' split) <;> omega
  have gf : (19 ≤ o ∧ o ≤ 31) → (gft o (mI M0 (r + 4) k) (mI M0 (r + 5) (skk M0 r k)) x5 ↔ okq (o - 1) (mI M0 (r + 5) (skk M0 r k)) x5) := fun y => by
    unfold gft
    rw [if_neg (by omega), if_neg (by omega), if_neg (by omega)]
  refine ⟨fun y => ⟨g4.1.2.1.1, (pop (two (by omega)) y4 z4 sb).mono (fun x M2 q => ?_)⟩, fun y1 => ⟨fun y => ⟨g4.1.2.1.1, (pop (two (by omega)) y4 z4 sb).mono (fun x M2 q => ?_)⟩, fun y2 => ⟨fun y v48 e48 => D1 (pp := x5 = 0) (one (by omega)) y4 z4 (Or.inl rfl) (by rw [e48]; split <;> omega) (by rw [e48]; split <;> omega) (by unfold gtv; rw [if_pos y]) (by unfold gft; rw [if_pos y]), fun y3 => ⟨fun y => D1 (pp := x5 = 1) (one (by omega)) y4 z4 i11 hx01 (by omega) (tv11 (Or.inr y)) (by unfold gft; rw [if_neg y3, if_pos y]), fun y4' => ⟨fun y => ?_, fun y5 => ⟨g4.1.2.1.1, (pop (two (by unfold grpO at ho; omega)) y4 z4 sb).mono (fun x M2 q => ?_)⟩⟩⟩⟩⟩⟩
  · obtain ⟨w1, w2, w3, w4⟩ := q
    refine ⟨i32s (by omega) (by omega), w2.1.1, fun v24 e24 => D1 (pp := okq (o - 1) (mI M0 (r + 5) (skk M0 r k)) x5) w2 w3 w4 i11 (by rw [e24]; split <;> omega) ?_ (tv11 (Or.inl (by omega))) (gf (by omega)).symm⟩
    have ok : okq (o - 1) (mI M0 (r + 5) (skk M0 r k)) x5 ↔ mI M0 (r + 5) (skk M0 r k) = x5 := by
      unfold okq
      rw [if_neg (by omega), if_pos (by omega)]
    rw [ok, e24, w1]
    split <;> omega
  · obtain ⟨w1, w2, w3, w4⟩ := q
    refine ⟨i32s (by omega) (by omega), w2.1.1, fun v24 e24 => D1 (pp := okq (o - 1) (mI M0 (r + 5) (skk M0 r k)) x5) w2 w3 w4 i11 (by rw [e24]; split <;> omega) ?_ (tv11 (Or.inl (by omega))) (gf (by omega)).symm⟩
    have ok : okq (o - 1) (mI M0 (r + 5) (skk M0 r k)) x5 ↔ (mI M0 (r + 5) (skk M0 r k) = 1 ∧ x5 = 1) := by
      unfold okq
      rw [if_pos (by omega)]
    rw [ok, e24, w1]
    split <;> omega
  · obtain ⟨-, ⟨k0', ⟨-, -, -, q11, -⟩, ⟨-, -, -, kk4, -⟩, ⟨-, -, -, nn4, -⟩⟩, -⟩ := id g4.1
    have e12' := g4.2.2.2.1.1
    rw [q11, nn4, e12', Int.toNat_natCast, h4k]
    refine ⟨k0', kk4, by omega, fun v62 e62 v67 e67 => D1 (pp := mI M0 (r + 4) k = if x5 = 1 then 4 else 0) (one (by omega)) y4 z4 hx01 (by rw [e67]; split <;> omega) ?_ (by unfold gtv; rw [if_neg y3, if_pos y]) (by unfold gft; rw [if_neg y3, if_neg y4', if_pos y])⟩
    have ev : v62 = if x5 = 1 then 4 else 0 := by rw [e62]; (repeat' split) <;> omega
    rw [e67, ev]
    by_cases yy : mI M0 (r + 4) k = if x5 = 1 then 4 else 0
    · rw [if_pos yy]; exact ⟨fun q => absurd q (by decide), fun q => absurd yy q⟩
    · rw [if_neg yy]; exact ⟨fun _ => yy, fun _ => rfl⟩
  · obtain ⟨w1, w2, w3, w4⟩ := q
    have hr : 19 ≤ o ∧ o ≤ 31 := by unfold grpO at ho; omega
    refine ⟨i32s (by omega) (by omega), w2.1.1, fun v24 e24 => D1 (pp := okq (o - 1) (mI M0 (r + 5) (skk M0 r k)) x5) w2 w3 w4 i11 (by rw [e24]; split <;> omega) ?_ (tv11 (Or.inl hr)) (gf hr).symm⟩
    have ok : okq (o - 1) (mI M0 (r + 5) (skk M0 r k)) x5 ↔ (mI M0 (r + 5) (skk M0 r k) = 0 ∧ x5 = 0) := by
      unfold okq
      rw [if_neg (by omega), if_neg (by omega)]
    rw [ok, e24, w1]
    split <;> omega
end
end
