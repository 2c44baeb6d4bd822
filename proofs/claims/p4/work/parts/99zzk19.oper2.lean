/-! The class's reader of rules: takeOperator, the whole. -/
section RRL
variable {G : mG} {d z r w T A B D N C n p O P K k a s L L1 V F d0 c : Nat} {M0 M M' M1 M2 : mM} {H H1 : Nat → Nat} {ns : Nat → Int} {wt : Int}
theorem lvl_pos {o : Int} (h : 0 < lvl o) : (19 ≤ o ∧ o ≤ 31) ∨ o = 41 := by
  unfold lvl at h
  split at h
  · omega
  split at h
  · omega
  split at h
  · omega
  split at h
  · omega
  split at h
  · omega
  split at h
  · omega
  · exact absurd h (by omega)
/-- the level from which on all is grouped -/
def tgh (o : Int) : Int := if lvl o = 4 then lvl o + 1 else if lvl o < 1 then 1 else lvl o
theorem s_to36 {o l1 : Int} (io : i32 o) (i1 : i32 l1) (e0 : a = n → o = 0) (o39 : o ≤ 39) : ∀ (k : Nat) (M : mM) (H : Nat → Nat) (L : Nat), RB M z r w T A B D N C n p O P K → rrF M0 r p O P s M → RG M r p O P n s V F ns d0 H L k a 0 → h_RR_takeOperator_36 G (d + 2) r l1 o (lvl o) (tgh o) M (rtQ M0 z r w T A B D N C n p O P K s V F ns d0 a) := by
  have lb := lvl_b o
  have tb : 1 ≤ tgh o ∧ tgh o ≤ 6 ∧ (lvl o ≤ 0 → tgh o = 1) ∧ (0 < lvl o → tgh o = if lvl o = 4 then 5 else lvl o) := by
    unfold tgh
    by_cases u : lvl o = 4
    · rw [if_pos u, if_pos u]; omega
    · rw [if_neg u, if_neg u]
      by_cases v : lvl o < 1
      · rw [if_pos v]; omega
      · rw [if_neg v]; omega
  have sgn : 0 < lvl o → 19 ≤ o ∧ o ≤ 31 := fun u => by
    have := lvl_pos u
    omega
  have i3 : i32 (lvl o) := i32s (by omega) (by omega)
  have i4 : i32 (tgh o) := i32s (by omega) (by omega)
  have fin : ∀ {k : Nat} {M : mM} {H : Nat → Nat} {L : Nat} {x : Int} {M' : mM}, rrF M0 r p O P s M → RG M r p O P n s V F ns d0 H L k a 0 → sgQ M z r w T A B D N C n p O P K s V F ns d0 H L k a x M' → i32 x ∧ mOk M' ∧ rtQ M0 z r w T A B D N C n p O P K s V F ns d0 a x M' := fun {k M H L x M'} f g q => by
    have q' := sg_st g f q
    refine ⟨?_, q'.1.1, q'⟩
    rcases q.2.2.2.2.2.2 with ⟨e, -⟩ | ⟨e, -⟩ <;> rw [e] <;> exact i32s (by omega) (by omega)
  intro k
  induction k with
  | zero =>
    intro M H L h f g
    have g2 := g.1.2.1
    have gn := g.2.2.1.1
    refine k_RR_takeOperator_36 h.1 i1 io i3 i4 ⟨h.2.1.1, fun _ => ⟨fun y => ⟨fun y1 => ?_, fun y1 => ?_⟩, fun y => ?_⟩, fun y => absurd y (by omega)⟩
    · refine (s_RR_takeAsk h g (by
        have : a ≠ n := fun u => by have := e0 u; omega
        omega) (fun q => absurd q (by omega))).mono (fun x M' q => fin f g q)
    · exact s_to112 io e0 0 M H L h f g (fun q => absurd q (by omega))
    · refine (s_RR_takeSign h g (sgn (by omega)) (by
        have : a ≠ n := fun u => by have := e0 u; have := sgn (by omega); omega
        omega) (fun q => absurd q (by omega))).mono (fun x M' q => fin f g q)
  | succ k ih =>
    intro M H L h f g
    have g2 := g.1.2.1
    have gn := g.2.2.1.1
    have rm := g.room
    have en := (g.2.2.2.2.2.2.1 k (by omega)).1
    obtain ⟨-, ⟨k0, ⟨q8, -⟩, ⟨kk1, -⟩, ⟨nn1, -⟩⟩, -⟩ := id h
    refine k_RR_takeOperator_36 h.1 i1 io i3 i4 ?_
    rw [g2, q8, nn1, show (((k + 1 : Nat) : Int) - 1).toNat = k by omega]
    refine ⟨k0, fun y => absurd y (by omega), fun _ => ⟨kk1, by omega, (s_RR_level (h.1 _ _).1 h.1).mono (fun x M39 q => ?_)⟩⟩
    obtain ⟨e39, ex⟩ := q
    subst e39
    have bx := lvl_b (mI M39 (r + 1) k)
    rw [g2]
    refine ⟨by rw [ex]; exact i32s (by omega) (by omega), h.1, fun y => ⟨fun y3 => ⟨fun _ => k0, fun y1 => ⟨k0, ?_⟩, fun y1 => ?_⟩, fun y3 => ⟨k0, ?_⟩⟩, fun y => ⟨k0, ⟨by omega, by omega⟩, fun M72 e72 => ?_⟩⟩
    · refine (s_RR_takeAsk h g (by
        have : a ≠ n := fun u => by have := e0 u; omega
        omega) (fun _ => by rw [show k + 1 - 1 = k by omega]; omega)).mono (fun x M' q => fin f g q)
    · exact s_to112 io e0 (k + 1) M39 H L h f g (fun _ => by rw [show k + 1 - 1 = k by omega]; omega)
    · refine (s_RR_takeSign h g (sgn (by omega)) (by
        have : a ≠ n := fun u => by have := e0 u; have := sgn (by omega); omega
        omega) (fun _ => by rw [show k + 1 - 1 = k by omega]; have := tb.2.2.2 (by omega); omega)).mono (fun x M' q => fin f g q)
    · have gp : grpO (mI M39 (r + 1) k) := by
        rcases lvl_pos (o := mI M39 (r + 1) k) (by omega) with u | u
        · exact Or.inl u
        · exact Or.inr (Or.inr (Or.inl u))
      refine (s_RR_group g h gp e72).mono (fun M74 q => ?_)
      have fq := f.trans (g_rrF q)
      obtain ⟨q1, -, -, -, -, -, -, -, H', L', g', -⟩ := q
      exact ⟨q1.1, ih M74 H' L' q1 fq g'⟩
theorem s_RR_takeOperator {l1 : Int} (i1 : i32 l1) (h : RB M z r w T A B D N C n p O P K) (g : RG M r p O P n s V F ns d0 H L k a 0) : Ci G y_RR_takeOperator (d + 3) [vr r, vi l1] M (rtQ M z r w T A B D N C n p O P K s V F ns d0 a) := by
  have g1 := g.1.1
  have gn := g.2.2.1.1
  obtain ⟨-, ⟨k0, -⟩, ⟨r0, -⟩, hW, -⟩ := id h
  obtain ⟨⟨w1, ⟨p0, p3, p4, p5⟩, -, ⟨k3, k4, k5⟩, ⟨c3, c4, c5⟩, w6, w7, w8, -⟩, e2, hnN, hw, hA, hB⟩ := id hW
  refine k_RR_takeOperator h.1 i1 ?_
  rw [r0, p3, g1, c3, Int.toNat_natCast]
  refine ⟨k0, w1, k3, by omega, (s_RR_level (h.1 _ _).1 h.1).mono (fun x M5 q => ?_)⟩
  obtain ⟨e5, ex⟩ := q
  subst e5
  subst ex
  have lb := lvl_b (mI M5 A a)
  refine ⟨i32s (by omega) (by omega), h.1, fun v9 e9 => ?_⟩
  subst e9
  refine s_to36 (h.1 _ _).1 i1 (fun u => by rw [u]; exact hA) ?_ k M5 H L h rrF.refl g
  by_cases u : a = n
  · rw [u, hA]; omega
  · exact (hw a (by omega)).1.2
end RRL
