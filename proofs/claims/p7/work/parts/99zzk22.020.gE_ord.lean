section
section
variable {G : mG} {d z r w T A B D N C n p O P K k a s L V F d0 c : Nat} {M0 M M' M1 M2 M110 M126 M133 : mM} {H H' : Nat → Nat} {ns : Nat → Int} {wt : Int}

theorem Fqq.two {r : Nat} {v v' : Int × Int} (h : Fqq M r v M1) (h' : Fqq M1 r v' M2) (e : v.1 = 0) : Fqq M r v' M2 := fun ft hf => by
  have a := h ft hf
  have b := h' _ a
  by_cases z : ft.1 = 0
  · have e1 : fst9 ft v = v := if_pos z
    have e2 : fst9 ft v' = v' := if_pos z
    rw [e1] at b
    rw [e2]
    have e3 : fst9 v v' = v' := if_pos e
    rw [e3] at b
    exact b
  · have e1 : fst9 ft v = ft := if_neg z
    rw [e1] at b
    exact b
theorem Fqq.later {r : Nat} {v : Int × Int} (h : Fqq M r v M1) (h3 : mI M2 r 3 = mI M1 r 3) (h4 : mI M2 r 4 = mI M1 r 4) : Fqq M r v M2 := fun ft hf => (h ft hf).same h3 h4
theorem Fqq.first {r : Nat} {v : Int × Int} (h : Fqq M1 r v M2) (h3 : mI M1 r 3 = mI M r 3) (h4 : mI M1 r 4 = mI M r 4) : Fqq M r v M2 := fun ft hf => h ft (hf.same h3 h4)
theorem gE_ord {o l3 : Int} {v9 : Int × Int} (hb0 : RB M0 z r w T A B D N C n p O P K) (hop : mI M0 (r + 1) k = o) (nj : ¬ jm o) (R12 : mI M110 r 12 = k) (GD : mI M110 r 5 = mI M0 r 5 - cdp o) (R14 : mI M110 r 14 = ((uw 0 + skk M0 r k : Nat) : Int)) (X : ∀ b, b ≠ r → b ≠ r + 5 → mI M110 b = mI M0 b) (G5 : ∀ i, mI M110 (r + 5) i = if i = skk M0 r k then l3 else mI M0 (r + 5) i) (GF : Fqq M0 r v9 M110) (f126 : FI (prS p O P) M110 M126) (p126 : ∀ j, mI M126 p j = if j = 2 then (L : Int) + 1 else mI M110 p j) (q126 : ∀ j, mI M126 O j = if j = L then o else mI M110 O j) (u126 : ∀ j, mI M126 P j = if j = L then mI M0 (r + 2) k else mI M110 P j) : gE M0 r p O P k L l3 v9 M126 := by
  obtain ⟨oO, oP, op, e1, e2, e3⟩ := hb0.off
  have Y6 : ∀ b, b ≠ p → b ≠ O → b ≠ P → mI M126 b = mI M110 b := fun b y1 y2 y3 => f126.2.2.2.2.2.2 b (fun q => by
    have q' : b = p ∨ b = O ∨ b = P := q
    first | exact off3 op oO oP (by assumption) (by assumption) q' | omega)
  have Yr : mI M126 r = mI M110 r := Y6 r (by omega) (by omega) (by omega)
  have Y5 : mI M126 (r + 5) = mI M110 (r + 5) := Y6 (r + 5) (by omega) (by omega) (by omega)
  have XO : mI M110 O = mI M0 O := X O (by first | exact oO | exact off0 oO | exact off9 oO (by decide) | exact off4 oO | exact e1 | exact e3 | omega) (by first | exact oO | exact off0 oO | exact off9 oO (by decide) | exact off4 oO | exact e1 | exact e3 | omega)
  have XP : mI M110 P = mI M0 P := X P (by first | exact oP | exact off0 oP | exact off9 oP (by decide) | exact off4 oP | exact e2 | exact fun q => e3 q.symm | omega) (by first | exact oP | exact off0 oP | exact off9 oP (by decide) | exact off4 oP | exact e2 | exact fun q => e3 q.symm | omega)
  have YT : ∀ i, 1 ≤ i → i ≤ 4 → mI M126 (r + i) = mI M0 (r + i) := fun i i1 i4 => by rw [Y6 (r + i) (by omega) (by omega) (by omega), X (r + i) (by omega) (by omega)]
  unfold gE
  rw [hop]
  exact ⟨⟨by rw [Yr]; exact R12, by rw [Yr]; exact GD, by rw [Yr]; exact R14⟩, YT, fun i => by rw [Y5]; exact G5 i, GF.later (by rw [Yr]) (by rw [Yr]), fun _ => ⟨fun i => by rw [q126, XO], fun i => by rw [u126, XP], by rw [p126, if_pos rfl]⟩, fun q => absurd q nj⟩
end
end
