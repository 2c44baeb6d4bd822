section
section
variable {G : mG} {d w T A B D N C k n j : Nat} {M M' M1 M2 M3 : mM} {kw : (Nat → Int) → Nat → Nat → Int} {c : Nat → Int}
theorem x_Wo_takeWord {p : Nat} (hNS : NSx G kw) (hO : mOk M) (h : WA M w T A B D N C) (hi : WI M w A B D N k) (hkN : k < N) (hC2 : C ≤ 16777216) (hp : p < N) : Ci G y_Wo_takeWord (d + 7) [vr w, vi p] M (twX kw M w T A B D N C k p) := by
  obtain ⟨h1, ⟨p0, p3, p4, p5⟩, ⟨kT, nT⟩, -, -, h6, h7, h8, -⟩ := id h
  refine k_Wo_takeWord hO (i32s (by omega) (by omega)) ?_
  rw [p0, Int.toNat_natCast]
  have fin : ∀ {s : Int} {j : Nat}, ¬ isL (mI M T p) → ¬ isDq (mI M T p) → p < j → (s = 1 ∨ j ≤ N) → 1 ≤ s → s ≤ 39 → s ≠ 2 → s ≠ 3 → j ≤ N + 2 → s = csq (sgk (mI M T p) (lq (mI M T) N (p + 1))) → weq (mI M T) N p = j → h_Wo_takeWord_86 G (d + 6) w p s j M (twX kw M w T A B D N C k p) := fun {s j} nl nd hj hjN s1 s2 s3 s4 j2 es ew => by
    refine k_Wo_takeWord_86 hO (i32s (by omega) (by omega)) (i32s (by omega) (by omega)) (i32s (by omega) (by omega)) ⟨h1, ?_⟩
    refine (x_Wo_add2 (i32s (by omega) (by omega)) (i32s (by omega) (by omega)) (i32s (by omega) (by omega)) hO h hi hkN hC2 ⟨⟨s1, s2⟩, by omega, by omega, by omega⟩).mono (fun M16 q => ?_)
    obtain ⟨⟨o, f, h', i'⟩, eA, eB, eD⟩ := q
    have hwk := wkq_sg (n := N) (k1 := kw (mI M T)) nl nd
    have c1 : s = 1 ↔ wkq (kw (mI M T)) (mI M T) N p = 39 := by
      rw [hwk, es]
      generalize sgk (mI M T p) (lq (mI M T) N (p + 1)) = y at *
      have hy : s = csq y := es
      clear es
      constructor
      · intro q
        unfold csq at q
        (repeat' split at q) <;> omega
      · intro q; rw [q]; decide
    refine ⟨o, fun _ => h'.1, fun v21 e21 => ⟨⟨o, f, h', i', ?_⟩, ⟨s, 0, ⟨by rw [hwk]; exact es, rfl, fun q => absurd q nl, fun q => absurd q nd⟩, eA, eB, eD⟩, fun q => ?_, fun q => ?_⟩⟩
    · by_cases y : s = 1
      · rw [if_pos y, h'.2.2.2.2.2.1] at e21
        exact ⟨N, e21, by omega, Nat.le_refl _⟩
      · rw [if_neg y] at e21
        exact ⟨j, e21, hj, by omega⟩
    · rw [if_pos (c1.mpr q), h'.2.2.2.2.2.1] at e21
      exact e21
    · rw [if_neg (fun z => q (c1.mp z))] at e21
      rw [ew]; exact e21
  refine ⟨h1, kT, by omega, (x_Wo_isLetter hO (hO _ _).1).mono (fun x M2 q => ?_)⟩
  obtain ⟨e2, hx, hxl⟩ := q
  subst e2
  refine ⟨i32s (by omega) (by omega), hO, fun x0 => (s_Wo_isDigit hO (hO _ _).1).mono (fun x' M3 q => ?_), fun x0 => ⟨h1, (x_Wo_takeName hNS hO h hi hkN hC2 hp (hxl.mp x0)).mono (fun r M4 q => ?_)⟩⟩
  · obtain ⟨e3, hx', ex⟩ := q
    subst e3
    have nl : ¬ isL (mI M3 T p) := fun q => hxl.mpr q x0
    refine ⟨i32s (by omega) (by omega), hO, fun y0 => ?_, fun y0 => ⟨h1, (x_Wo_takeNumber (kw := kw) hO h hi hkN hC2 hp (ex.1 y0)).mono (fun r M4 q => ?_)⟩⟩
    · have nd : ¬ isDq (mI M3 T p) := fun q => ex.2 q y0
      clear ex hxl
      rw [p0]
      refine ⟨h1, i32s (by omega) (by omega), fun _ => ⟨kT, by omega⟩, fun v22 e22 => ?_⟩
      have i22 : i32 v22 := by
        rw [e22]
        split
        · exact ⟨by decide, by decide⟩
        · exact (hO _ _).1
      have nxt : v22 = lq (mI M3 T) N (p + 1) ∨ (v22 = 32 ∧ lq (mI M3 T) N (p + 1) = 0) := by
        unfold lq
        by_cases y : p + 1 < N
        · rw [if_pos y]
          rw [if_neg (by omega), show ((p : Int) + 1).toNat = p + 1 by omega] at e22
          exact Or.inl e22
        · rw [if_neg y]
          rw [if_pos (by omega)] at e22
          exact Or.inr ⟨e22, rfl⟩
      have two := sgn_two (x := mI M3 T p) nxt
      have hwe := weq_sg (n := N) nl nd
      refine (x_Wo_longSign hO (hO _ _).1 i22).mono (fun s M4 q => ?_)
      obtain ⟨e4, hs, es⟩ := q
      subst e4
      refine ⟨i32s (by omega) (by omega), hO, fun s1 => (x_Wo_shortSign hO (hO _ _).1).mono (fun s' M5 q => ?_), fun s1 => ?_⟩
      · obtain ⟨e5, ⟨b1, b2, b3, b4⟩, es'⟩ := q
        subst e5
        obtain ⟨t1, t2⟩ := two.2 (by rw [← es]; exact s1)
        rw [if_neg t2] at hwe
        exact ⟨i32s (by omega) (by omega), hO, fin (j := p + 1) nl nd (by omega) (Or.inr (by omega)) b1 b2 b3 b4 (by omega) (by rw [t1]; exact es') hwe⟩
      · obtain ⟨t1, t2⟩ := two.1 (by rw [← es]; exact s1)
        rw [if_pos t2] at hwe
        have pN : p + 2 ≤ N := by
          have := (weq_b (c := mI M4 T) hp).2
          omega
        clear two t2
        exact fin (j := p + 2) nl nd (by omega) (Or.inr pN) (by omega) (by omega) (by omega) (by omega) (by omega) (by rw [t1]; exact es) hwe
    · obtain ⟨⟨o, f, h', i', j, ej, j1, j2⟩, -⟩ := id q
      exact ⟨i32s (by omega) (by omega), o, q⟩
  · obtain ⟨⟨o, f, h', i', j, ej, j1, j2⟩, -⟩ := id q
    exact ⟨i32s (by omega) (by omega), o, q⟩
end
end
