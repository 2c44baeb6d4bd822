/-! The class's machine, exactly: compute. -/
section LTM
/-- two fractions in least terms that are equal are the same -/
theorem lterm {a b e f : Int} (hb : 0 < b) (hf : 0 < f) (g1 : Int.gcd a b = 1) (g2 : Int.gcd e f = 1) (h : a * f = e * b) : a = e ∧ b = f := by
  have d1 : b ∣ f := by
    rw [← Int.natAbs_dvd_natAbs]
    refine Nat.Coprime.dvd_of_dvd_mul_right (n := a.natAbs) ?_ ?_
    · show Nat.gcd b.natAbs a.natAbs = 1
      rw [Nat.gcd_comm]; exact g1
    · rw [← Int.natAbs_mul, Int.mul_comm, h, Int.natAbs_mul]
      exact Nat.dvd_mul_left _ _
  have d2 : f ∣ b := by
    rw [← Int.natAbs_dvd_natAbs]
    refine Nat.Coprime.dvd_of_dvd_mul_right (n := e.natAbs) ?_ ?_
    · show Nat.gcd f.natAbs e.natAbs = 1
      rw [Nat.gcd_comm]; exact g2
    · rw [← Int.natAbs_mul, Int.mul_comm, ← h, Int.natAbs_mul]
      exact Nat.dvd_mul_left _ _
  have e1 := Int.le_of_dvd hf d1
  have e2 := Int.le_of_dvd hb d2
  have ebf : b = f := by omega
  subst ebf
  exact ⟨Int.eq_of_mul_eq_mul_right (by omega) h, rfl⟩
/-- what two values and an order come to -/
def v2q (o a b e f x : Int) : vrs := if o = 15 ∨ o = 16 then vbs (o - 1) a b e f else vop (o - 1) a b e f x
theorem v2_rl {o a b e f x r : Int} (ho : o = 15 ∨ o = 16 ∨ (19 ≤ o ∧ o ≤ 24)) (hb : 0 < b) (hf : 0 < f) (g1 : Int.gcd a b = 1) (g2 : Int.gcd e f = 1) (h0 : r = 0 ↔ a * f = e * b) (h1 : 0 < r ↔ e * b < a * f) (h2 : r < 0 ↔ a * f < e * b) : rlv o r a b e f = v2q o a b e f x := by
  unfold rlv v2q
  by_cases c : o = 15 ∨ o = 16
  · rw [if_pos c, if_pos c]
    unfold vbs
    rcases c with c | c
    · subst c
      simp only [Int.reduceSub, if_true, iff_true]
      by_cases u : e * b < a * f
      · rw [if_pos (h1.mpr u), if_pos u]
      · rw [if_neg (fun q => u (h1.mp q)), if_neg u]
    · subst c
      simp only [Int.reduceSub, Int.reduceEq, if_false, iff_false]
      by_cases u : a * f < e * b
      · rw [if_pos (fun q => by have := h1.mp q; omega), if_pos u]
      · rw [if_neg u]
        by_cases v : e * b < a * f
        · rw [if_neg (fun q => q (h1.mpr v))]
        · obtain ⟨ea, eb⟩ := lterm hb hf g1 g2 (by omega)
          subst ea eb
          split <;> rfl
  · rw [if_neg c, if_neg c]
    have o6 : o = 19 ∨ o = 20 ∨ o = 21 ∨ o = 22 ∨ o = 23 ∨ o = 24 := by omega
    unfold vop vtr
    rcases o6 with rfl | rfl | rfl | rfl | rfl | rfl
    all_goals simp only [Int.reduceSub, Int.reduceEq, if_false, if_true, false_and, true_and, or_false, false_or, ne_eq, not_true_eq_false, not_false_eq_true]
    · by_cases u : a * f = e * b
      · rw [if_neg (fun q => q (h0.mpr u)), if_neg (fun q => q u)]
      · rw [if_pos (fun q => u (h0.mp q)), if_pos u]
    · by_cases u : a * f ≤ e * b
      · rw [if_pos (by by_cases w : 0 < r; exact absurd (h1.mp w) (by omega); omega), if_pos u]
      · rw [if_neg (by have := h1.mpr (by omega); omega), if_neg u]
    · by_cases u : e * b ≤ a * f
      · rw [if_pos (by by_cases w : r < 0; exact absurd (h2.mp w) (by omega); omega), if_pos u]
      · rw [if_neg (by have := h2.mpr (by omega); omega), if_neg u]
    · by_cases u : a * f < e * b
      · rw [if_pos (h2.mpr u), if_pos u]
      · rw [if_neg (fun q => u (h2.mp q)), if_neg u]
    · by_cases u : e * b < a * f
      · rw [if_pos (h1.mpr u), if_pos u]
      · rw [if_neg (fun q => u (h1.mp q)), if_neg u]
    · by_cases u : a * f = e * b
      · rw [if_pos (h0.mpr u), if_pos u]
      · rw [if_neg (fun q => u (h0.mp q)), if_neg u]
theorem vst_one {v p : Int} (h : 0 ≤ v ∧ v < 1000000000) : vst v 1 p = (0, v, 1) := by
  unfold vst
  have g : (Int.gcd v 1 : Int) = 1 := by rw [Int.gcd_one_right]; rfl
  rw [g, Int.ediv_one, Int.ediv_one, if_neg (by omega)]
end LTM
section MAY
variable {G : mG} {d z m U Ab Be C Ab0 Be0 C0 t s c p O P K : Nat} {M0 M M' M1 M2 : mM} {S R : Nat → Prop}
/-- what Math.floorMod answers, exactly -/
def FMx (G : mG) : Prop := ∀ (d : Nat) (M : mM) (x y : Int), mOk M → i64 x → 0 < y → i64 y → Cj G y_JM_floorMod d [vl x, vl y] M (fun v M' => M' = M ∧ (0 ≤ v ∧ v < y) ∧ v = x % y)
theorem FMx.of {G : mG} : FMx G := fun d M x y _ hx h hy => s_JM_floorMod0 d M x y hx h hy
theorem x_Ma_compute1 {o x a b : Int} (io : i32 o) (ix : i32 x) (ho : o = 40 ∨ o = 41) (h : MS M0 z m U Ab0 Be0 C0 M (t + 1) c) (h1 : ptq M m t a b) (ga : a.natAbs ≤ 999999999) : Ci G y_Ma_compute (d + 3) [vr m, vi o, vi x] M (cpx M0 z m U Ab0 Be0 C0 M t c (if o = 40 then (0, -a, b) else (0, 1 - a, b))) := by
  obtain ⟨ok, k0, h8, kA, kB, tA, tB, bA, bB, hb, ⟨mA, mB⟩, ne⟩ := h.pile
  have q1 : Int.toNat (mI M m 8 - 1) = t := by omega
  have abv : ∀ {M9 : mM} {v : Int}, i32 v → M9 = mUI M (mR M m 6) (Int.toNat (mI M m 8 - 1)) v → MS M0 z m U Ab0 Be0 C0 M9 (t + 1) c ∧ mtq m M M9 ∧ plq M M9 m t ∧ ptq M9 m t v b := fun {M9 v} iv e9 => by
    have w := ms_abv h iv e9
    have w2 : mtq m M M9 := mtq.abv h e9
    rw [q1] at e9
    have r9 : mR M9 = mR M := by rw [e9]; rfl
    refine ⟨w.1, w2, fun j hj => ?_, ?_⟩
    · rw [r9, mI_ui _ j e9, if_neg (fun q => by have := q.2; omega), mI_ui _ j e9, if_neg (fun q => ne q.1.symm)]
      exact ⟨rfl, rfl⟩
    · unfold ptq
      rw [r9, mI_ui _ t e9, if_pos ⟨rfl, rfl⟩, mI_ui _ t e9, if_neg (fun q => ne q.1.symm)]
      exact ⟨rfl, h1.2⟩
  refine k_Ma_computew ok io ix ⟨fun y40 => ?_, fun y40 => ⟨fun y41 => ?_, fun y41 => by omega⟩⟩
  · refine ⟨k0, kA, by omega, by omega, fun M9 e9 => ?_⟩
    rw [q1, h1.1, w32_id ⟨by omega, by omega⟩, ← q1] at e9
    obtain ⟨w1, w2, w3, w4⟩ := abv ⟨by omega, by omega⟩ e9
    rw [if_pos y40]
    exact ⟨Or.inr ⟨rfl, rfl, w1, w3, w4⟩, w2⟩
  · refine ⟨k0, kA, by omega, by omega, fun M9 e9 => ?_⟩
    rw [q1, h1.1, w32_id ⟨by omega, by omega⟩, ← q1] at e9
    obtain ⟨w1, w2, w3, w4⟩ := abv ⟨by omega, by omega⟩ e9
    rw [if_neg y40]
    exact ⟨Or.inr ⟨rfl, rfl, w1, w3, w4⟩, w2⟩
set_option maxHeartbeats 6000000 in
theorem x_Ma_compute2 {o x a b e f : Int} (hF : FMx G) (io : i32 o) (ix : i32 x) (ho : o = 15 ∨ o = 16 ∨ (19 ≤ o ∧ o ≤ 29)) (h : MS M0 z m U Ab0 Be0 C0 M (s + 2) c) (h1 : ptq M m s a b) (h2 : ptq M m (s + 1) e f) (ga : a.natAbs ≤ 999999999) (ge : e.natAbs ≤ 999999999) (g1 : Int.gcd a b = 1) (g2 : Int.gcd e f = 1) : Ci G y_Ma_compute (d + 3) [vr m, vi o, vi x] M (cpx M0 z m U Ab0 Be0 C0 M s c (v2q o a b e f x)) := by
  obtain ⟨ok, k0, h8, kA, kB, tA, tB, bA, bB, hb, ⟨mA, mB⟩, ne⟩ := h.pile
  refine k_Ma_computew ok io ix ⟨fun y40 => absurd y40 (by omega), fun y40 => ⟨fun y41 => absurd y41 (by omega), fun y41 => ⟨fun y43 => absurd y43 (by omega), fun y43 => ?_⟩⟩⟩
  refine ⟨k0, ⟨by omega, by omega⟩, fun M29 e29 => ?_⟩
  obtain ⟨h29, -, f29⟩ := ms_top (t' := s + 1) h (by omega) (by omega) e29
  have b29 : mtq m M M29 := mtq.fi f29
  obtain ⟨ok9, k09, h89, kA9, kB9, -, -, -, -, hb9, -, -⟩ := h29.pile
  have lA : mN M29 (mR M29 m 6) = mN M (mR M m 6) := by rw [f29.2.1, f29.2.2.1]
  have lB : mN M29 (mR M29 m 7) = mN M (mR M m 7) := by rw [f29.2.1, f29.2.2.1]
  have p29 : plq M M29 m (s + 2) := plq.fi f29 ⟨mA, mB⟩
  have h1' := p29.pt (by omega) h1
  have h2' := p29.pt (by omega) h2
  have q1 : Int.toNat (mI M29 m 8 - 1) = s := by omega
  have q2 : Int.toNat (mI M29 m 8) = s + 1 := by omega
  have vb : 1 ≤ b ∧ b < 1000000000 := by have := hb s (by omega); rw [h1.2] at this; exact this
  have vd9 : 1 ≤ f ∧ f < 1000000000 := by have := hb (s + 1) (by omega); rw [h2.2] at this; exact this
  rw [q1, q2, lA, lB, h1'.1, h1'.2, h2'.1, h2'.2]
  have stp : ∀ {y : Int}, i32 y → y ≠ 0 → v2q o a b e f x = (y, x, 0) → Ci G y_Ma_stop (d + 2) [vr m, vi y, vi x] M29 (fun r M' => i32 r ∧ mOk M' ∧ (r = 0 ∨ r = 1) ∧ cpx M0 z m U Ab0 Be0 C0 M s c (v2q o a b e f x) r M') := fun {y} hy y0 ev => (x_Ma_stop hy ix h29).mono (fun r M' q => by
    obtain ⟨e, q1, q2, q3, q4⟩ := q
    rw [e, ev]
    exact ⟨i32s (by omega) (by omega), q1.pile.1, Or.inl rfl, Or.inl ⟨rfl, y0, q3, q4, _, q1⟩, b29.trans q2⟩)
  have stl : ∀ {u v : Int}, u.natAbs ≤ 5000000000000000000 → 1 ≤ v → v.natAbs ≤ 5000000000000000000 → v2q o a b e f x = vst u v x → Ci G y_Ma_settle (d + 2) [vr m, vl u, vl v, vi x] M29 (fun r M' => i32 r ∧ mOk M' ∧ (r = 0 ∨ r = 1) ∧ cpx M0 z m U Ab0 Be0 C0 M s c (v2q o a b e f x) r M') := fun {u v} hu hv1 hv2 ev => (x_Ma_settle (by omega) (by omega) ix h29).mono (fun r M' q => by
    rw [ev]
    obtain ⟨q1, q2⟩ := q
    rcases q1 with ⟨e, w1, w2, w3, t2, w4⟩ | ⟨e, w1, w2, w3, w4⟩
    · rw [e]
      exact ⟨i32s (by omega) (by omega), w4.pile.1, Or.inl rfl, Or.inl ⟨rfl, w1, w2, w3, t2, w4⟩, b29.trans q2⟩
    · rw [e]
      exact ⟨i32s (by omega) (by omega), w2.pile.1, Or.inr rfl, Or.inr ⟨rfl, w1, w2, (p29.mono (by omega)).trans w3, w4⟩, b29.trans q2⟩)
  have nb : b.natAbs ≤ 999999999 := by omega
  have nf : f.natAbs ≤ 999999999 := by omega
  have m1 := mulab ga nf
  have m2 := mulab ge nb
  have m3 := mulab nb nf
  have m4 := mulab ga ge
  have m5 := mulab nb ge
  have p3 : 1 ≤ b * f := Int.mul_pos (show 0 < b by omega) (show 0 < f by omega)
  have ce := cmpz e 0
  have vo : (o = 15 ∨ o = 16) ∨ v2q o a b e f x = vop (o - 1) a b e f x := by
    by_cases u : o = 15 ∨ o = 16
    · exact Or.inl u
    · exact Or.inr (by unfold v2q; rw [if_neg u])
  refine ⟨kA9, by omega, kB9, by omega, by omega, by omega, fun y1 => stl (by omega) p3 (by omega) ?_, fun y1 => ⟨fun y2 => stl (by omega) p3 (by omega) ?_, fun y2 => ⟨fun y3 => stl (by omega) p3 (by omega) ?_, fun y3 => ⟨fun y4 => ⟨fun y0 => stp (i32s (by omega) (by omega)) (by decide) ?_, fun y0 => ⟨fun y5 => ?_, fun y5 => ?_⟩⟩, fun y4 => ⟨fun y5 => ⟨fun y0 => ⟨fun y6 => ?_, fun y6 => ?_⟩, fun y0 => stp (i32s (by omega) (by omega)) (by decide) ?_⟩, fun y5 => ?_⟩⟩⟩⟩⟩
  · subst y1; rfl
  · subst y2; rfl
  · subst y3; rfl
  · subst y4
    have e0 : e = 0 := ce.2.2.2.1.mp y0
    show vop 27 a b e f x = _
    unfold vop
    simp [e0]
  · subst y4
    have en : e < 0 := by
      have := ce.2.2.2.1
      have := ce.2.1
      omega
    have p5 : 1 ≤ -b * e := by
      have := Int.mul_pos (show 0 < b by omega) (show 0 < -e by omega)
      rw [Int.mul_neg] at this
      rw [Int.neg_mul]
      omega
    have m6 : (-a * f).natAbs = (a * f).natAbs := by rw [Int.neg_mul, Int.natAbs_neg]
    have m7 : (-b * e).natAbs = (b * e).natAbs := by rw [Int.neg_mul, Int.natAbs_neg]
    refine (stl (u := -a * f) (v := -b * e) (by omega) p5 (by omega) ?_).mono (fun r M' q => ?_)
    · show vop 27 a b e f x = _
      have e1 : ¬ e = 0 := by omega
      have e2 : ¬ 0 < e := by omega
      unfold vop
      rw [Int.neg_mul, Int.neg_mul]
      simp [e1, e2]
    · exact ⟨q.1, q.2.1, k_Ma_compute_304 q.2.1 q.1 q.2.2⟩
  · subst y4
    have en : 0 < e := by
      have := ce.2.1
      omega
    have p5 : 1 ≤ b * e := Int.mul_pos (show 0 < b by omega) en
    refine (stl (u := a * f) (v := b * e) (by omega) p5 (by omega) ?_).mono (fun r M' q => ?_)
    · show vop 27 a b e f x = _
      have e1 : ¬ e = 0 := by omega
      unfold vop
      simp [e1, en]
    · exact ⟨q.1, q.2.1, k_Ma_compute_304 q.2.1 q.1 q.2.2⟩
  · subst y5
    have en : 0 < e := by
      have := ce.2.2.2.2
      omega
    refine (hF (d + 2) M29 a e ok9 ⟨by omega, by omega⟩ en ⟨by omega, by omega⟩).mono (fun v M76 q => ?_)
    obtain ⟨e76, ⟨v0, v1⟩, ev⟩ := q
    subst e76
    refine ⟨⟨by omega, by omega⟩, ok9, k09, (stl (u := v) (v := 1) (by omega) (by omega) (by omega) ?_).mono (fun r M' q => ?_)⟩
    · rw [vst_one ⟨v0, by omega⟩]
      show vop 28 a b e f x = _
      have e1 : ¬ e ≤ 0 := by omega
      obtain ⟨w1, w2⟩ : b = 1 ∧ f = 1 := by
        have := cmpz b 1
        have := cmpz f 1
        omega
      unfold vop
      simp [e1, w1, w2, ev]
    · exact ⟨q.1, q.2.1, k_Ma_compute_356 q.2.1 q.1 q.2.2⟩
  · subst y5
    refine (stp (i32s (by omega) (by omega)) (by decide) ?_).mono (fun r M' q => ?_)
    · show vop 28 a b e f x = _
      have e1 : e ≤ 0 := by
        have := ce.2.2.2.2
        omega
      obtain ⟨w1, w2⟩ : b = 1 ∧ f = 1 := by
        have := cmpz b 1
        have := cmpz f 1
        omega
      unfold vop
      simp [e1, w1, w2]
    · exact ⟨q.1, q.2.1, k_Ma_compute_356 q.2.1 q.1 q.2.2⟩
  · subst y5
    show vop 28 a b e f x = _
    have w1 : b ≠ 1 ∨ f ≠ 1 := by
      have := cmpz b 1
      have := cmpz f 1
      omega
    unfold vop
    simp [w1]
  · refine k_JL_compare ok9 ⟨by omega, by omega⟩ ⟨by omega, by omega⟩ (fun v3 e3 => ?_)
    have i3 : i32 v3 := by rw [e3]; (repeat' split) <;> exact i32s (by omega) (by omega)
    have cz := cmpz (a * f) (e * b)
    have r0 : v3 = 0 ↔ a * f = e * b := by rw [e3]; split <;> (try split) <;> omega
    have r1 : 0 < v3 ↔ e * b < a * f := by rw [e3]; split <;> (try split) <;> omega
    have r2 : v3 < 0 ↔ a * f < e * b := by rw [e3]; split <;> (try split) <;> omega
    have pb : 0 < b := by omega
    have pf : 0 < f := by omega
    have ho' : o = 15 ∨ o = 16 ∨ (19 ≤ o ∧ o ≤ 24) := by
      clear r0 r1 r2 cz e3
      omega
    rw [← v2_rl (x := x) ho' pb pf g1 g2 r0 r1 r2]
    refine ⟨i3, ok9, k09, (x_Ma_relate io i3 h29 (by rw [lA]; omega) (by rw [lB]; omega) (by rw [h2'.2]; exact vd9) h1' h2').mono (fun r M' q => ?_)⟩
    obtain ⟨q1, q2, q3, q4, q5, q6⟩ := q
    rw [q1]
    exact ⟨i32s (by omega) (by omega), q3.pile.1, Or.inr rfl, Or.inr ⟨rfl, q2, q3, (p29.mono (by omega)).trans q5, q6⟩, b29.trans q4⟩
end MAY
