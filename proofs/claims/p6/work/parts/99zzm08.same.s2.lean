section
/-! The class's machine, exactly: compute. -/
section LTM
/-- two fractions in least terms that are equal are the same -/
theorem lterm {a b e f : Int} (hb : 0 < b) (hf : 0 < f) (g1 : Int.gcd a b = 1) (g2 : Int.gcd e f = 1) (h : a * f = e * b) : a = e ∧ b = f := by
  have d1 : b ∣ f := by
    rw [← Int.natAbs_dvd_natAbs]
    refine Nat.Coprime.dvd_of_dvd_mul_right (n := a.natAbs) ?_ ?_
    · show Nat.gcd b.natAbs a.natAbs = 1
      rw [Nat.gcd_comm]; exact g1
    · rw [← Int.natAbs_mul, Int.mul_comm, h, Int.natAbs_mul]
      exact Nat.dvd_mul_left _ _
  have d2 : f ∣ b := by
    rw [← Int.natAbs_dvd_natAbs]
    refine Nat.Coprime.dvd_of_dvd_mul_right (n := e.natAbs) ?_ ?_
    · show Nat.gcd f.natAbs e.natAbs = 1
      rw [Nat.gcd_comm]; exact g2
    · rw [← Int.natAbs_mul, Int.mul_comm, ← h, Int.natAbs_mul]
      exact Nat.dvd_mul_left _ _
  have e1 := Int.le_of_dvd hf d1
  have e2 := Int.le_of_dvd hb d2
  have ebf : b = f := by omega
  subst ebf
  exact ⟨Int.eq_of_mul_eq_mul_right (by omega) h, rfl⟩
/-- what two values and an order come to -/
def v2q (o a b e f x : Int) : vrs := if o = 15 ∨ o = 16 then vbs (o - 1) a b e f else vop (o - 1) a b e f x
theorem v2_rl {o a b e f x r : Int} (ho : o = 15 ∨ o = 16 ∨ (19 ≤ o ∧ o ≤ 24)) (hb : 0 < b) (hf : 0 < f) (g1 : Int.gcd a b = 1) (g2 : Int.gcd e f = 1) (h0 : r = 0 ↔ a * f = e * b) (h1 : 0 < r ↔ e * b < a * f) (h2 : r < 0 ↔ a * f < e * b) : rlv o r a b e f = v2q o a b e f x := by
  unfold rlv v2q
  by_cases c : o = 15 ∨ o = 16
  · rw [if_pos c, if_pos c]
    unfold vbs
    rcases c with c | c
    · subst c
      simp only [Int.reduceSub, if_true, iff_true]
      by_cases u : e * b < a * f
      · rw [if_pos (h1.mpr u), if_pos u]
      · rw [if_neg (fun q => u (h1.mp q)), if_neg u]
    · subst c
      simp only [Int.reduceSub, Int.reduceEq, if_false, iff_false]
      by_cases u : a * f < e * b
      · rw [if_pos (fun q => by have := h1.mp q; omega), if_pos u]
      · rw [if_neg u]
        by_cases v : e * b < a * f
        · rw [if_neg (fun q => q (h1.mpr v))]
        · obtain ⟨ea, eb⟩ := lterm hb hf g1 g2 (by omega)
          subst ea eb
          split <;> rfl
  · rw [if_neg c, if_neg c]
    have o6 : o = 19 ∨ o = 20 ∨ o = 21 ∨ o = 22 ∨ o = 23 ∨ o = 24 := by omega
    unfold vop vtr
    rcases o6 with rfl | rfl | rfl | rfl | rfl | rfl
    all_goals simp only [Int.reduceSub, Int.reduceEq, if_false, if_true, false_and, true_and, or_false, false_or, ne_eq, not_true_eq_false, not_false_eq_true]
    · by_cases u : a * f = e * b
      · rw [if_neg (fun q => q (h0.mpr u)), if_neg (fun q => q u)]
      · rw [if_pos (fun q => u (h0.mp q)), if_pos u]
    · by_cases u : a * f ≤ e * b
      · rw [if_pos (by by_cases w : 0 < r; exact absurd (h1.mp w) (by omega); omega), if_pos u]
      · rw [if_neg (by have := h1.mpr (by omega); omega), if_neg u]
    · by_cases u : e * b ≤ a * f
      · rw [if_pos (by by_cases w : r < 0; exact absurd (h2.mp w) (by omega); omega), if_pos u]
      · rw [if_neg (by have := h2.mpr (by omega); omega), if_neg u]
    · by_cases u : a * f < e * b
      · rw [if_pos (h2.mpr u), if_pos u]
      · rw [if_neg (fun q => u (h2.mp q)), if_neg u]
    · by_cases u : e * b < a * f
      · rw [if_pos (h1.mpr u), if_pos u]
      · rw [if_neg (fun q => u (h1.mp q)), if_neg u]
    · by_cases u : a * f = e * b
      · rw [if_pos (h0.mpr u), if_pos u]
      · rw [if_neg (fun q => u (h0.mp q)), if_neg u]
theorem vst_one {v p : Int} (h : 0 ≤ v ∧ v < 1000000000) : vst v 1 p = (0, v, 1) := by
  unfold vst
  have g : (Int.gcd v 1 : Int) = 1 := by rw [Int.gcd_one_right]; rfl
  rw [g, Int.ediv_one, Int.ediv_one, if_neg (by omega)]
end LTM
section MAY
variable {G : mG} {d z m U Ab Be C Ab0 Be0 C0 t s c p O P K : Nat} {M0 M M' M1 M2 : mM} {S R : Nat → Prop}
/-- what Math.floorMod answers, exactly -/
def FMx (G : mG) : Prop := ∀ (d : Nat) (M : mM) (x y : Int), mOk M → i64 x → 0 < y → i64 y → Cj G y_JM_floorMod d [vl x, vl y] M (fun v M' => M' = M ∧ (0 ≤ v ∧ v < y) ∧ v = x % y)
theorem FMx.of {G : mG} : FMx G := fun d M x y _ hx h hy => s_JM_floorMod0 d M x y hx h hy
theorem x_Ma_compute1 {o x a b : Int} (io : i32 o) (ix : i32 x) (ho : o = 40 ∨ o = 41) (h : MS M0 z m U Ab0 Be0 C0 M (t + 1) c) (h1 : ptq M m t a b) (ga : a.natAbs ≤ 999999999) : Ci G y_Ma_compute (d + 3) [vr m, vi o, vi x] M (cpx M0 z m U Ab0 Be0 C0 M t c (if o = 40 then (0, -a, b) else (0, 1 - a, b))) := by
  obtain ⟨ok, k0, h8, kA, kB, tA, tB, bA, bB, hb, ⟨mA, mB⟩, ne⟩ := h.pile
  have q1 : Int.toNat (mI M m 8 - 1) = t := by omega
  have abv : ∀ {M9 : mM} {v : Int}, i32 v → M9 = mUI M (mR M m 6) (Int.toNat (mI M m 8 - 1)) v → MS M0 z m U Ab0 Be0 C0 M9 (t + 1) c ∧ mtq m M M9 ∧ plq M M9 m t ∧ ptq M9 m t v b := fun {M9 v} iv e9 => by
    have w := ms_abv h iv e9
    have w2 : mtq m M M9 := mtq.abv h e9
    rw [q1] at e9
    have r9 : mR M9 = mR M := by rw [e9]; rfl
    refine ⟨w.1, w2, fun j hj => ?_, ?_⟩
    · rw [r9, mI_ui _ j e9, if_neg (fun q => by have := q.2; omega), mI_ui _ j e9, if_neg (fun q => ne q.1.symm)]
      exact ⟨rfl, rfl⟩
    · unfold ptq
      rw [r9, mI_ui _ t e9, if_pos ⟨rfl, rfl⟩, mI_ui _ t e9, if_neg (fun q => ne q.1.symm)]
      exact ⟨rfl, h1.2⟩
  refine k_Ma_computew ok io ix ⟨fun y40 => ?_, fun y40 => ⟨fun y41 => ?_, fun y41 => by omega⟩⟩
  · refine ⟨k0, kA, by omega, by omega, fun M9 e9 => ?_⟩
    rw [q1, h1.1, w32_id ⟨by omega, by omega⟩, ← q1] at e9
    obtain ⟨w1, w2, w3, w4⟩ := abv ⟨by omega, by omega⟩ e9
    rw [if_pos y40]
    exact ⟨Or.inr ⟨rfl, rfl, w1, w3, w4⟩, w2⟩
  · refine ⟨k0, kA, by omega, by omega, fun M9 e9 => ?_⟩
    rw [q1, h1.1, w32_id ⟨by omega, by omega⟩, ← q1] at e9
    obtain ⟨w1, w2, w3, w4⟩ := abv ⟨by omega, by omega⟩ e9
    rw [if_neg y40]
    exact ⟨Or.inr ⟨rfl, rfl, w1, w3, w4⟩, w2⟩
set_option maxHeartbeats 6000000 in
theorem x_Ma_compute2 {o x a b e f : Int} (hF : FMx G) (io : i32 o) (ix : i32 x) (ho : o = 15 ∨ o = 16 ∨ (19 ≤ o ∧ o ≤ 29)) (h : MS M0 z m U Ab0 Be0 C0 M (s + 2) c) (h1 : ptq M m s a b) (h2 : ptq M m (s + 1) e f) (ga : a.natAbs ≤ 999999999) (ge : e.natAbs ≤ 999999999) (g1 : Int.gcd a b = 1) (g2 : Int.gcd e f = 1) : Ci G y_Ma_compute (d + 3) [vr m, vi o, vi x] M (cpx M0 z m U Ab0 Be0 C0 M s c (v2q o a b e f x)) := by
  obtain ⟨ok, k0, h8, kA, kB, tA, tB, bA, bB, hb, ⟨mA, mB⟩, ne⟩ := h.pile
  refine k_Ma_computew ok io ix ⟨fun y40 => absurd y40 (by omega), fun y40 => ⟨fun y41 => absurd y41 (by omega), fun y41 => ⟨fun y43 => absurd y43 (by omega), fun y43 => ?_⟩⟩⟩
  refine ⟨k0, ⟨by omega, by omega⟩, fun M29 e29 => ?_⟩
  obtain ⟨h29, -, f29⟩ := ms_top (t' := s + 1) h (by omega) (by omega) e29
  have b29 : mtq m M M29 := mtq.fi f29
  obtain ⟨ok9, k09, h89, kA9, kB9, -, -, -, -, hb9, -, -⟩ := h29.pile
  have lA : mN M29 (mR M29 m 6) = mN M (mR M m 6) := by rw [f29.2.1, f29.2.2.1]
  have lB : mN M29 (mR M29 m 7) = mN M (mR M m 7) := by rw [f29.2.1, f29.2.2.1]
  have p29 : plq M M29 m (s + 2) := plq.fi f29 ⟨mA, mB⟩
  have h1' := p29.pt (by omega) h1
  have h2' := p29.pt (by omega) h2
  have q1 : Int.toNat (mI M29 m 8 - 1) = s := by omega
  have q2 : Int.toNat (mI M29 m 8) = s + 1 := by omega
  have vb : 1 ≤ b ∧ b < 1000000000 := by have := hb s (by omega); rw [h1.2] at this; exact this
  have vd9 : 1 ≤ f ∧ f < 1000000000 := by have := hb (s + 1) (by omega); rw [h2.2] at this; exact this
  rw [q1, q2, lA, lB, h1'.1, h1'.2, h2'.1, h2'.2]
  have stp : ∀ {y : Int}, i32 y → y ≠ 0 → v2q o a b e f x = (y, x, 0) → Ci G y_Ma_stop (d + 2) [vr m, vi y, vi x] M29 (fun r M' => i32 r ∧ mOk M' ∧ (r = 0 ∨ r = 1) ∧ cpx M0 z m U Ab0 Be0 C0 M s c (v2q o a b e f x) r M') := fun {y} hy y0 ev => (x_Ma_stop hy ix h29).mono (fun r M' q => by
    obtain ⟨e, q1, q2, q3, q4⟩ := q
    rw [e, ev]
    exact ⟨i32s (by omega) (by omega), q1.pile.1, Or.inl rfl, Or.inl ⟨rfl, y0, q3, q4, _, q1⟩, b29.trans q2⟩)
  have stl : ∀ {u v : Int}, u.natAbs ≤ 5000000000000000000 → 1 ≤ v → v.natAbs ≤ 5000000000000000000 → v2q o a b e f x = vst u v x → Ci G y_Ma_settle (d + 2) [vr m, vl u, vl v, vi x] M29 (fun r M' => i32 r ∧ mOk M' ∧ (r = 0 ∨ r = 1) ∧ cpx M0 z m U Ab0 Be0 C0 M s c (v2q o a b e f x) r M') := fun {u v} hu hv1 hv2 ev => (x_Ma_settle (by omega) (by omega) ix h29).mono (fun r M' q => by
    rw [ev]
    obtain ⟨q1, q2⟩ := q
    rcases q1 with ⟨e, w1, w2, w3, t2, w4⟩ | ⟨e, w1, w2, w3, w4⟩
    · rw [e]
      exact ⟨i32s (by omega) (by omega), w4.pile.1, Or.inl rfl, Or.inl ⟨rfl, w1, w2, w3, t2, w4⟩, b29.trans q2⟩
    · rw [e]
      exact ⟨i32s (by omega) (by omega), w2.pile.1, Or.inr rfl, Or.inr ⟨rfl, w1, w2, (p29.mono (by omega)).trans w3, w4⟩, b29.trans q2⟩)
  have nb : b.natAbs ≤ 999999999 := by omega
  have nf : f.natAbs ≤ 999999999 := by omega
  have m1 := mulab ga nf
  have m2 := mulab ge nb
  have m3 := mulab nb nf
  have m4 := mulab ga ge
  have m5 := mulab nb ge
  have p3 : 1 ≤ b * f := Int.mul_pos (show 0 < b by omega) (show 0 < f by omega)
  have ce := cmpz e 0
  have vo : (o = 15 ∨ o = 16) ∨ v2q o a b e f x = vop (o - 1) a b e f x := by
    by_cases u : o = 15 ∨ o = 16
    · exact Or.inl u
    · exact Or.inr (by unfold v2q; rw [if_neg u])
  refine ⟨kA9, by omega, kB9, by omega, by omega, by omega, fun y1 => stl (by omega) p3 (by omega) ?_, fun y1 => ⟨fun y2 => stl (by omega) p3 (by omega) ?_, fun y2 => ⟨fun y3 => stl (by omega) p3 (by omega) ?_, fun y3 => ⟨fun y4 => ⟨fun y0 => stp (i32s (by omega) (by omega)) (by decide) ?_, fun y0 => ⟨fun y5 => ?_, fun y5 => ?_⟩⟩, fun y4 => ⟨fun y5 => ⟨fun y0 => ⟨fun y6 => ?_, fun y6 => ?_⟩, fun y0 => stp (i32s (by omega) (by omega)) (by decide) ?_⟩, fun y5 => ?_⟩⟩⟩⟩⟩
  · subst y1; rfl
  · subst y2; rfl
  · subst y3; rfl
  · subst y4
    have e0 : e = 0 := ce.2.2.2.1.mp y0
    show vop 27 a b e f x = _
    unfold vop
    simp [e0]
  · subst y4
    have en : e < 0 := by
      have := ce.2.2.2.1
      have := ce.2.1
      omega
    have p5 : 1 ≤ -b * e := by
      have := Int.mul_pos (show 0 < b by omega) (show 0 < -e by omega)
      rw [Int.mul_neg] at this
      rw [Int.neg_mul]
      omega
    have m6 : (-a * f).natAbs = (a * f).natAbs := by rw [Int.neg_mul, Int.natAbs_neg]
    have m7 : (-b * e).natAbs = (b * e).natAbs := by rw [Int.neg_mul, Int.natAbs_neg]
    refine (stl (u := -a * f) (v := -b * e) (by omega) p5 (by omega) ?_).mono (fun r M' q => ?_)
    · show vop 27 a b e f x = _
      have e1 : ¬ e = 0 := by omega
      have e2 : ¬ 0 < e := by omega
      unfold vop
      rw [Int.neg_mul, Int.neg_mul]
      simp [e1, e2]
    · exact ⟨q.1, q.2.1, k_Ma_compute_304 q.2.1 q.1 q.2.2⟩
  · subst y4
    have en : 0 < e := by
      have := ce.2.1
      omega
    have p5 : 1 ≤ b * e := Int.mul_pos (show 0 < b by omega) en
    refine (stl (u := a * f) (v := b * e) (by omega) p5 (by omega) ?_).mono (fun r M' q => ?_)
    · show vop 27 a b e f x = _
      have e1 : ¬ e = 0 := by omega
      unfold vop
      simp [e1, en]
    · exact ⟨q.1, q.2.1, k_Ma_compute_304 q.2.1 q.1 q.2.2⟩
  · subst y5
    have en : 0 < e := by
      have := ce.2.2.2.2
      omega
    refine (hF (d + 2) M29 a e ok9 ⟨by omega, by omega⟩ en ⟨by omega, by omega⟩).mono (fun v M76 q => ?_)
    obtain ⟨e76, ⟨v0, v1⟩, ev⟩ := q
    subst e76
    refine ⟨⟨by omega, by omega⟩, ok9, k09, (stl (u := v) (v := 1) (by omega) (by omega) (by omega) ?_).mono (fun r M' q => ?_)⟩
    · rw [vst_one ⟨v0, by omega⟩]
      show vop 28 a b e f x = _
      have e1 : ¬ e ≤ 0 := by omega
      obtain ⟨w1, w2⟩ : b = 1 ∧ f = 1 := by
        have := cmpz b 1
        have := cmpz f 1
        omega
      unfold vop
      simp [e1, w1, w2, ev]
    · exact ⟨q.1, q.2.1, k_Ma_compute_356 q.2.1 q.1 q.2.2⟩
  · subst y5
    refine (stp (i32s (by omega) (by omega)) (by decide) ?_).mono (fun r M' q => ?_)
    · show vop 28 a b e f x = _
      have e1 : e ≤ 0 := by
        have := ce.2.2.2.2
        omega
      obtain ⟨w1, w2⟩ : b = 1 ∧ f = 1 := by
        have := cmpz b 1
        have := cmpz f 1
        omega
      unfold vop
      simp [e1, w1, w2]
    · exact ⟨q.1, q.2.1, k_Ma_compute_356 q.2.1 q.1 q.2.2⟩
  · subst y5
    show vop 28 a b e f x = _
    have w1 : b ≠ 1 ∨ f ≠ 1 := by
      have := cmpz b 1
      have := cmpz f 1
      omega
    unfold vop
    simp [w1]
  · refine k_JL_compare ok9 ⟨by omega, by omega⟩ ⟨by omega, by omega⟩ (fun v3 e3 => ?_)
    have i3 : i32 v3 := by rw [e3]; (repeat' split) <;> exact i32s (by omega) (by omega)
    have cz := cmpz (a * f) (e * b)
    have r0 : v3 = 0 ↔ a * f = e * b := by rw [e3]; split <;> (try split) <;> omega
    have r1 : 0 < v3 ↔ e * b < a * f := by rw [e3]; split <;> (try split) <;> omega
    have r2 : v3 < 0 ↔ a * f < e * b := by rw [e3]; split <;> (try split) <;> omega
    have pb : 0 < b := by omega
    have pf : 0 < f := by omega
    have ho' : o = 15 ∨ o = 16 ∨ (19 ≤ o ∧ o ≤ 24) := by
      clear r0 r1 r2 cz e3
      omega
    rw [← v2_rl (x := x) ho' pb pf g1 g2 r0 r1 r2]
    refine ⟨i3, ok9, k09, (x_Ma_relate io i3 h29 (by rw [lA]; omega) (by rw [lB]; omega) (by rw [h2'.2]; exact vd9) h1' h2').mono (fun r M' q => ?_)⟩
    obtain ⟨q1, q2, q3, q4, q5, q6⟩ := q
    rw [q1]
    exact ⟨i32s (by omega) (by omega), q3.pile.1, Or.inr rfl, Or.inr ⟨rfl, q2, q3, (p29.mono (by omega)).trans q5, q6⟩, b29.trans q4⟩
end MAY
end
section
/-! Induction over a rule's words; a rule of consts has a sound value. -/
section EIN
variable {w : Nat → Int}
/-- c = 0 a rule, c = 1 a list of rules -/
def Eoc (w : Nat → Int) (c i j : Nat) : Prop := (c = 0 ∧ Eo w 6 i j) ∨ (c = 1 ∧ Eo w 7 i j)
theorem Eo_ind {P : Nat → Nat → Nat → Prop}
    (ask : ∀ i m q j : Nat, lo w i j = (m : Int) → i ≤ m → m < j → m < q → q < j → w m = 32 → w q = 33 → clq w m j = q → Eo w 6 i m → Eo w 6 (m + 1) q → Eo w 6 (q + 1) j → P 0 i m → P 0 (m + 1) q → P 0 (q + 1) j → P 0 i j)
    (bin : ∀ i m j : Nat, lo w i j = (m : Int) → i ≤ m → m < j → (18 ≤ w m ∧ w m ≤ 30) → Eo w 6 i m → Eo w 6 (m + 1) j → P 0 i m → P 0 (m + 1) j → P 0 i j)
    (par : ∀ i j : Nat, lo w i j = -1 → i < j → w i = 36 → w (j - 1) = 37 → Eo w 6 (i + 1) (j - 1) → P 0 (i + 1) (j - 1) → P 0 i j)
    (pre : ∀ i j : Nat, lo w i j = -1 → i < j → (w i = 25 ∨ w i = 31) → Eo w 6 (i + 1) j → P 0 (i + 1) j → P 0 i j)
    (leaf : ∀ i : Nat, lo w i (i + 1) = -1 → (w i = 1 ∨ w i = 2 ∨ w i = 12 ∨ w i = 13) → P 0 i (i + 1))
    (lst : ∀ i j : Nat, lo w i j = -1 → i < j → (w i = 14 ∨ w i = 15) → w (j - 1) = 37 → Eo w 7 (i + 2) (j - 1) → P 1 (i + 2) (j - 1) → P 0 i j)
    (one : ∀ i j : Nat, i < j → lcq w i (j - i) = 0 → Eo w 6 i j → P 0 i j → P 1 i j)
    (more : ∀ i m j : Nat, i < j → i ≤ m → m < j → lcq w i (j - i) = m - i + 1 → w m = 35 → Eo w 7 i m → Eo w 6 (m + 1) j → P 1 i m → P 0 (m + 1) j → P 1 i j) : ∀ (n c i j : Nat), 2 * (j - i) + c ≤ n → Eoc w c i j → P c i j := by
  intro n
  induction n with
  | zero =>
    intro c i j hn h
    rcases h with ⟨-, h⟩ | ⟨-, h⟩
    · have := h.pr.1; omega
    · have := h.pr.1; omega
  | succ n ih =>
    intro c i j hn h
    rcases h with ⟨rfl, h⟩ | ⟨rfl, h⟩
    · have hij := h.pr.1
      rcases h.sp with ⟨m, q, a1, a2, a3, a4, a5, a6⟩ | ⟨m, a1, a2, a3, a4⟩ | ⟨a1, a2, a3, a4⟩ | ⟨a1, a2, a3⟩ | ⟨a1, a2, a3⟩ | ⟨a1, a2, a3, a4, a5⟩
      · have l1 := a4.pr.1
        have l2 := a5.pr.1
        have l3 := a6.pr.1
        exact ask i m q j a1 (by omega) (by omega) (by omega) (by omega) a2 a3 (clq_eo a5 a3 (by omega)) (a4.one (by omega)) a5 a6 (ih 0 i m (by omega) (Or.inl ⟨rfl, a4.one (by omega)⟩)) (ih 0 (m + 1) q (by omega) (Or.inl ⟨rfl, a5⟩)) (ih 0 (q + 1) j (by omega) (Or.inl ⟨rfl, a6⟩))
      · have l1 := a3.pr.1
        have l2 := a4.pr.1
        exact bin i m j a1 (by omega) (by omega) (by omega) a3 a4 (ih 0 i m (by omega) (Or.inl ⟨rfl, a3⟩)) (ih 0 (m + 1) j (by omega) (Or.inl ⟨rfl, a4⟩))
      · have l1 := a4.pr.1
        exact par i j a1 hij a2 a3 a4 (ih 0 (i + 1) (j - 1) (by omega) (Or.inl ⟨rfl, a4⟩))
      · have l1 := a3.pr.1
        exact pre i j a1 hij a2 a3 (ih 0 (i + 1) j (by omega) (Or.inl ⟨rfl, a3⟩))
      · subst a2
        exact leaf i a1 a3
      · have l1 := a5.pr.1
        exact lst i j a1 hij a2 a4 a5 (ih 1 (i + 2) (j - 1) (by omega) (Or.inr ⟨rfl, a5⟩))
    · have hij := h.pr.1
      rcases h.lst with h6 | ⟨m, a1, a2, a3⟩
      · exact one i j hij (lcq_eo h6 (by omega)) h6 (ih 0 i j (by omega) (Or.inl ⟨rfl, h6⟩))
      · have l1 := a2.pr.1
        have l2 := a3.pr.1
        exact more i m j hij (by omega) (by omega) (lcq_7 a2 a1 a3) a1 a2 a3 (ih 1 i m (by omega) (Or.inr ⟨rfl, a2⟩)) (ih 0 (m + 1) j (by omega) (Or.inl ⟨rfl, a3⟩))
theorem fst9_1 {a b : Int × Int} : (fst9 a b).1 = 0 ↔ a.1 = 0 ∧ b.1 = 0 := by
  unfold fst9
  by_cases c : a.1 = 0
  · rw [if_pos c]; exact ⟨fun h => ⟨c, h⟩, fun h => h.2⟩
  · rw [if_neg c]; exact ⟨fun h => absurd h c, fun h => h.1⟩
theorem kft_1 {p : Prop} {x : Int} : (kft p x).1 = 0 ↔ p := by
  unfold kft
  by_cases c : p
  · rw [if_pos c]; exact ⟨fun _ => c, fun _ => rfl⟩
  · rw [if_neg c]; exact ⟨fun h => absurd h (by simp), fun h => absurd h c⟩
end EIN
/-- a sound result: k = 1 a truth -/
def vgd (k : Int) (v : vrs) : Prop := (v.1 = 0 ∧ v.2.1.natAbs ≤ 999999999 ∧ (1 ≤ v.2.2 ∧ v.2.2 ≤ 999999999) ∧ Int.gcd v.2.1 v.2.2 = 1 ∧ (k = 1 → (v.2.1 = 0 ∨ v.2.1 = 1) ∧ v.2.2 = 1)) ∨ (6 ≤ v.1 ∧ v.1 ≤ 8)
section VGD
theorem vgd_01 {k : Int} : vgd k (0, 1, 1) ∧ vgd k (0, 0, 1) := ⟨Or.inl ⟨rfl, by decide, by decide, by decide, fun _ => ⟨Or.inr rfl, rfl⟩⟩, Or.inl ⟨rfl, by decide, by decide, by decide, fun _ => ⟨Or.inl rfl, rfl⟩⟩⟩
theorem vgd_st {a b p : Int} (hb : 1 ≤ b) : vgd 0 (vst a b p) := by
  unfold vst
  have g0 : 0 < (Int.gcd a b : Int) := by
    have : 0 < Int.gcd a b := Int.gcd_pos_of_ne_zero_right _ (by omega)
    omega
  have gb : (Int.gcd a b : Int) ∣ b := Int.gcd_dvd_right a b
  have b1 : 1 ≤ b / (Int.gcd a b : Int) := (Int.le_ediv_iff_mul_le g0).mpr (by rw [Int.one_mul]; exact Int.le_of_dvd (by omega) gb)
  have gg : Int.gcd (a / (Int.gcd a b : Int)) (b / (Int.gcd a b : Int)) = 1 := Int.gcd_ediv_gcd_ediv_gcd_of_ne_zero_right (by omega)
  split
  · exact Or.inr ⟨by simp, by simp⟩
  · refine Or.inl ⟨rfl, ?_, ⟨b1, ?_⟩, gg, fun k => absurd k (by decide)⟩
    · show (a / (Int.gcd a b : Int)).natAbs ≤ 999999999
      omega
    · show b / (Int.gcd a b : Int) ≤ 999999999
      omega
theorem vgd_tr {k : Int} {p : Prop} [Decidable p] : vgd k (vtr p) := by
  unfold vtr
  split
  · exact vgd_01.1
  · exact vgd_01.2
theorem vgd_op {x a b c d p k : Int} (hb : 1 ≤ b ∧ b ≤ 999999999) (hd : 1 ≤ d ∧ d ≤ 999999999) (ha : a.natAbs ≤ 999999999) (hc : c.natAbs ≤ 999999999) (hk : k = 1 → x < 24 ∨ 28 < x) : vgd k (vop x a b c d p) := by
  have k0 : ∀ {v : vrs}, (24 ≤ x ∧ x ≤ 28) → vgd 0 v → vgd k v := fun {v} hx h => h.imp (fun q => ⟨q.1, q.2.1, q.2.2.1, q.2.2.2.1, fun e => by have := hk e; omega⟩) id
  have bd : 1 ≤ b * d := Int.mul_pos (show 0 < b by omega) (show 0 < d by omega)
  unfold vop
  by_cases c1 : x = 24
  · rw [if_pos c1]; exact k0 (by omega) (vgd_st bd)
  rw [if_neg c1]
  by_cases c2 : x = 25
  · rw [if_pos c2]; exact k0 (by omega) (vgd_st bd)
  rw [if_neg c2]
  by_cases c3 : x = 26
  · rw [if_pos c3]; exact k0 (by omega) (vgd_st bd)
  rw [if_neg c3]
  by_cases c4 : x = 27
  · rw [if_pos c4]
    by_cases e0 : c = 0
    · rw [if_pos e0]; exact Or.inr ⟨by simp, by simp⟩
    rw [if_neg e0]
    by_cases e1 : 0 < c
    · rw [if_pos e1]
      exact k0 (by omega) (vgd_st (Int.mul_pos (show 0 < b by omega) e1))
    · rw [if_neg e1]
      refine k0 (by omega) (vgd_st ?_)
      have := Int.mul_pos (show 0 < b by omega) (show 0 < -c by omega)
      rw [Int.mul_neg] at this
      omega
  rw [if_neg c4]
  by_cases c5 : x = 28
  · rw [if_pos c5]
    by_cases e0 : b ≠ 1 ∨ d ≠ 1
    · rw [if_pos e0]; exact Or.inr ⟨by simp, by simp⟩
    rw [if_neg e0]
    by_cases e1 : c ≤ 0
    · rw [if_pos e1]; exact Or.inr ⟨by simp, by simp⟩
    · rw [if_neg e1]
      have m1 := Int.emod_nonneg a (show c ≠ 0 by omega)
      have m2 := Int.emod_lt_of_pos a (show 0 < c by omega)
      refine k0 (by omega) (Or.inl ⟨rfl, ?_, ⟨Int.le_refl _, by simp⟩, ?_, fun u => absurd u (by decide)⟩)
      · show (a % c).natAbs ≤ 999999999
        omega
      · show Int.gcd (a % c) 1 = 1
        exact Int.gcd_one_right _
  rw [if_neg c5]
  split
  · exact vgd_tr
  split
  · exact vgd_tr
  split
  · exact vgd_tr
  split
  · exact vgd_tr
  split
  · exact vgd_tr
  · exact vgd_tr
theorem vgd_bs {k x a b c d : Int} (h1 : vgd k (0, a, b)) (h2 : vgd k (0, c, d)) : vgd k (vbs x a b c d) := by
  unfold vbs
  split <;> split
  · exact h2
  · exact h1
  · exact h2
  · exact h1
theorem vgd.bd {k : Int} {v : vrs} {f : Int → Int → vrs} {k' : Int} (h : vgd k v) (hf : ∀ a b, v = (0, a, b) → vgd k (0, a, b) → vgd k' (f a b)) : vgd k' (vbd v f) := by
  unfold vbd
  by_cases c : v.1 = 0
  · rw [if_pos c]
    refine hf _ _ (by rw [← c]) ?_
    rw [show (0, v.2.1, v.2.2) = v by rw [← c]]
    exact h
  · rw [if_neg c]
    rcases h with h | h
    · exact absurd h.1 c
    · exact Or.inr h
theorem vgd.n0 {k : Int} {v : vrs} (h : vgd k v) (k' : Int) (hk : k' ≠ 1) : vgd k' v := h.imp (fun q => ⟨q.1, q.2.1, q.2.2.1, q.2.2.2.1, fun e => absurd e hk⟩) id
/-- the value of a rule of consts is sound -/
theorem vl_ok {w E pl : Nat → Int} {cv : Nat → vrs} (hlf : ∀ k, (w k = 1 ∨ w k = 2 ∨ w k = 12 ∨ w k = 13) → (w k = 1 → E k ≠ -1) → vgd (if w k = 12 ∨ w k = 13 ∨ (w k = 1 ∧ E k = 1) then 1 else 0) (cv k)) : ∀ (n c i j : Nat), 2 * (j - i) + c ≤ n → Eoc w c i j → (fl w E pl c i j).1 = 0 → (c = 1 → kdq w E 1 i j ≠ 1) → ∀ x, vgd (kdq w E c i j) (vlq w cv pl c x i j) := by
  have n0 : ∀ {i j : Nat}, (0 : Nat) = 1 → kdq w E 1 i j ≠ 1 := fun u => absurd u (by decide)
  refine Eo_ind (P := fun c i j => (fl w E pl c i j).1 = 0 → (c = 1 → kdq w E 1 i j ≠ 1) → ∀ x, vgd (kdq w E c i j) (vlq w cv pl c x i j)) ?_ ?_ ?_ ?_ ?_ ?_ ?_ ?_
  · intro i m q j h1 h2 h3 h4 h5 h6 h7 h8 _ _ _ i1 i2 i3 hf hz x
    rw [fl_ask h1 h2 h3 h6 h8, fst9_1, fst9_1, fst9_1, kft_1] at hf
    obtain ⟨⟨⟨f1, f2⟩, f3⟩, k1, k2⟩ := hf
    rw [kd_ask h1 h2 h3 h6 h8, vl_ask h1 h2 h3 h6 h8]
    refine (i1 f1 n0 0).bd (fun a b _ _ => ?_)
    split
    · exact i3 f3 n0 0
    · rw [← k2]; exact i2 f2 n0 0
  · intro i m j h1 h2 h3 h4 _ _ i1 i2 hf hz x
    rw [fl_bin h1 h2 h3 (by omega), fst9_1, fst9_1, kft_1] at hf
    obtain ⟨⟨f1, f2⟩, k1⟩ := hf
    rw [kd_bin h1 h2 h3 (by omega)]
    have t1 : (w m = 29 ∨ w m = 30) → kdq w E 0 i m = 1 ∧ kdq w E 0 (m + 1) j = 1 := fun u => by unfold okq at k1; rw [if_pos u] at k1; exact k1
    have tr : (w m = 29 ∨ w m = 30) → tru (w m) := fun u => by unfold tru; omega
    by_cases c1 : w m = 29
    · rw [vl_and h1 h2 h3 c1, if_pos (tr (Or.inl c1))]
      obtain ⟨k1, k2⟩ := t1 (Or.inl c1)
      rw [k1] at i1
      rw [k2] at i2
      refine (i1 f1 n0 0).bd (fun a b _ g => ?_)
      split
      · exact g
      · exact i2 f2 n0 0
    by_cases c2 : w m = 30
    · rw [vl_or h1 h2 h3 c2, if_pos (tr (Or.inr c2))]
      obtain ⟨k1, k2⟩ := t1 (Or.inr c2)
      rw [k1] at i1
      rw [k2] at i2
      refine (i1 f1 n0 0).bd (fun a b _ g => ?_)
      split
      · exact i2 f2 n0 0
      · exact g
    · rw [vl_bin h1 h2 h3 (by omega) c1 c2]
      refine (i1 f1 n0 0).bd (fun a b _ g1 => (i2 f2 n0 0).bd (fun e f _ g2 => ?_))
      rcases g1 with ⟨-, a1, a2, -⟩ | ⟨a1, -⟩
      · rcases g2 with ⟨-, b1, b2, -⟩ | ⟨b1, -⟩
        · refine vgd_op a2 b2 a1 b1 (fun u => ?_)
          split at u
          · rename_i tt
            unfold tru at tt
            omega
          · exact absurd u (by decide)
        · exact absurd b1 (by simp)
      · exact absurd a1 (by simp)
  · intro i j h1 h2 h3 _ _ i1 hf hz x
    rw [fl_par h1 h2 h3] at hf
    rw [kd_par h1 h2 h3, vl_par h1 h2 h3]
    exact i1 hf n0 0
  · intro i j h1 h2 h3 _ i1 hf hz x
    rcases h3 with h3 | h3
    · rw [fl_neg h1 h2 h3, fst9_1, kft_1] at hf
      rw [kd_num h1 h2 (Or.inl h3), vl_neg h1 h2 h3]
      refine (i1 hf.1 n0 0).bd (fun a b _ g => ?_)
      rcases g with ⟨-, a1, a2, a3, -⟩ | ⟨a1, -⟩
      · refine Or.inl ⟨rfl, ?_, a2, ?_, fun u => absurd u (by decide)⟩
        · show (-a).natAbs ≤ 999999999
          rw [Int.natAbs_neg]; exact a1
        · show Int.gcd (-a) b = 1
          rw [Int.neg_gcd]; exact a3
      · exact absurd a1 (by simp)
    · rw [fl_not h1 h2 h3, fst9_1, kft_1] at hf
      rw [kd_tru h1 h2 (Or.inl h3), vl_not h1 h2 h3]
      rw [hf.2] at i1
      refine (i1 hf.1 n0 0).bd (fun a b _ g => ?_)
      rcases g with ⟨-, -, -, -, a3⟩ | ⟨a1, -⟩
      · obtain ⟨a4, a5⟩ := a3 rfl
        have a4 : a = 0 ∨ a = 1 := a4
        have a5 : b = 1 := a5
        subst a5
        rcases a4 with rfl | rfl
        · exact vgd_01.1
        · exact vgd_01.2
      · exact absurd a1 (by simp)
  · intro i h1 h3 hf hz x
    rw [fl_leaf h1 (by omega) h3] at hf
    have hne : w i = 1 → E i ≠ -1 := fun a b => by rw [if_pos ⟨a, b⟩] at hf; exact absurd hf (by simp)
    have hl := hlf i h3 hne
    rw [vl_leaf h1 (by omega) h3]
    rcases h3 with h3 | h3 | h3
    · rw [kd_nam h1 (by omega) h3]
      by_cases c : E i = 1
      · rw [if_pos (Or.inr (Or.inr ⟨h3, c⟩))] at hl
        rw [if_pos c]; exact hl
      · rw [if_neg (by omega)] at hl
        rw [if_neg c]; exact hl
    · rw [kd_num h1 (by omega) (Or.inr (Or.inl h3))]
      rw [if_neg (by omega)] at hl
      exact hl
    · rw [kd_tru h1 (by omega) (Or.inr h3)]
      rw [if_pos (by omega)] at hl
      exact hl
  · intro i j h1 h2 h3 _ _ i1 hf hz x
    rw [fl_lst h1 h2 h3, fst9_1, kft_1] at hf
    rw [kd_num h1 h2 (Or.inr (Or.inr h3)), vl_lst h1 h2 h3]
    have := i1 hf.1 (fun _ => by rw [hf.2]; decide) (w i)
    rw [hf.2] at this
    exact this
  · intro i j h1 h2 _ i1 hf hz x
    rw [fl_l1 h1 h2] at hf
    rw [kd_l1 h1 h2, vl_l1 h1 h2]
    exact i1 hf n0 0
  · intro i m j h1 h2 h3 h4 h5 _ _ i1 i2 hf hz x
    rw [fl_ln h1 h4 h2, fst9_1] at hf
    rw [kd_ln h1 h4 h2, vl_ln h1 h4 h2]
    have c : ¬ (kdq w E 1 i m = 1 ∨ kdq w E 0 (m + 1) j = 1) := fun c => hz rfl (by rw [kd_ln h1 h4 h2, if_pos c])
    rw [if_neg c]
    exact ((i1 hf.1 (fun _ u => c (Or.inl u)) x).n0 0 (by decide)).bd (fun a b _ g1 => ((i2 hf.2 n0 0).n0 0 (by decide)).bd (fun e f _ g2 => vgd_bs g1 g2))
end VGD
end
