/-! The class's machine, exactly: compute. -/
section LTM
/-- two fractions in least terms that are equal are the same -/
theorem lterm {a b e f : Int} (hb : 0 < b) (hf : 0 < f) (g1 : Int.gcd a b = 1) (g2 : Int.gcd e f = 1) (h : a * f = e * b) : a = e ∧ b = f := by
  have d1 : b ∣ f := by
    rw [← Int.natAbs_dvd_natAbs]
    refine Nat.Coprime.dvd_of_dvd_mul_right (n := a.natAbs) ?_ ?_
    · show Nat.gcd b.natAbs a.natAbs = 1
      rw [Nat.gcd_comm]; exact g1
    · rw [← Int.natAbs_mul, Int.mul_comm, h, Int.natAbs_mul]
      exact Nat.dvd_mul_left _ _
  have d2 : f ∣ b := by
    rw [← Int.natAbs_dvd_natAbs]
    refine Nat.Coprime.dvd_of_dvd_mul_right (n := e.natAbs) ?_ ?_
    · show Nat.gcd f.natAbs e.natAbs = 1
      rw [Nat.gcd_comm]; exact g2
    · rw [← Int.natAbs_mul, Int.mul_comm, ← h, Int.natAbs_mul]
      exact Nat.dvd_mul_left _ _
  have e1 := Int.le_of_dvd hf d1
  have e2 := Int.le_of_dvd hb d2
  have ebf : b = f := by omega
  subst ebf
  exact ⟨Int.eq_of_mul_eq_mul_right (by omega) h, rfl⟩
/-- what two values and an order come to -/
def v2q (o a b e f x : Int) : vrs := if o = 15 ∨ o = 16 then vbs (o - 1) a b e f else vop (o - 1) a b e f x
theorem v2_rl {o a b e f x r : Int} (ho : o = 15 ∨ o = 16 ∨ (19 ≤ o ∧ o ≤ 24)) (hb : 0 < b) (hf : 0 < f) (g1 : Int.gcd a b = 1) (g2 : Int.gcd e f = 1) (h0 : r = 0 ↔ a * f = e * b) (h1 : 0 < r ↔ e * b < a * f) (h2 : r < 0 ↔ a * f < e * b) : rlv o r a b e f = v2q o a b e f x := by
  unfold rlv v2q
  by_cases c : o = 15 ∨ o = 16
  · rw [if_pos c, if_pos c]
    unfold vbs
    rcases c with c | c
    · subst c
      simp only [Int.reduceSub, if_true, iff_true]
      by_cases u : e * b < a * f
      · rw [if_pos (h1.mpr u), if_pos u]
      · rw [if_neg (fun q => u (h1.mp q)), if_neg u]
    · subst c
      simp only [Int.reduceSub, Int.reduceEq, if_false, iff_false]
      by_cases u : a * f < e * b
      · rw [if_pos (fun q => by have := h1.mp q; omega), if_pos u]
      · rw [if_neg u]
        by_cases v : e * b < a * f
        · rw [if_neg (fun q => q (h1.mpr v))]
        · obtain ⟨ea, eb⟩ := lterm hb hf g1 g2 (by omega)
          subst ea eb
          split <;> rfl
  · rw [if_neg c, if_neg c]
    have o6 : o = 19 ∨ o = 20 ∨ o = 21 ∨ o = 22 ∨ o = 23 ∨ o = 24 := by omega
    unfold vop vtr
    rcases o6 with rfl | rfl | rfl | rfl | rfl | rfl
    all_goals simp only [Int.reduceSub, Int.reduceEq, if_false, if_true, false_and, true_and, or_false, false_or, ne_eq, not_true_eq_false, not_false_eq_true]
    · by_cases u : a * f = e * b
      · rw [if_neg (fun q => q (h0.mpr u)), if_neg (fun q => q u)]
      · rw [if_pos (fun q => u (h0.mp q)), if_pos u]
    · by_cases u : a * f ≤ e * b
      · rw [if_pos (by by_cases w : 0 < r; exact absurd (h1.mp w) (by omega); omega), if_pos u]
      · rw [if_neg (by have := h1.mpr (by omega); omega), if_neg u]
    · by_cases u : e * b ≤ a * f
      · rw [if_pos (by by_cases w : r < 0; exact absurd (h2.mp w) (by omega); omega), if_pos u]
      · rw [if_neg (by have := h2.mpr (by omega); omega), if_neg u]
    · by_cases u : a * f < e * b
      · rw [if_pos (h2.mpr u), if_pos u]
      · rw [if_neg (fun q => u (h2.mp q)), if_neg u]
    · by_cases u : e * b < a * f
      · rw [if_pos (h1.mpr u), if_pos u]
      · rw [if_neg (fun q => u (h1.mp q)), if_neg u]
    · by_cases u : a * f = e * b
      · rw [if_pos (h0.mpr u), if_pos u]
      · rw [if_neg (fun q => u (h0.mp q)), if_neg u]
theorem vst_one {v p : Int} (h : 0 ≤ v ∧ v < 1000000000) : vst v 1 p = (0, v, 1) := by
  unfold vst
  have g : (Int.gcd v 1 : Int) = 1 := by rw [Int.gcd_one_right]; rfl
  rw [g, Int.ediv_one, Int.ediv_one, if_neg (by omega)]
end LTM
section MAY
variable {G : mG} {d z m U Ab Be C Ab0 Be0 C0 t s c p O P K : Nat} {M0 M M' M1 M2 : mM} {S R : Nat → Prop}
/-- what Math.floorMod answers, exactly -/
def FMx (G : mG) : Prop := ∀ (d : Nat) (M : mM) (x y : Int), mOk M → i64 x → 0 < y → i64 y → Cj G y_JM_floorMod d [vl x, vl y] M (fun v M' => M' = M ∧ (0 ≤ v ∧ v < y) ∧ v = x % y)
theorem FMx.of {G : mG} : FMx G := fun d M x y _ hx h hy => s_JM_floorMod0 d M x y hx h hy
theorem x_Ma_compute1 {o x a b : Int} (io : i32 o) (ix : i32 x) (ho : o = 40 ∨ o = 41) (h : MS M0 z m U Ab0 Be0 C0 M (t + 1) c) (h1 : ptq M m t a b) (ga : a.natAbs ≤ 999999999) : Ci G y_Ma_compute (d + 3) [vr m, vi o, vi x] M (cpx M0 z m U Ab0 Be0 C0 M t c (if o = 40 then (0, -a, b) else (0, 1 - a, b))) := by
  obtain ⟨ok, k0, h8, kA, kB, tA, tB, bA, bB, hb, ⟨mA, mB⟩, ne⟩ := h.pile
  have q1 : Int.toNat (mI M m 8 - 1) = t := by omega
  have abv : ∀ {M9 : mM} {v : Int}, i32 v → M9 = mUI M (mR M m 6) (Int.toNat (mI M m 8 - 1)) v → MS M0 z m U Ab0 Be0 C0 M9 (t + 1) c ∧ mtq m M M9 ∧ plq M M9 m t ∧ ptq M9 m t v b := fun {M9 v} iv e9 => by
    have w := ms_abv h iv e9
    have w2 : mtq m M M9 := mtq.abv h e9
    rw [q1] at e9
    have r9 : mR M9 = mR M := by rw [e9]; rfl
    refine ⟨w.1, w2, fun j hj => ?_, ?_⟩
    · rw [r9, mI_ui _ j e9, if_neg (fun q => by have := q.2; omega), mI_ui _ j e9, if_neg (fun q => ne q.1.symm)]
      exact ⟨rfl, rfl⟩
    · unfold ptq
      rw [r9, mI_ui _ t e9, if_pos ⟨rfl, rfl⟩, mI_ui _ t e9, if_neg (fun q => ne q.1.symm)]
      exact ⟨rfl, h1.2⟩
  refine k_Ma_computew ok io ix ⟨fun y40 => ?_, fun y40 => ⟨fun y41 => ?_, fun y41 => by omega⟩⟩
  · refine ⟨k0, kA, by omega, by omega, fun M9 e9 => ?_⟩
    rw [q1, h1.1, w32_id ⟨by omega, by omega⟩, ← q1] at e9
    obtain ⟨w1, w2, w3, w4⟩ := abv ⟨by omega, by omega⟩ e9
    rw [if_pos y40]
    exact ⟨Or.inr ⟨rfl, rfl, w1, w3, w4⟩, w2⟩
  · refine ⟨k0, kA, by omega, by omega, fun M9 e9 => ?_⟩
    rw [q1, h1.1, w32_id ⟨by omega, by omega⟩, ← q1] at e9
    obtain ⟨w1, w2, w3, w4⟩ := abv ⟨by omega, by omega⟩ e9
    rw [if_neg y40]
    exact ⟨Or.inr ⟨rfl, rfl, w1, w3, w4⟩, w2⟩
theorem hid_o {p : Prop} (h : Hid p) : p := h
theorem ivm {x y : Int} (hx : x.natAbs ≤ 999999999) (hy : y.natAbs ≤ 999999999) : -1000000000000000000 ≤ x * y ∧ x * y ≤ 1000000000000000000 := by
  have := mulab hx hy
  omega
theorem iva {p q : Int} (h1 : -1000000000000000000 ≤ p ∧ p ≤ 1000000000000000000) (h2 : -1000000000000000000 ≤ q ∧ q ≤ 1000000000000000000) : -5000000000000000000 ≤ p + q ∧ p + q ≤ 5000000000000000000 := by omega
theorem ivs {p q : Int} (h1 : -1000000000000000000 ≤ p ∧ p ≤ 1000000000000000000) (h2 : -1000000000000000000 ≤ q ∧ q ≤ 1000000000000000000) : -5000000000000000000 ≤ p - q ∧ p - q ≤ 5000000000000000000 := by omega
theorem ivw {p : Int} (h1 : -1000000000000000000 ≤ p ∧ p ≤ 1000000000000000000) : -5000000000000000000 ≤ p ∧ p ≤ 5000000000000000000 := by omega
theorem ivp {p : Int} (h0 : 0 < p) (h1 : -1000000000000000000 ≤ p ∧ p ≤ 1000000000000000000) : 1 ≤ p ∧ p ≤ 5000000000000000000 := by omega
theorem iv64 {p : Int} (h1 : -1000000000000000000 ≤ p ∧ p ≤ 1000000000000000000) : i64 p := ⟨by omega, by omega⟩
theorem ivna {p : Int} (h : p.natAbs ≤ 999999999) : -1000000000000000000 ≤ p ∧ p ≤ 1000000000000000000 := by omega
theorem ivln {e : Int} (h : e ≤ 0) (h2 : ¬ e = 0) : e < 0 := by omega
theorem ivneg {p q : Int} (h0 : q < 0) (h1 : -1000000000000000000 ≤ p ∧ p ≤ 1000000000000000000) (h2 : -1000000000000000000 ≤ q ∧ q ≤ 1000000000000000000) : (-5000000000000000000 ≤ -p ∧ -p ≤ 5000000000000000000) ∧ (1 ≤ -q ∧ -q ≤ 5000000000000000000) := by omega
theorem ivfm {v e : Int} (v0 : 0 ≤ v) (v1 : v < e) (h : e.natAbs ≤ 999999999) : i64 v ∧ (-5000000000000000000 ≤ v ∧ v ≤ 5000000000000000000) ∧ (0 ≤ v ∧ v < 1000000000) := ⟨⟨by omega, by omega⟩, by omega, by omega⟩
theorem iv24 {o : Int} (ho : o = 15 ∨ o = 16 ∨ (19 ≤ o ∧ o ≤ 29)) (y1 : ¬ o = 25) (y2 : ¬ o = 26) (y3 : ¬ o = 27) (y4 : ¬ o = 28) (y5 : ¬ o = 29) : o = 15 ∨ o = 16 ∨ (19 ≤ o ∧ o ≤ 24) := by omega
theorem iv40 {o : Int} (ho : o = 15 ∨ o = 16 ∨ (19 ≤ o ∧ o ≤ 29)) : ¬ o = 40 ∧ ¬ o = 41 ∧ ¬ o = 43 := by omega
theorem ivcm {p q v : Int} (e3 : v = (if 0 ≤ cmpL p q then (if cmpL p q = 0 then 0 else 1) else (-1))) : i32 v ∧ (v = 0 ↔ p = q) ∧ (0 < v ↔ q < p) ∧ (v < 0 ↔ p < q) := by
  have cz := cmpz p q
  refine ⟨by rw [e3]; (repeat' split) <;> exact i32s (by decide) (by decide), ?_, ?_, ?_⟩
  · rw [e3]; split <;> (try split) <;> omega
  · rw [e3]; split <;> (try split) <;> omega
  · rw [e3]; split <;> (try split) <;> omega
theorem x_Ma_compute2 {o x a b e f : Int} (hF : FMx G) (io : i32 o) (ix : i32 x) (ho : o = 15 ∨ o = 16 ∨ (19 ≤ o ∧ o ≤ 29)) (h : MS M0 z m U Ab0 Be0 C0 M (s + 2) c) (h1 : ptq M m s a b) (h2 : ptq M m (s + 1) e f) (ga : a.natAbs ≤ 999999999) (ge : e.natAbs ≤ 999999999) (g1 : Int.gcd a b = 1) (g2 : Int.gcd e f = 1) : Ci G y_Ma_compute (d + 3) [vr m, vi o, vi x] M (cpx M0 z m U Ab0 Be0 C0 M s c (v2q o a b e f x)) := by
  obtain ⟨n40, n41, n43⟩ := iv40 ho
  have ho9 : Hid (o = 15 ∨ o = 16 ∨ (19 ≤ o ∧ o ≤ 29)) := ho
  have ga9 : Hid (a.natAbs ≤ 999999999) := ga
  have ge9 : Hid (e.natAbs ≤ 999999999) := ge
  clear ho ga ge
  obtain ⟨ok, k0, h8, kA, kB, tA, tB, bA, bB, hb, ⟨mA, mB⟩, ne⟩ := h.pile
  refine k_Ma_computew ok io ix ⟨fun y40 => absurd y40 n40, fun y40 => ⟨fun y41 => absurd y41 n41, fun y41 => ⟨fun y43 => absurd y43 n43, fun y43 => ?_⟩⟩⟩
  clear n40 n41 n43 y40 y41 y43
  refine ⟨k0, ⟨by omega, by omega⟩, fun M29 e29 => ?_⟩
  obtain ⟨h29, -, f29⟩ := ms_top (t' := s + 1) h (by omega) (by omega) e29
  have b29 : mtq m M M29 := mtq.fi f29
  obtain ⟨ok9, k09, h89, kA9, kB9, -, -, -, -, hb9, -, -⟩ := h29.pile
  have lA : mN M29 (mR M29 m 6) = mN M (mR M m 6) := by rw [f29.2.1, f29.2.2.1]
  have lB : mN M29 (mR M29 m 7) = mN M (mR M m 7) := by rw [f29.2.1, f29.2.2.1]
  have p29 : plq M M29 m (s + 2) := plq.fi f29 ⟨mA, mB⟩
  have h1' := p29.pt (by omega) h1
  have h2' := p29.pt (by omega) h2
  have q1 : Int.toNat (mI M29 m 8 - 1) = s := by omega
  have q2 : Int.toNat (mI M29 m 8) = s + 1 := by omega
  have vb : 1 ≤ b ∧ b < 1000000000 := by have := hb s (by omega); rw [h1.2] at this; exact this
  have vd9 : 1 ≤ f ∧ f < 1000000000 := by have := hb (s + 1) (by omega); rw [h2.2] at this; exact this
  have z1 : (0 : Int) ≤ mI M29 m 8 - 1 ∧ mI M29 m 8 - 1 < (mN M (mR M m 6) : Int) := by omega
  have z2 : (0 : Int) ≤ mI M29 m 8 - 1 ∧ mI M29 m 8 - 1 < (mN M (mR M m 7) : Int) := by omega
  have z3 : (0 : Int) ≤ mI M29 m 8 ∧ mI M29 m 8 < (mN M (mR M m 6) : Int) := by omega
  have z4 : (0 : Int) ≤ mI M29 m 8 ∧ mI M29 m 8 < (mN M (mR M m 7) : Int) := by omega
  have z5 : (s : Int) + 1 < (mN M (mR M m 6) : Int) := by omega
  have z6 : (s : Int) + 1 < (mN M (mR M m 7) : Int) := by omega
  have p28 : plq M M29 m s := p29.mono (by omega)
  have pb : 0 < b := by omega
  have pf : 0 < f := by omega
  have nb : Hid (b.natAbs ≤ 999999999) := show b.natAbs ≤ 999999999 by omega
  have nf : Hid (f.natAbs ≤ 999999999) := show f.natAbs ≤ 999999999 by omega
  rw [q1, q2, lA, lB, h1'.1, h1'.2, h2'.1, h2'.2]
  have stp : ∀ {y : Int}, i32 y → y ≠ 0 → v2q o a b e f x = (y, x, 0) → Ci G y_Ma_stop (d + 2) [vr m, vi y, vi x] M29 (fun r M' => i32 r ∧ mOk M' ∧ (r = 0 ∨ r = 1) ∧ cpx M0 z m U Ab0 Be0 C0 M s c (v2q o a b e f x) r M') := fun {y} hy y0 ev => (x_Ma_stop hy ix h29).mono (fun r M' q => by
    obtain ⟨e, q1, q2, q3, q4⟩ := q
    rw [e, ev]
    exact ⟨i32s (by decide) (by decide), q1.pile.1, Or.inl rfl, Or.inl ⟨rfl, y0, q3, q4, _, q1⟩, b29.trans q2⟩)
  have stl : ∀ {u v : Int}, (-5000000000000000000 ≤ u ∧ u ≤ 5000000000000000000) → (1 ≤ v ∧ v ≤ 5000000000000000000) → v2q o a b e f x = vst u v x → Ci G y_Ma_settle (d + 2) [vr m, vl u, vl v, vi x] M29 (fun r M' => i32 r ∧ mOk M' ∧ (r = 0 ∨ r = 1) ∧ cpx M0 z m U Ab0 Be0 C0 M s c (v2q o a b e f x) r M') := fun {u v} hu hv ev => (x_Ma_settle hu hv ix h29).mono (fun r M' q => by
    rw [ev]
    obtain ⟨q1, q2⟩ := q
    rcases q1 with ⟨e, w1, w2, w3, t2, w4⟩ | ⟨e, w1, w2, w3, w4⟩
    · rw [e]
      exact ⟨i32s (by decide) (by decide), w4.pile.1, Or.inl rfl, Or.inl ⟨rfl, w1, w2, w3, t2, w4⟩, b29.trans q2⟩
    · rw [e]
      exact ⟨i32s (by decide) (by decide), w2.pile.1, Or.inr rfl, Or.inr ⟨rfl, w1, w2, p28.trans w3, w4⟩, b29.trans q2⟩)
  have ce := cmpz e 0
  have c7 : i32 7 := i32s (by decide) (by decide)
  have c8 : i32 8 := i32s (by decide) (by decide)
  have pbf := ivp (Int.mul_pos pb pf) (ivm (hid_o nb) (hid_o nf))
  have baf := ivm (hid_o ga9) (hid_o nf)
  have beb := ivm (hid_o ge9) (hid_o nb)
  refine ⟨kA9, z1, kB9, z2, z3, z4, fun y1 => stl (iva baf beb) pbf ?_, fun y1 => ⟨fun y2 => stl (ivs baf beb) pbf ?_, fun y2 => ⟨fun y3 => stl (ivw (ivm (hid_o ga9) (hid_o ge9))) pbf ?_, fun y3 => ⟨fun y4 => ⟨fun y0 => stp c7 (by decide) ?_, fun y0 => ⟨fun y5 => ?_, fun y5 => ?_⟩⟩, fun y4 => ⟨fun y5 => ⟨fun y0 => ⟨fun y6 => ?_, fun y6 => ?_⟩, fun y0 => stp c8 (by decide) ?_⟩, fun y5 => ?_⟩⟩⟩⟩⟩
  · subst y1; rfl
  · subst y2; rfl
  · subst y3; rfl
  · subst y4
    have e0 : e = 0 := ce.2.2.2.1.mp y0
    show vop 27 a b e f x = _
    unfold vop
    simp [e0]
  · subst y4
    have en : e < 0 := ivln (ce.2.1.mp y5) (fun q => y0 (ce.2.2.2.1.mpr q))
    have p5 : b * e < 0 := Int.mul_neg_of_pos_of_neg pb en
    obtain ⟨w1, w2⟩ := ivneg p5 baf (ivm (hid_o nb) (hid_o ge9))
    rw [← Int.neg_mul] at w1
    rw [← Int.neg_mul] at w2
    refine (stl (u := -a * f) (v := -b * e) w1 w2 ?_).mono (fun r M' q => ?_)
    · show vop 27 a b e f x = _
      have e1 : ¬ e = 0 := Int.ne_of_lt en
      have e2 : ¬ 0 < e := Int.not_lt.mpr (Int.le_of_lt en)
      unfold vop
      rw [Int.neg_mul, Int.neg_mul]
      simp [e1, e2]
    · exact ⟨q.1, q.2.1, k_Ma_compute_304 q.2.1 q.1 q.2.2⟩
  · subst y4
    have en : 0 < e := Int.not_le.mp (fun q => y5 (ce.2.1.mpr q))
    refine (stl (u := a * f) (v := b * e) (ivw baf) (ivp (Int.mul_pos pb en) (ivm (hid_o nb) (hid_o ge9))) ?_).mono (fun r M' q => ?_)
    · show vop 27 a b e f x = _
      have e1 : ¬ e = 0 := fun q => y0 (ce.2.2.2.1.mpr q)
      unfold vop
      simp [e1, en]
    · exact ⟨q.1, q.2.1, k_Ma_compute_304 q.2.1 q.1 q.2.2⟩
  · subst y5
    have en : 0 < e := ce.2.2.2.2.mp y6
    refine (hF (d + 2) M29 a e ok9 (iv64 (ivna (hid_o ga9))) en (iv64 (ivna (hid_o ge9)))).mono (fun v M76 q => ?_)
    obtain ⟨e76, ⟨v0, v1⟩, ev⟩ := q
    subst e76
    obtain ⟨u1, u2, u3⟩ := ivfm v0 v1 (hid_o ge9)
    refine ⟨u1, ok9, k09, (stl (u := v) (v := 1) u2 (by decide) ?_).mono (fun r M' q => ?_)⟩
    · rw [vst_one u3]
      show vop 28 a b e f x = _
      have e1 : ¬ e ≤ 0 := Int.not_le.mpr en
      have w1 : b = 1 := (cmpz b 1).2.2.2.1.mp y0.1
      have w2 : f = 1 := (cmpz f 1).2.2.2.1.mp y0.2
      unfold vop
      simp [e1, w1, w2, ev]
    · exact ⟨q.1, q.2.1, k_Ma_compute_356 q.2.1 q.1 q.2.2⟩
  · subst y5
    refine (stp c7 (by decide) ?_).mono (fun r M' q => ?_)
    · show vop 28 a b e f x = _
      have e1 : e ≤ 0 := Int.not_lt.mp (fun q => y6 (ce.2.2.2.2.mpr q))
      have w1 : b = 1 := (cmpz b 1).2.2.2.1.mp y0.1
      have w2 : f = 1 := (cmpz f 1).2.2.2.1.mp y0.2
      unfold vop
      simp [e1, w1, w2]
    · exact ⟨q.1, q.2.1, k_Ma_compute_356 q.2.1 q.1 q.2.2⟩
  · subst y5
    show vop 28 a b e f x = _
    have w1 : b ≠ 1 ∨ f ≠ 1 := by
      by_cases q : b = 1
      · exact Or.inr (fun q2 => y0 ⟨(cmpz b 1).2.2.2.1.mpr q, (cmpz f 1).2.2.2.1.mpr q2⟩)
      · exact Or.inl q
    unfold vop
    simp [w1]
  · refine k_JL_compare ok9 (iv64 baf) (iv64 beb) (fun v3 e3 => ?_)
    obtain ⟨i3, r0, r1, r2⟩ := ivcm e3
    rw [← v2_rl (x := x) (iv24 (hid_o ho9) y1 y2 y3 y4 y5) pb pf g1 g2 r0 r1 r2]
    refine ⟨i3, ok9, k09, (x_Ma_relate io i3 h29 (by rw [lA]; exact z5) (by rw [lB]; exact z6) (by rw [h2'.2]; exact vd9) h1' h2').mono (fun r M' q => ?_)⟩
    obtain ⟨q1, q2, q3, q4, q5, q6⟩ := q
    rw [q1]
    exact ⟨i32s (by decide) (by decide), q3.pile.1, Or.inr rfl, Or.inr ⟨rfl, q2, q3, p28.trans q5, q6⟩, b29.trans q4⟩
end MAY
