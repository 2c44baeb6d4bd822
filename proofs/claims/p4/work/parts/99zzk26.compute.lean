/-! The class's machine: relate, store, compute. -/
section MAC
variable {G : mG} {d z m U Ab Be C Ab0 Be0 C0 t s c p O P K : Nat} {M0 M M' M1 M2 : mM} {S R : Nat → Prop}
/-- what Math.floorMod answers -/
def FMs (G : mG) : Prop := ∀ (d : Nat) (M : mM) (x y : Int), mOk M → i64 x → 0 < y → i64 y → Cj G y_JM_floorMod d [vl x, vl y] M (fun v M' => M' = M ∧ 0 ≤ v ∧ v < y)
theorem s_Ma_relate {o x : Int} (io : i32 o) (ix : i32 x) (h : MS M0 z m U Ab0 Be0 C0 M (t + 1) c) (hA : (t : Int) + 1 < mN M (mR M m 6)) (hB : (t : Int) + 1 < mN M (mR M m 7)) (hv : 1 ≤ mI M (mR M m 7) (t + 1) ∧ mI M (mR M m 7) (t + 1) < 1000000000) : Ci G y_Ma_relate d [vr m, vi o, vi x] M (fun r M' => r = 1 ∧ MS M0 z m U Ab0 Be0 C0 M' (t + 1) c ∧ mtb m M M') := by
  obtain ⟨ok, k0, h8, kA, kB, tA, tB, bA, bB, hb, ⟨mA, mB⟩, ne⟩ := h.pile
  have q1 : Int.toNat (mI M m 8 - 1) = t := by omega
  have q2 : Int.toNat (mI M m 8) = t + 1 := by omega
  refine k_Ma_relate ok io ix ⟨fun _ v7 _ v13 _ => ⟨fun _ => ?_, fun _ => k_Ma_relate_75 ok ⟨rfl, h, mtb.refl⟩⟩, fun _ v50 _ => ⟨k0, fun v57 e57 => ?_⟩⟩
  · rw [q1, q2]
    refine ⟨k0, kA, by omega, by omega, fun M24 e24 => ?_⟩
    have f24 : FI (fun b => b = mR M m 6) M M24 := by rw [e24]; exact FI.ui rfl
    have e8 : mI M24 m 8 = mI M m 8 := by rw [f24.2.2.2.2.2.2 m mA]
    rw [e8, q1, q2]
    refine ⟨by rw [f24.1, f24.2.2.1]; exact kB, by rw [f24.2.1, f24.2.2.1]; omega, by rw [f24.2.1, f24.2.2.1]; omega, fun M29 e29 => ?_⟩
    have eB : mI M24 (mR M24 m 7) (t + 1) = mI M (mR M m 7) (t + 1) := by rw [f24.2.2.1, f24.2.2.2.2.2.2 _ (fun u => ne u.symm)]
    have w := ms_val h (j := t) (by omega) (ok _ _).1 (by rw [eB]; exact hv) e24 e29
    exact k_Ma_relate_75 w.1.pile.1 ⟨rfl, w.1, w.2⟩
  · rw [q1]
    refine ⟨kA, by omega, fun M64 e64 => ?_⟩
    have f64 : FI (fun b => b = mR M m 6) M M64 := by rw [e64]; exact FI.ui rfl
    have e8 : mI M64 m 8 = mI M m 8 := by rw [f64.2.2.2.2.2.2 m mA]
    rw [e8, q1]
    refine ⟨by rw [f64.1, f64.2.2.1]; exact kB, by rw [f64.2.1, f64.2.2.1]; omega, fun M68 e68 => ?_⟩
    have i57 : i32 v57 := by rw [e57]; split <;> exact i32s (by omega) (by omega)
    have w := ms_val h (j := t) (by omega) i57 ⟨by omega, by omega⟩ e64 e68
    exact ⟨rfl, w.1, w.2⟩
/-- a number that is set -/
theorem ms_nxt {j : Nat} {x : Int} (h : MS M0 z m U Ab0 Be0 C0 M t c) (hx : i32 x) (e1 : M1 = mUI M (m + 2) j x) : MS M0 z m U Ab0 Be0 C0 M1 t c ∧ mtb m M M1 := by
  obtain ⟨Ab, Be, C, ok, hk, hf, hab, hr, ⟨h8, htC, hb⟩, hc, hm⟩ := h
  obtain ⟨sA, sB, sne, sz⟩ := hk.2.2.2.2.2.1
  have f1 : FI (fun b => b = m + 2) M M1 := by rw [e1]; exact FI.ui rfl
  have g : mI M1 m = mI M m := f1.2.2.2.2.2.2 m (by omega)
  exact ⟨ms_step (t' := t) (c' := c) (by rw [e1]; exact mOk_UI ok hx) hk hf hab hr hm (f1.mono (fun _ q => Or.inr (Or.inl q))) (by rw [g]) (by rw [g]) (by rw [g]; exact h8) htC (fun i hi => by rw [f1.2.2.2.2.2.2 Be (by omega)]; exact hb i hi) (by rw [g]; exact hc), fun b h1 h2 => f1.2.2.2.2.2.2 b (by omega)⟩
theorem s_Ma_store {x : Int} {v : Nat} (ix : i32 x) (hv : v < 12) (h : MS M0 z m U Ab0 Be0 C0 M (t + 1) c) (hp : PK M z p O P K) (h0 : mR M m 0 = p) : Ci G y_Ma_store (d + 1) [vr m, vi x, vi v] M (fun r M' => (r = 0 ∨ r = 1) ∧ MS M0 z m U Ab0 Be0 C0 M' t c ∧ mtb m M M' ∧ (r = 0 → mI M' m 1 ≠ 0)) := by
  obtain ⟨ok, k0, h8, kA, kB, tA, tB, bA, bB, hb, ⟨mA, mB⟩, ne⟩ := h.pile
  refine k_Ma_store ok ix (i32s (by omega) (by omega)) ⟨k0, ⟨by omega, by omega⟩, fun M3 e3 => ?_⟩
  obtain ⟨h3, b3, f3⟩ := ms_top (t' := t) h (by omega) (by omega) e3
  obtain ⟨ok3, k03, h83, kA3, kB3, tA3, tB3, bA3, bB3, hb3, -, -⟩ := h3.pile
  have hp3 := hp.fi f3
  have h03 : mR M3 m 0 = p := by rw [f3.2.2.1]; exact h0
  have hm5 : mR M3 m 5 = m + 2 ∧ mK M3 (m + 2) = 30 ∧ mN M3 (m + 2) = 12 := by
    obtain ⟨_, _, _, -, hk, -⟩ := h3
    exact ⟨hk.2.1.2.1, hk.2.2.1.2.1, hk.2.2.2.1.1⟩
  have lA : mN M3 (mR M3 m 6) = mN M (mR M m 6) := by rw [f3.2.1, f3.2.2.1]
  have lB : mN M3 (mR M3 m 7) = mN M (mR M m 7) := by rw [f3.2.1, f3.2.2.1]
  obtain ⟨pk, -, -, -, -, -, ⟨⟨p4, p5, -⟩, ⟨pk4, pk5, -⟩, ⟨pn4, pn5, -⟩⟩⟩ := hp3
  rw [h03, p4, p5, pn4, pn5, lA, lB, h83, Int.toNat_natCast, Int.toNat_natCast, hm5.1, hm5.2.2]
  have st : ∀ {y : Int}, i32 y → y ≠ 0 → Ci G y_Ma_stop d [vr m, vi y, vi x] M3 (fun r M' => i32 r ∧ mOk M' ∧ ((r = 0 ∨ r = 1) ∧ ((r = 0 ∨ r = 1) ∧ MS M0 z m U Ab0 Be0 C0 M' t c ∧ mtb m M M' ∧ (r = 0 → mI M' m 1 ≠ 0)))) := fun {y} hy y0 => (s_Ma_stop hy ix h3).mono (fun r M' q => by
    obtain ⟨e, q1, q2, q3⟩ := q
    rw [e]
    exact ⟨i32s (by omega) (by omega), q1.pile.1, Or.inl rfl, Or.inl rfl, q1, b3.trans q2, fun _ => by rw [q3]; exact y0⟩)
  refine ⟨kB3, by omega, fun _ => ⟨kA3, by omega, pk, pk4, by omega, fun _ => ⟨by omega, pk5, by omega⟩, fun _ => st (i32s (by omega) (by omega)) (by decide), fun _ => ⟨by omega, hm5.2.1, by omega, fun M45 e45 => ?_⟩⟩, fun _ => st (i32s (by omega) (by omega)) (by decide)⟩
  have w := ms_nxt h3 (ok3 _ _).1 e45
  exact ⟨Or.inr rfl, w.1, b3.trans w.2, fun t => absurd t (by decide)⟩
theorem mulab {x y : Int} {A B : Nat} (hx : x.natAbs ≤ A) (hy : y.natAbs ≤ B) : (x * y).natAbs ≤ A * B := by
  rw [Int.natAbs_mul]
  exact Nat.mul_le_mul hx hy
/-- what an order of the pile needs -/
def cmO (V t : Nat) (o x : Int) (t' : Nat) : Prop := ((o = 40 ∨ o = 41) ∧ 1 ≤ t ∧ t' = t) ∨ (o = 43 ∧ 0 ≤ x ∧ x ≤ 1000000 ∧ x % 16 < V ∧ t = t' + 1) ∨ ((o = 15 ∨ o = 16 ∨ (19 ≤ o ∧ o ≤ 29)) ∧ 2 ≤ t ∧ t = t' + 1)
/-- what is left behind -/
def cpQ (M0 : mM) (z m U Ab0 Be0 C0 : Nat) (M : mM) (t' c : Nat) (r : Int) (M' : mM) : Prop := ((r = 0 ∧ mI M' m 1 ≠ 0 ∧ ∃ t2, MS M0 z m U Ab0 Be0 C0 M' t2 c) ∨ (r = 1 ∧ MS M0 z m U Ab0 Be0 C0 M' t' c)) ∧ mtb m M M'
theorem s_Ma_compute {V : Nat} {o x : Int} {t' : Nat} (hF : FMs G) (hV : V ≤ 12) (io : i32 o) (ix : i32 x) (ho : cmO V t o x t') (h : MS M0 z m U Ab0 Be0 C0 M t c) (hp : PK M z p O P K) (h0 : mR M m 0 = p) : Ci G y_Ma_compute (d + 3) [vr m, vi o, vi x] M (cpQ M0 z m U Ab0 Be0 C0 M t' c) := by
  obtain ⟨ok, k0, h8, kA, kB, tA, tB, bA, bB, hb, ⟨mA, mB⟩, ne⟩ := h.pile
  unfold cmO at ho
  refine k_Ma_computew ok io ix ⟨fun y40 => ?_, fun y40 => ⟨fun y41 => ?_, fun y41 => ⟨fun y43 => ⟨k0, ?_⟩, fun y43 => ?_⟩⟩⟩
  · have tt : 1 ≤ t ∧ t' = t := by omega
    refine ⟨k0, kA, by omega, by omega, fun M9 e9 => ?_⟩
    have w := ms_abv h i32_w32 e9
    exact ⟨Or.inr ⟨rfl, by rw [tt.2]; exact w.1⟩, w.2⟩
  · have tt : 1 ≤ t ∧ t' = t := by omega
    refine ⟨k0, kA, by omega, by omega, fun M18 e18 => ?_⟩
    have w := ms_abv h i32_w32 e18
    exact ⟨Or.inr ⟨rfl, by rw [tt.2]; exact w.1⟩, w.2⟩
  · have tt : 0 ≤ x ∧ x ≤ 1000000 ∧ x % 16 < V ∧ t = t' + 1 := by omega
    rw [Int.tdiv_eq_ediv_of_nonneg tt.1, Int.tmod_eq_emod_of_nonneg tt.1]
    obtain ⟨v, ev⟩ : ∃ v : Nat, x % 16 = v := ⟨(x % 16).toNat, by omega⟩
    rw [ev]
    rw [tt.2.2.2] at h
    refine (s_Ma_store ⟨by omega, by omega⟩ (by omega) h hp h0).mono (fun r M' q => ?_)
    obtain ⟨q1, q2, q3, q4⟩ := q
    refine ⟨by rcases q1 with e | e <;> rw [e] <;> exact i32s (by omega) (by omega), q2.pile.1, q1, ?_, q3⟩
    rcases q1 with e | e
    · exact Or.inl ⟨e, q4 e, t', q2⟩
    · exact Or.inr ⟨e, q2⟩
  · have tt : 2 ≤ t ∧ t = t' + 1 := by omega
    obtain ⟨s, es⟩ : ∃ s, t = s + 2 := ⟨t - 2, by omega⟩
    have et' : t' = s + 1 := by omega
    subst et'
    subst es
    clear ho
    refine ⟨k0, ⟨by omega, by omega⟩, fun M29 e29 => ?_⟩
    obtain ⟨h29, b29, f29⟩ := ms_top (t' := s + 1) h (by omega) (by omega) e29
    obtain ⟨ok9, k09, h89, kA9, kB9, -, -, -, -, hb9, -, -⟩ := h29.pile
    have lA : mN M29 (mR M29 m 6) = mN M (mR M m 6) := by rw [f29.2.1, f29.2.2.1]
    have lB : mN M29 (mR M29 m 7) = mN M (mR M m 7) := by rw [f29.2.1, f29.2.2.1]
    have iB : mI M29 (mR M29 m 7) = mI M (mR M m 7) := by rw [f29.2.2.1, f29.2.2.2.2.2.2 _ (fun u => mB u.symm)]
    have q1 : Int.toNat (mI M29 m 8 - 1) = s := by omega
    have q2 : Int.toNat (mI M29 m 8) = s + 1 := by omega
    have vb : 1 ≤ mI M29 (mR M29 m 7) s ∧ mI M29 (mR M29 m 7) s < 1000000000 := by rw [iB]; exact hb s (by omega)
    have vd9 : 1 ≤ mI M29 (mR M29 m 7) (s + 1) ∧ mI M29 (mR M29 m 7) (s + 1) < 1000000000 := by rw [iB]; exact hb (s + 1) (by omega)
    have va := (ok9 (mR M29 m 6) s).1
    have vc := (ok9 (mR M29 m 6) (s + 1)).1
    rw [q1, q2, lA, lB]
    have rel : ∀ {y : Int}, i32 y → Ci G y_Ma_relate (d + 2) [vr m, vi o, vi y] M29 (fun r M' => i32 r ∧ mOk M' ∧ ((r = 0 ∨ r = 1) ∧ cpQ M0 z m U Ab0 Be0 C0 M (s + 1) c r M')) := fun {y} hy => (s_Ma_relate io hy h29 (by rw [lA]; omega) (by rw [lB]; omega) vd9).mono (fun r M' q => by
      obtain ⟨e, q1, q2⟩ := q
      rw [e]
      exact ⟨i32s (by omega) (by omega), q1.pile.1, Or.inr rfl, Or.inr ⟨rfl, q1⟩, b29.trans q2⟩)
    have stp : ∀ {y : Int}, i32 y → y ≠ 0 → Ci G y_Ma_stop (d + 2) [vr m, vi y, vi x] M29 (fun r M' => i32 r ∧ mOk M' ∧ (r = 0 ∨ r = 1) ∧ cpQ M0 z m U Ab0 Be0 C0 M (s + 1) c r M') := fun {y} hy y0 => (s_Ma_stop hy ix h29).mono (fun r M' q => by
      obtain ⟨e, q1, q2, q3⟩ := q
      rw [e]
      exact ⟨i32s (by omega) (by omega), q1.pile.1, Or.inl rfl, Or.inl ⟨rfl, by rw [q3]; exact y0, _, q1⟩, b29.trans q2⟩)
    have stl : ∀ {u v : Int}, u.natAbs ≤ 5000000000000000000 → 1 ≤ v → v.natAbs ≤ 5000000000000000000 → Ci G y_Ma_settle (d + 2) [vr m, vl u, vl v, vi x] M29 (fun r M' => i32 r ∧ mOk M' ∧ (r = 0 ∨ r = 1) ∧ cpQ M0 z m U Ab0 Be0 C0 M (s + 1) c r M') := fun {u v} hu hv1 hv2 => (s_Ma_settle (by omega) (by omega) ix h29).mono (fun r M' q => by
      obtain ⟨q1, q2, q3, q4⟩ := q
      refine ⟨by rcases q1 with e | e <;> rw [e] <;> exact i32s (by omega) (by omega), q2.pile.1, q1, ?_, b29.trans q3⟩
      rcases q1 with e | e
      · exact Or.inl ⟨e, q4 e, _, q2⟩
      · exact Or.inr ⟨e, q2⟩)
    obtain ⟨a, ea⟩ : ∃ a, a = mI M29 (mR M29 m 6) s := ⟨_, rfl⟩
    obtain ⟨b, eb⟩ : ∃ b, b = mI M29 (mR M29 m 7) s := ⟨_, rfl⟩
    obtain ⟨e, ee⟩ : ∃ e, e = mI M29 (mR M29 m 6) (s + 1) := ⟨_, rfl⟩
    obtain ⟨f, ef⟩ : ∃ f, f = mI M29 (mR M29 m 7) (s + 1) := ⟨_, rfl⟩
    rw [← ea, ← eb, ← ee, ← ef]
    rw [← ea] at va
    rw [← ee] at vc
    rw [← eb] at vb
    rw [← ef] at vd9
    unfold i32 at va vc
    have na : a.natAbs ≤ 2147483648 := by omega
    have ne9 : e.natAbs ≤ 2147483648 := by omega
    have nb : b.natAbs ≤ 999999999 := by omega
    have nf : f.natAbs ≤ 999999999 := by omega
    have m1 := mulab na nf
    have m2 := mulab ne9 nb
    have m3 := mulab nb nf
    have m4 := mulab na ne9
    have m5 := mulab nb ne9
    have p3 : 1 ≤ b * f := Int.mul_pos (show 0 < b by omega) (show 0 < f by omega)
    have ce := cmpz e 0
    refine ⟨kA9, by omega, kB9, by omega, by omega, by omega, fun _ => (stl (by omega) p3 (by omega)), fun _ => ⟨fun _ => stl (by omega) p3 (by omega), fun _ => ⟨fun _ => stl (by omega) p3 (by omega), fun _ => ⟨fun _ => ⟨fun _ => stp (i32s (by omega) (by omega)) (by decide), fun y0 => ⟨fun y1 => ?_, fun y1 => ?_⟩⟩, fun _ => ⟨fun _ => ⟨fun y0 => ⟨fun y1 => ?_, fun y1 => ?_⟩, fun _ => stp (i32s (by omega) (by omega)) (by decide)⟩, fun _ => ?_⟩⟩⟩⟩⟩
    · have en : e < 0 := by
        have := ce.2.2.2.1
        have := ce.2.1
        omega
      have p5 : 1 ≤ -b * e := by
        have := Int.mul_pos (show 0 < b by omega) (show 0 < -e by omega)
        rw [Int.mul_neg] at this
        rw [Int.neg_mul]
        omega
      have m6 : (-a * f).natAbs = (a * f).natAbs := by rw [Int.neg_mul, Int.natAbs_neg]
      have m7 : (-b * e).natAbs = (b * e).natAbs := by rw [Int.neg_mul, Int.natAbs_neg]
      refine (stl (u := -a * f) (v := -b * e) (by omega) p5 (by omega)).mono (fun r M' q => ?_)
      exact ⟨q.1, q.2.1, k_Ma_compute_304 q.2.1 q.1 q.2.2⟩
    · have en : 0 < e := by
        have := ce.2.1
        omega
      have p5 : 1 ≤ b * e := Int.mul_pos (show 0 < b by omega) en
      refine (stl (u := a * f) (v := b * e) (by omega) p5 (by omega)).mono (fun r M' q => ?_)
      exact ⟨q.1, q.2.1, k_Ma_compute_304 q.2.1 q.1 q.2.2⟩
    · have en : 0 < e := by
        have := ce.2.2.2.2
        omega
      refine (hF (d + 2) M29 a e ok9 ⟨by omega, by omega⟩ en ⟨by omega, by omega⟩).mono (fun v M76 q => ?_)
      obtain ⟨e76, v0, v1⟩ := q
      subst e76
      refine ⟨⟨by omega, by omega⟩, ok9, k09, (stl (u := v) (v := 1) (by omega) (by omega) (by omega)).mono (fun r M' q => ?_)⟩
      exact ⟨q.1, q.2.1, k_Ma_compute_356 q.2.1 q.1 q.2.2⟩
    · refine (stp (i32s (by omega) (by omega)) (by decide)).mono (fun r M' q => ?_)
      exact ⟨q.1, q.2.1, k_Ma_compute_356 q.2.1 q.1 q.2.2⟩
    · refine k_JL_compare ok9 ⟨by omega, by omega⟩ ⟨by omega, by omega⟩ (fun v3 e3 => ?_)
      have i3 : i32 v3 := by rw [e3]; (repeat' split) <;> exact i32s (by omega) (by omega)
      exact ⟨i3, ok9, k09, rel i3⟩
end MAC
