/-! The reference's values, exactly: divisor, pushFraction, reckon, best. -/
section RKX
variable {G : mG} {d a V : Nat} {M : mM}
/-- a value has been reckoned, or a fault told: v -/
def rkX (M : mM) (a V : Nat) (t : Int) (v : vrs) (M' : mM) : Prop := rkQ M a V t M' ∧ ((v.1 ≠ 0 ∧ mI M' a 16 = v.1 ∧ mI M' a 17 = v.2.1) ∨ (mI M' a 16 = mI M a 16 ∧ v = vr9 t (mL M' (a + 97) V) (mL M' (a + 98) V)))
theorem psQ.rkx {t A B : Int} {v : vrs} {M' : mM} (h : psQ M a V A B M') (hv : vok t A B) (e : v = vr9 t A B) : rkX M a V t v M' := by
  refine ⟨h.rk hv, Or.inr ⟨h.2.2.1 16 (by omega), ?_⟩⟩
  rw [h.2.2.2.1 V, h.2.2.2.2 V, if_pos rfl, if_pos rfl]
  exact e
theorem st_rkx {t c p : Int} {M' : mM} (hc : c ≠ 0) (h : Mv (fun _ => False) (fun x => x = a) M a M' ∧ mI M' a 16 = c ∧ mI M' a 17 = p ∧ ∀ i, i ≠ 16 → i ≠ 17 → mI M' a i = mI M a i) (w : Wd M a) : rkX M a V t (c, p, 0) M' := ⟨st_rk hc h w, Or.inl ⟨hc, h.2.1, h.2.2.1⟩⟩
theorem gcd_st {x y : Int} (hx : 0 ≤ x) (hy : 0 < y) : Int.gcd y (x % y) = Int.gcd x y := by
  obtain ⟨p, rfl⟩ : ∃ p : Nat, x = p := ⟨x.toNat, by omega⟩
  obtain ⟨q, rfl⟩ : ∃ q : Nat, y = q := ⟨y.toNat, by omega⟩
  have e : (p : Int) % (q : Int) = ((p % q : Nat) : Int) := rfl
  rw [e, Int.gcd_natCast_natCast, Int.gcd_natCast_natCast, Nat.gcd_comm p q, Nat.gcd_rec q p, Nat.gcd_comm]
theorem x_MM_divisor {A B : Int} (hA : -9223372036854775807 ≤ A ∧ A ≤ 9223372036854775807) (hB : 0 < B ∧ i64 B) (hO : mOk M) : Cj G y_MM_divisor d [vl A, vl B] M (fun x M' => M' = M ∧ (1 ≤ x ∧ x ≤ B ∧ x ∣ A ∧ x ∣ B) ∧ x = (Int.gcd A B : Int)) := by
  refine k_MM_divisor hO ⟨by omega, by omega⟩ hB.2 (fun v hv => ?_)
  have cz : ∀ z : Int, (0 ≤ cmpL z 0 ↔ 0 ≤ z) ∧ (cmpL z 0 ≤ 0 ↔ z ≤ 0) := fun z => by unfold cmpL; split <;> (try split) <;> omega
  have hg : Int.gcd v B = Int.gcd A B := by
    split at hv
    · rw [hv]
    · rw [hv, Int.neg_gcd]
  have hv' : 0 ≤ v ∧ i64 v ∧ ∀ x : Int, x ∣ v → x ∣ A := by
    by_cases q : 0 ≤ A
    · rw [if_pos ((cz A).1.2 q)] at hv
      subst hv
      exact ⟨q, ⟨by omega, by omega⟩, fun x hx => hx⟩
    · rw [if_neg (fun w => q ((cz A).1.1 w))] at hv
      subst hv
      exact ⟨by omega, ⟨by omega, by omega⟩, fun x hx => Int.dvd_neg.1 hx⟩
  suffices H : ∀ (c : Nat) (x y : Int), y ≤ c → 0 ≤ y → 0 ≤ x → 0 < x + y → i64 x → i64 y → (y = 0 → x ≤ B) → y ≤ B → (∀ z : Int, z ∣ x → z ∣ y → z ∣ A ∧ z ∣ B) → Int.gcd x y = Int.gcd A B → h_MM_divisor_17 G d x y M (fun x M' => M' = M ∧ (1 ≤ x ∧ x ≤ B ∧ x ∣ A ∧ x ∣ B) ∧ x = (Int.gcd A B : Int)) from
    H B.toNat v B (by omega) (by omega) hv'.1 (by omega) hv'.2.1 hB.2 (by omega) (by omega) (fun z z1 z2 => ⟨hv'.2.2 z z1, z2⟩) hg
  intro c
  induction c with
  | zero =>
    intro x y h1 h2 h3 h4 h5 h6 h7 h8 h9 h10
    have y0 : y = 0 := by omega
    refine k_MM_divisor_17 hO h5 h6 ⟨fun _ => ⟨rfl, ⟨by omega, h7 y0, ?_⟩, ?_⟩, fun q => absurd ((cz y).2.2 (by omega)) q⟩
    · exact h9 x (Int.dvd_refl x) (by rw [y0]; exact Int.dvd_zero x)
    · rw [← h10, y0, Int.gcd_zero_right]; omega
  | succ c ih =>
    intro x y h1 h2 h3 h4 h5 h6 h7 h8 h9 h10
    refine k_MM_divisor_17 hO h5 h6 ⟨fun q => ?_, fun q => ?_⟩
    · have y0 : y = 0 := by have := (cz y).2.1 q; omega
      exact ⟨rfl, ⟨by omega, h7 y0, h9 x (Int.dvd_refl x) (by rw [y0]; exact Int.dvd_zero x)⟩, by rw [← h10, y0, Int.gcd_zero_right]; omega⟩
    · have yp : 0 < y := by
        by_cases w : y ≤ 0
        · exact absurd ((cz y).2.2 w) q
        · omega
      have e1 : Int.tmod x y = x % y := Int.tmod_eq_emod_of_nonneg h3
      have b1 := Int.emod_nonneg x (show y ≠ 0 by omega)
      have b2 := Int.emod_lt_of_pos x yp
      refine ⟨by omega, ?_⟩
      rw [e1]
      refine ih y (x % y) (by omega) b1 (by omega) (by omega) h6 ⟨by omega, by have := h6.2; omega⟩ (fun _ => h8) (by omega) (fun z z1 z2 => h9 z ?_ z1) (by rw [gcd_st h3 yp]; exact h10)
      have := Int.mul_ediv_add_emod x y
      rw [← this]
      exact Int.dvd_add (Int.dvd_trans z1 (Int.dvd_mul_right y _)) z2
theorem x_MM_pushFraction {A B p : Int} (hA : -9223372036854775807 ≤ A ∧ A ≤ 9223372036854775807) (hB : 0 < B ∧ i64 B) (hp : i32 p) (hO : mOk M) (h : Wd M a) (hV : mI M a 23 = (V : Int)) (hb : V < 16400) : Cv G y_MM_pushFraction (d + 1) [vr a, vl A, vl B, vi p] M (fun M' => mOk M' ∧ rkX M a V 0 (vst A B p) M') := by
  refine Cv.mono (Q := rkX M a V 0 (vst A B p)) ?_ (fun M' t => ⟨t.1.1.1, t⟩)
  refine k_MM_pushFraction hO ⟨by omega, by omega⟩ hB.2 hp ((x_MM_divisor hA hB hO).mono (fun x M1 h1 => ?_))
  obtain ⟨e1, ⟨x1, x2, ⟨c, hc⟩, ⟨e, he⟩⟩, hgc⟩ := h1
  subst e1
  have dA : Int.tdiv A x = c := by rw [hc]; exact Int.mul_tdiv_cancel_left c (by omega)
  have dB : Int.tdiv B x = e := by rw [he]; exact Int.mul_tdiv_cancel_left e (by omega)
  have c1 : 0 ≤ c → c ≤ A := fun y => by
    have := Int.mul_le_mul_of_nonneg_right x1 y
    rw [← hc] at this
    omega
  have c2 : c ≤ 0 → A ≤ c := fun y => by
    have := Int.mul_le_mul_of_nonneg_right x1 (show 0 ≤ -c by omega)
    rw [Int.mul_neg, Int.mul_neg, ← hc] at this
    omega
  have e0 : 0 < e := by
    by_cases y : 0 < e
    · exact y
    · have := Int.mul_le_mul_of_nonneg_left (show e ≤ 0 by omega) (show 0 ≤ x by omega)
      rw [← he] at this
      omega
  have e1 : e ≤ B := by
    have := Int.mul_le_mul_of_nonneg_right x1 (show 0 ≤ e by omega)
    rw [← he] at this
    omega
  have ic : i64 c := ⟨by omega, by omega⟩
  have ie : i64 e := ⟨by omega, by have := hB.2.2; omega⟩
  have ev : vst A B p = if 1000000000 ≤ c ∨ c ≤ -1000000000 ∨ 1000000000 ≤ e then (6, p, 0) else (0, c, e) := by
    unfold vst
    rw [← hgc]
    have cA : A / x = c := by rw [hc]; exact Int.mul_ediv_cancel_left c (by omega)
    have cB : B / x = e := by rw [he]; exact Int.mul_ediv_cancel_left e (by omega)
    rw [cA, cB]
  have q1 := (cmpz c 1000000000).1
  have q2 := (cmpz c (-1000000000)).2.1
  have q3 := (cmpz e 1000000000).2.2.1
  rw [dA, dB]
  refine ⟨⟨by omega, by have := hB.2.2; omega⟩, hO, by omega, by omega, ic, fun _ _ => ie, fun q => ⟨h.1.1, (s_MM_stop ⟨by omega, by omega⟩ hp hO h).mono (fun M2 h2 => ?_)⟩, fun q => ⟨h.1.1, (s_MM_push ic ie hO h hV hb).mono (fun M2 h2 => ⟨h2.1, h2.2.rkx (Or.inl ?_) ?_⟩)⟩⟩
  · obtain ⟨m2, f1, f2, f3⟩ := id h2
    refine ⟨m2.1, m2.2.1.1.1, (s_MM_push ic ie m2.1 m2.2.1 (by rw [f3 23 (by omega) (by omega)]; exact hV) hb).mono (fun M3 h3 => ⟨h3.1, ?_⟩)⟩
    obtain ⟨k1, k2, k3, -⟩ := st_rk (V := V) (t := 0) (by omega) h2 h
    obtain ⟨g1, g2, g3, g4, g5⟩ := h3.2
    rw [q1, q2, q3] at q
    rw [ev, if_pos (by omega)]
    exact ⟨⟨k1.trans g1, fun i i1 i2 i3 => (g3 i i3).trans (k2 i i1 i2 i3), fun k hk => ⟨by rw [g4, if_neg (by omega)]; exact (k3 k hk).1, by rw [g5, if_neg (by omega)]; exact (k3 k hk).2⟩, Or.inl (by rw [g3 16 (by omega), f1]; decide)⟩, Or.inl ⟨by simp, by rw [g3 16 (by omega), f1], by rw [g3 17 (by omega), f2]⟩⟩
  · rw [q1, q2, q3] at q
    omega
  · rw [q1, q2, q3] at q
    rw [ev, if_neg (by omega)]
    rfl
theorem x_MM_reckon {s A B C D p : Int} (hs : 24 ≤ s ∧ s ≤ 28) (h1 : vok 0 A B) (h2 : vok 0 C D) (hp : i32 p) (hO : mOk M) (h : Wd M a) (hV : mI M a 23 = (V : Int)) (hb : V < 16400) : Cv G y_MM_reckon (d + 2) [vr a, vi s, vl A, vl B, vl C, vl D, vi p] M (fun M' => mOk M' ∧ rkX M a V 0 (vop s A B C D p) M') := by
  refine Cv.mono (Q := rkX M a V 0 (vop s A B C D p)) ?_ (fun M' t => ⟨t.1.1.1, t⟩)
  have a1 : -1000000000 < A ∧ A < 1000000000 ∧ 1 ≤ B ∧ B < 1000000000 := by unfold vok at h1; omega
  have a2 : -1000000000 < C ∧ C < 1000000000 ∧ 1 ≤ D ∧ D < 1000000000 := by unfold vok at h2; omega
  have mAD := mul9 (x := A) (y := D) ⟨a1.1, a1.2.1⟩ ⟨by omega, by omega⟩
  have mCB := mul9 (x := C) (y := B) ⟨a2.1, a2.2.1⟩ ⟨by omega, by omega⟩
  have mAC := mul9 (x := A) (y := C) ⟨a1.1, a1.2.1⟩ ⟨by omega, by omega⟩
  have mBD := mul9 (x := B) (y := D) ⟨by omega, by omega⟩ ⟨by omega, by omega⟩
  have pBD : 0 < B * D := Int.mul_pos (by omega) (by omega)
  have iBD : 0 < B * D ∧ i64 (B * D) := ⟨pBD, by omega, by omega⟩
  have stp : ∀ {c : Int}, (c = 7 ∨ c = 8) → vop s A B C D p = (c, p, 0) → Cv G y_MM_stop (d + 1) [vr a, vi c, vi p] M (fun M' => mOk M' ∧ rkX M a V 0 (vop s A B C D p) M') := fun {c} hc ec => (s_MM_stop ⟨by omega, by omega⟩ hp hO h).mono (fun M2 h2 => ⟨h2.1.1, by rw [ec]; exact st_rkx (by omega) h2 h⟩)
  have pf : ∀ {U W : Int}, (-9223372036854775807 ≤ U ∧ U ≤ 9223372036854775807) → (0 < W ∧ i64 W) → vop s A B C D p = vst U W p → Cv G y_MM_pushFraction (d + 1) [vr a, vl U, vl W, vi p] M (fun M' => mOk M' ∧ rkX M a V 0 (vop s A B C D p) M') := fun hU hW e => by rw [e]; exact x_MM_pushFraction (d := d) hU hW hp hO h hV hb
  have cz0 := (cmpz C 0).2.2.2.1
  have cz1 := (cmpz C 0).1
  have cz2 := (cmpz C 0).2.2.2.2
  have bz := (cmpz B 1).2.2.2.1
  have dz := (cmpz D 1).2.2.2.1
  refine k_MM_reckon hO ⟨by omega, by omega⟩ ⟨by omega, by omega⟩ ⟨by omega, by omega⟩ ⟨by omega, by omega⟩ ⟨by omega, by omega⟩ hp ⟨fun e1 => ⟨h.1.1, pf ⟨by omega, by omega⟩ iBD (by subst e1; rfl)⟩, fun q1 => ⟨fun e1 => ⟨h.1.1, pf ⟨by omega, by omega⟩ iBD (by subst e1; rfl)⟩, fun q2 => ⟨fun e1 => ⟨h.1.1, pf ⟨by omega, by omega⟩ iBD (by subst e1; rfl)⟩, fun q3 => ⟨fun q4 => ⟨fun q5 => ⟨h.1.1, (stp (Or.inl rfl) (by
      have c0 := cz0.mp q5
      subst q4 c0
      unfold vop
      simp)).mono (fun M2 t => ⟨t.1, k_MM_reckon_156 t.1 t.2⟩)⟩, fun q5 v hv v2 hv2 => ⟨h.1.1, (pf ?_ ?_ ?_).mono (fun M2 t => ⟨t.1, k_MM_reckon_156 t.1 t.2⟩)⟩⟩, fun q4 => ⟨fun q5 => ⟨fun q6 => ⟨?_, ?_, fun v hv => ⟨h.1.1, (s_MM_push ?_ ⟨by omega, by omega⟩ hO h hV hb).mono (fun M2 t => ⟨t.1, k_MM_reckon_228 t.1 (t.2.rkx (Or.inl ?_) ?_)⟩)⟩⟩, fun q6 => ⟨h.1.1, (stp (Or.inl rfl) (by
      have s28 : s = 28 := by omega
      subst s28
      have b1 : B = 1 ∧ D = 1 := by omega
      have c0 : C ≤ 0 := by omega
      unfold vop
      simp [b1.1, b1.2, c0])).mono (fun M2 t => ⟨t.1, k_MM_reckon_228 t.1 t.2⟩)⟩⟩, fun q5 => ⟨h.1.1, (stp (Or.inr rfl) (by
      have s28 : s = 28 := by omega
      subst s28
      have b1 : B ≠ 1 ∨ D ≠ 1 := by omega
      unfold vop
      simp [b1])).mono (fun M2 t => ⟨t.1, k_MM_reckon_228 t.1 t.2⟩)⟩⟩⟩⟩⟩⟩
  · by_cases y : 0 ≤ cmpL C 0
    · rw [if_pos y] at hv; omega
    · rw [if_neg y, Int.neg_mul] at hv; omega
  · have c0 : C ≠ 0 := fun y => q5 ((cmpz C 0).2.2.2.1.2 y)
    by_cases y : 0 ≤ cmpL C 0
    · rw [if_pos y] at hv2
      have := (cmpz C 0).1.1 y
      have : 0 < C * B := Int.mul_pos (by omega) (by omega)
      exact ⟨by omega, by omega, by omega⟩
    · rw [if_neg y] at hv2
      have : ¬ 0 ≤ C := fun z => y ((cmpz C 0).1.2 z)
      have : 0 < (-C) * B := Int.mul_pos (by omega) (by omega)
      have e := Int.neg_mul C B
      exact ⟨by omega, by omega, by omega⟩
  · subst q4
    have c0 : C ≠ 0 := fun y => q5 (cz0.mpr y)
    unfold vop
    by_cases y : 0 ≤ cmpL C 0
    · have c1 : 0 < C := by have := cz1.mp y; omega
      rw [if_pos y] at hv hv2
      rw [hv, hv2, Int.mul_comm C B]
      simp [c0, c1]
    · have c1 : ¬ 0 < C := fun u => y (cz1.mpr (by omega))
      rw [if_neg y] at hv hv2
      rw [hv, hv2, Int.neg_mul, Int.neg_mul, Int.mul_comm C B]
      simp [c0, c1]
  · have := (cmpz C 0).2.2.2.2.1 q6
    omega
  · have := (cmpz C 0).2.2.2.2.1 q6
    exact ⟨fun _ => by omega, fun _ => by omega⟩
  · have c0 := (cmpz C 0).2.2.2.2.1 q6
    have t9 := tmod9 (x := A) c0
    by_cases y : 0 ≤ cmpL (Int.tmod A C) 0
    · rw [if_pos y] at hv; exact ⟨by omega, by omega⟩
    · rw [if_neg y] at hv; exact ⟨by omega, by omega⟩
  · have c0 := (cmpz C 0).2.2.2.2.1 q6
    have t9 := tmod9 (x := A) c0
    by_cases y : 0 ≤ cmpL (Int.tmod A C) 0
    · rw [if_pos y] at hv
      have := (cmpz (Int.tmod A C) 0).1.1 y
      omega
    · rw [if_neg y] at hv
      have : ¬ 0 ≤ Int.tmod A C := fun z => y ((cmpz (Int.tmod A C) 0).1.2 z)
      omega
  · have s28 : s = 28 := by omega
    subst s28
    have c0 := cz2.mp q6
    have b1 : B = 1 ∧ D = 1 := by omega
    have c1 : ¬ C ≤ 0 := by omega
    have em : v = A % C := by
      have e0 := Int.mul_tdiv_add_tmod A C
      have t9 := tmod9 (x := A) c0
      by_cases y : 0 ≤ cmpL (Int.tmod A C) 0
      · rw [if_pos y] at hv
        have t0 := (cmpz (Int.tmod A C) 0).1.1 y
        have e2 : (Int.tmod A C + C * Int.tdiv A C) % C = Int.tmod A C := by
          rw [Int.add_mul_emod_self_left]
          exact Int.emod_eq_of_lt t0 t9.2
        rw [Int.add_comm, e0] at e2
        rw [hv, e2]
      · rw [if_neg y] at hv
        have t0 : ¬ 0 ≤ Int.tmod A C := fun z => y ((cmpz (Int.tmod A C) 0).1.2 z)
        have e1 : A = (Int.tmod A C + C) + C * (Int.tdiv A C - 1) := by
          rw [Int.mul_sub]
          omega
        have e2 : ((Int.tmod A C + C) + C * (Int.tdiv A C - 1)) % C = Int.tmod A C + C := by
          rw [Int.add_mul_emod_self_left]
          exact Int.emod_eq_of_lt (by omega) (by omega)
        rw [← e1] at e2
        rw [hv, e2]
    unfold vop
    rw [em]
    simp [b1.1, b1.2, c1, vr9]
/-- the best of the values from k on, n + 1 of them; x = 14 the least, 15 the most -/
def bsq (x : Int) (A B : Nat → Int) (k : Nat) : Nat → vrs
  | 0 => (0, A k, B k)
  | n + 1 => vbs x (bsq x A B k n).2.1 (bsq x A B k n).2.2 (A (k + n + 1)) (B (k + n + 1))
theorem x_MM_best {k m : Nat} {l : Int} (hl : i32 l) (hm : 1 ≤ m) (hO : mOk M) (h : Wd M a) (hV : mI M a 23 = (V : Int)) (hb : V < 16400) (hk : k + m ≤ 16400) (hv : ∀ j, k ≤ j → j < k + m → vok 0 (mL M (a + 97) j) (mL M (a + 98) j)) : Cv G y_MM_best (d + 1) [vr a, vi l, vi k, vi m] M (fun M' => mOk M' ∧ rkX M a V 0 (bsq (if l = 0 then 15 else 14) (mL M (a + 97)) (mL M (a + 98)) k (m - 1)) M') := by
  refine Cv.mono (Q := rkX M a V 0 (bsq (if l = 0 then 15 else 14) (mL M (a + 97)) (mL M (a + 98)) k (m - 1))) ?_ (fun M' t => ⟨t.1.1.1, t⟩)
  have r21 : mR M a 21 = a + 97 := h.1.2.2.2.2.1.2.2.2.2.2.2.1
  have r22 : mR M a 22 = a + 98 := h.1.2.2.2.2.1.2.2.2.2.2.2.2.1
  have n97 : mK M (a + 97) = 33 ∧ mN M (a + 97) = 16400 := h.1.2.2.2.2.2.2.2.1.1
  have n98 : mK M (a + 98) = 33 ∧ mN M (a + 98) = 16400 := h.1.2.2.2.2.2.2.2.1.2.1
  refine k_MM_best hO hl ⟨by omega, by omega⟩ ⟨by omega, by omega⟩ ?_
  suffices H : ∀ (c i f : Nat), c + i = k + m → k ≤ f → f < k + m → k ≤ i → k < i → bsq (if l = 0 then 15 else 14) (mL M (a + 97)) (mL M (a + 98)) k (i - k - 1) = (0, mL M (a + 97) f, mL M (a + 98) f) → h_MM_best_8 G d a l k m f i M (rkX M a V 0 (bsq (if l = 0 then 15 else 14) (mL M (a + 97)) (mL M (a + 98)) k (m - 1))) from
    H (m - 1) (k + 1) k (by omega) (by omega) (by omega) (by omega) (by omega) (by rw [show k + 1 - k - 1 = 0 by omega]; rfl)
  intro c
  induction c with
  | zero =>
    intro i f hc f1 f2 hi hki hb9
    refine k_MM_best_8 hO hl ⟨by omega, by omega⟩ ⟨by omega, by omega⟩ ⟨by omega, by omega⟩ ⟨by omega, by omega⟩ ?_
    rw [r21, r22, n97.2, n98.2, Int.toNat_natCast]
    have hf := hv f f1 f2
    refine ⟨⟨by omega, by omega⟩, fun _ => ⟨h.1.1, n97.1, by omega, n98.1, by omega, (s_MM_push (hO _ _).2 (hO _ _).2 hO h hV hb).mono (fun M2 t => ⟨t.1, t.2.rkx hf (by rw [show m - 1 = i - k - 1 by omega, hb9]; rfl)⟩)⟩, fun q => by omega⟩
  | succ c ih =>
    intro i f hc f1 f2 hi hki hb9
    refine k_MM_best_8 hO hl ⟨by omega, by omega⟩ ⟨by omega, by omega⟩ ⟨by omega, by omega⟩ ⟨by omega, by omega⟩ ?_
    rw [r21, r22, n97.2, n98.2, Int.toNat_natCast, Int.toNat_natCast]
    have hf := hv f f1 f2
    have hi' := hv i hi (by omega)
    unfold vok at hf hi'
    have m1 := mul9 (x := mL M (a + 97) i) (y := mL M (a + 98) f) ⟨by omega, by omega⟩ ⟨by omega, by omega⟩
    have m2 := mul9 (x := mL M (a + 97) f) (y := mL M (a + 98) i) ⟨by omega, by omega⟩ ⟨by omega, by omega⟩
    refine ⟨⟨by omega, by omega⟩, fun q => by omega, fun _ => ⟨h.1.1, n97.1, by omega, n98.1, by omega, by omega, by omega, ⟨fun _ _ => ⟨by omega, by omega⟩, fun _ => ⟨by omega, by omega⟩⟩, fun v hv2 => ?_⟩⟩
    have stp : bsq (if l = 0 then 15 else 14) (mL M (a + 97)) (mL M (a + 98)) k (i + 1 - k - 1) = vbs (if l = 0 then 15 else 14) (mL M (a + 97) f) (mL M (a + 98) f) (mL M (a + 97) i) (mL M (a + 98) i) := by
      rw [show i + 1 - k - 1 = (i - k - 1) + 1 by omega, bsq, hb9, show k + (i - k - 1) + 1 = i by omega]
    have cz := cmpz (mL M (a + 97) i * mL M (a + 98) f - mL M (a + 97) f * mL M (a + 98) i) 0
    clear m1 m2 hf hi'
    split at hv2
    · rename_i z
      rw [hv2]
      refine ih (i + 1) f (by omega) f1 f2 (by omega) (by omega) ?_
      rw [stp]
      unfold vbs
      by_cases l0 : l = 0
      · rw [if_pos l0, if_neg (by decide), if_neg (by omega)]
      · rw [if_neg l0, if_pos rfl, if_neg (by omega)]
    · rename_i z
      rw [hv2]
      refine ih (i + 1) i (by omega) hi (by omega) (by omega) (by omega) ?_
      rw [stp]
      unfold vbs
      by_cases l0 : l = 0
      · rw [if_pos l0, if_neg (by decide), if_pos (by omega)]
      · rw [if_neg l0, if_pos rfl, if_pos (by omega)]
end RKX
