/-! The reference: reckon and best. -/
section RB
variable {G : mG} {d a V : Nat} {M : mM}
theorem mul9 {x y : Int} (hx : -1000000000 < x ∧ x < 1000000000) (hy : -1000000000 < y ∧ y < 1000000000) : -1000000000000000000 < x * y ∧ x * y < 1000000000000000000 := by
  have h1 : x.natAbs ≤ 999999999 := by omega
  have h2 : y.natAbs ≤ 999999999 := by omega
  have h3 := Nat.mul_le_mul h1 h2
  rw [← Int.natAbs_mul] at h3
  omega
theorem tmod9 {x y : Int} (hy : 0 < y) : -y < Int.tmod x y ∧ Int.tmod x y < y := by
  by_cases hx : 0 ≤ x
  · rw [Int.tmod_eq_emod_of_nonneg hx]
    have b1 := Int.emod_nonneg x (show y ≠ 0 by omega)
    have b2 := Int.emod_lt_of_pos x hy
    omega
  · have e : Int.tmod x y = -(Int.tmod (-x) y) := by rw [Int.neg_tmod]; omega
    rw [e, Int.tmod_eq_emod_of_nonneg (show 0 ≤ -x by omega)]
    have b1 := Int.emod_nonneg (-x) (show y ≠ 0 by omega)
    have b2 := Int.emod_lt_of_pos (-x) hy
    omega
theorem s_MM_reckon {s A B C D p : Int} (hs : 24 ≤ s ∧ s ≤ 28) (h1 : vok 0 A B) (h2 : vok 0 C D) (hp : i32 p) (hO : mOk M) (h : Wd M a) (hV : mI M a 23 = (V : Int)) (hb : V < 16400) : Cv G y_MM_reckon (d + 2) [vr a, vi s, vl A, vl B, vl C, vl D, vi p] M (fun M' => mOk M' ∧ rkQ M a V 0 M') := by
  refine Cv.mono (Q := rkQ M a V 0) ?_ (fun M' t => ⟨t.1.1, t⟩)
  have a1 : -1000000000 < A ∧ A < 1000000000 ∧ 1 ≤ B ∧ B < 1000000000 := by unfold vok at h1; omega
  have a2 : -1000000000 < C ∧ C < 1000000000 ∧ 1 ≤ D ∧ D < 1000000000 := by unfold vok at h2; omega
  have mAD := mul9 (x := A) (y := D) ⟨a1.1, a1.2.1⟩ ⟨by omega, by omega⟩
  have mCB := mul9 (x := C) (y := B) ⟨a2.1, a2.2.1⟩ ⟨by omega, by omega⟩
  have mAC := mul9 (x := A) (y := C) ⟨a1.1, a1.2.1⟩ ⟨by omega, by omega⟩
  have mBD := mul9 (x := B) (y := D) ⟨by omega, by omega⟩ ⟨by omega, by omega⟩
  have pBD : 0 < B * D := Int.mul_pos (by omega) (by omega)
  have iBD : 0 < B * D ∧ i64 (B * D) := ⟨pBD, by omega, by omega⟩
  have stp : ∀ {c : Int}, (c = 7 ∨ c = 8) → Cv G y_MM_stop (d + 1) [vr a, vi c, vi p] M (fun M' => mOk M' ∧ rkQ M a V 0 M') := fun {c} hc => (s_MM_stop ⟨by omega, by omega⟩ hp hO h).mono (fun M2 h2 => ⟨h2.1.1, st_rk (by omega) h2 h⟩)
  refine k_MM_reckon hO ⟨by omega, by omega⟩ ⟨by omega, by omega⟩ ⟨by omega, by omega⟩ ⟨by omega, by omega⟩ ⟨by omega, by omega⟩ hp ⟨fun _ => ⟨h.1.1, s_MM_pushFraction (d := d) ⟨by omega, by omega⟩ iBD hp hO h hV hb⟩, fun q1 => ⟨fun _ => ⟨h.1.1, s_MM_pushFraction (d := d) ⟨by omega, by omega⟩ iBD hp hO h hV hb⟩, fun q2 => ⟨fun _ => ⟨h.1.1, s_MM_pushFraction (d := d) ⟨by omega, by omega⟩ iBD hp hO h hV hb⟩, fun q3 => ⟨fun q4 => ⟨fun q5 => ⟨h.1.1, (stp (Or.inl rfl)).mono (fun M2 t => ⟨t.1, k_MM_reckon_156 t.1 t.2⟩)⟩, fun q5 v hv v2 hv2 => ⟨h.1.1, (s_MM_pushFraction (d := d) ?_ ?_ hp hO h hV hb).mono (fun M2 t => ⟨t.1, k_MM_reckon_156 t.1 t.2⟩)⟩⟩, fun q4 => ⟨fun q5 => ⟨fun q6 => ⟨?_, ?_, fun v hv => ⟨h.1.1, (s_MM_push ?_ ⟨by omega, by omega⟩ hO h hV hb).mono (fun M2 t => ⟨t.1, k_MM_reckon_228 t.1 (t.2.rk (Or.inl ?_))⟩)⟩⟩, fun q6 => ⟨h.1.1, (stp (Or.inl rfl)).mono (fun M2 t => ⟨t.1, k_MM_reckon_228 t.1 t.2⟩)⟩⟩, fun q5 => ⟨h.1.1, (stp (Or.inr rfl)).mono (fun M2 t => ⟨t.1, k_MM_reckon_228 t.1 t.2⟩)⟩⟩⟩⟩⟩⟩
  · by_cases y : 0 ≤ cmpL C 0
    · rw [if_pos y] at hv; omega
    · rw [if_neg y, Int.neg_mul] at hv; omega
  · have c0 : C ≠ 0 := fun y => q5 ((cmpz C 0).2.2.2.1.2 y)
    by_cases y : 0 ≤ cmpL C 0
    · rw [if_pos y] at hv2
      have := (cmpz C 0).1.1 y
      have : 0 < C * B := Int.mul_pos (by omega) (by omega)
      exact ⟨by omega, by omega, by omega⟩
    · rw [if_neg y] at hv2
      have : ¬ 0 ≤ C := fun z => y ((cmpz C 0).1.2 z)
      have : 0 < (-C) * B := Int.mul_pos (by omega) (by omega)
      have e := Int.neg_mul C B
      exact ⟨by omega, by omega, by omega⟩
  · have := (cmpz C 0).2.2.2.2.1 q6
    omega
  · have := (cmpz C 0).2.2.2.2.1 q6
    exact ⟨fun _ => by omega, fun _ => by omega⟩
  · have c0 := (cmpz C 0).2.2.2.2.1 q6
    have t9 := tmod9 (x := A) c0
    by_cases y : 0 ≤ cmpL (Int.tmod A C) 0
    · rw [if_pos y] at hv; exact ⟨by omega, by omega⟩
    · rw [if_neg y] at hv; exact ⟨by omega, by omega⟩
  · have c0 := (cmpz C 0).2.2.2.2.1 q6
    have t9 := tmod9 (x := A) c0
    by_cases y : 0 ≤ cmpL (Int.tmod A C) 0
    · rw [if_pos y] at hv
      have := (cmpz (Int.tmod A C) 0).1.1 y
      omega
    · rw [if_neg y] at hv
      have : ¬ 0 ≤ Int.tmod A C := fun z => y ((cmpz (Int.tmod A C) 0).1.2 z)
      omega
theorem s_MM_best {k m : Nat} {l : Int} (hl : i32 l) (hm : 1 ≤ m) (hO : mOk M) (h : Wd M a) (hV : mI M a 23 = (V : Int)) (hb : V < 16400) (hk : k + m ≤ 16400) (hv : ∀ j, k ≤ j → j < k + m → vok 0 (mL M (a + 97) j) (mL M (a + 98) j)) : Cv G y_MM_best (d + 1) [vr a, vi l, vi k, vi m] M (fun M' => mOk M' ∧ rkQ M a V 0 M') := by
  refine Cv.mono (Q := rkQ M a V 0) ?_ (fun M' t => ⟨t.1.1, t⟩)
  have r21 : mR M a 21 = a + 97 := h.1.2.2.2.2.1.2.2.2.2.2.2.1
  have r22 : mR M a 22 = a + 98 := h.1.2.2.2.2.1.2.2.2.2.2.2.2.1
  have n97 : mK M (a + 97) = 33 ∧ mN M (a + 97) = 16400 := h.1.2.2.2.2.2.2.2.1.1
  have n98 : mK M (a + 98) = 33 ∧ mN M (a + 98) = 16400 := h.1.2.2.2.2.2.2.2.1.2.1
  refine k_MM_best hO hl ⟨by omega, by omega⟩ ⟨by omega, by omega⟩ ?_
  suffices H : ∀ (c i f : Nat), c + i = k + m → k ≤ f → f < k + m → k ≤ i → h_MM_best_8 G d a l k m f i M (rkQ M a V 0) from
    H (m - 1) (k + 1) k (by omega) (by omega) (by omega) (by omega)
  intro c
  induction c with
  | zero =>
    intro i f hc f1 f2 hi
    refine k_MM_best_8 hO hl ⟨by omega, by omega⟩ ⟨by omega, by omega⟩ ⟨by omega, by omega⟩ ⟨by omega, by omega⟩ ?_
    rw [r21, r22, n97.2, n98.2, Int.toNat_natCast]
    have hf := hv f f1 f2
    refine ⟨⟨by omega, by omega⟩, fun _ => ⟨h.1.1, n97.1, by omega, n98.1, by omega, (s_MM_push (hO _ _).2 (hO _ _).2 hO h hV hb).mono (fun M2 t => ⟨t.1, t.2.rk hf⟩)⟩, fun q => by omega⟩
  | succ c ih =>
    intro i f hc f1 f2 hi
    refine k_MM_best_8 hO hl ⟨by omega, by omega⟩ ⟨by omega, by omega⟩ ⟨by omega, by omega⟩ ⟨by omega, by omega⟩ ?_
    rw [r21, r22, n97.2, n98.2, Int.toNat_natCast, Int.toNat_natCast]
    have hf := hv f f1 f2
    have hi' := hv i hi (by omega)
    unfold vok at hf hi'
    have m1 := mul9 (x := mL M (a + 97) i) (y := mL M (a + 98) f) ⟨by omega, by omega⟩ ⟨by omega, by omega⟩
    have m2 := mul9 (x := mL M (a + 97) f) (y := mL M (a + 98) i) ⟨by omega, by omega⟩ ⟨by omega, by omega⟩
    refine ⟨⟨by omega, by omega⟩, fun q => by omega, fun _ => ⟨h.1.1, n97.1, by omega, n98.1, by omega, by omega, by omega, ⟨fun _ _ => ⟨by omega, by omega⟩, fun _ => ⟨by omega, by omega⟩⟩, fun v hv2 => ?_⟩⟩
    by_cases y : v = (f : Int)
    · rw [y]
      exact ih (i + 1) f (by omega) f1 f2 (by omega)
    · have : v = (i : Int) := by
        rw [hv2] at y ⊢
        split
        · rename_i z; rw [if_pos z] at y; exact absurd rfl y
        · rfl
      rw [this]
      exact ih (i + 1) i (by omega) hi (by omega) (by omega)
end RB
