section
section
/-! The reference's fractions. -/
def Ft (M : mM) (f r : Nat) : Prop := Fk M f ∧ Wh M (f + 1) r ∧ Wh M (f + 3) r
abbrev fS (f : Nat) : Nat → Prop := fun x => f ≤ x ∧ x ≤ f + 4
theorem Fq.ft {M : mM} {f r : Nat} (h : Fq M f r) : Ft M f r := ⟨h.1, h.2.1.1, h.2.2.1.1⟩
theorem Ft.out {S : Nat → Prop} {M M' : mM} {f r : Nat} (h : Ft M f r) (k : FI S M M') (hs : ∀ x, S x → x < f ∨ f + 4 < x) : Ft M' f r :=
  ⟨h.1.fi k, h.2.1.out k (fun q => by have := hs _ q; omega), h.2.2.out k (fun q => by have := hs _ q; omega)⟩
theorem Fc.out {S : Nat → Prop} {M M' : mM} {f r : Nat} (c : Fc M f) (h : Fq M f r) (k : FI S M M') (hs : ∀ x, S x → x < f ∨ f + 4 < x) : Fc M' f := by
  have e := h.out k hs
  unfold Fc xn at c ⊢
  rw [e.2.2.2.1, e.2.2.2.2.1, e.2.2.2.2.2]
  exact c
theorem sn_zero {M : mM} {f : Nat} : sn M f = 0 ↔ wv M (f + 1) = 0 := by
  unfold sn
  split <;> omega
section FS
variable {G : mG} {d a b r rb : Nat} {M : mM}
theorem s_MF_isZero (hO : mOk M) (hA : Fq M a r) : Ci G y_MF_isZero (d + 1) [vr a] M (fun x M' => M' = M ∧ x = if sn M a = 0 then 1 else 0) := by
  refine k_MF_isZero hO ?_
  rw [hA.1.2.1]
  refine ⟨hA.1.1, hA.2.1.1.1, (s_MW_isZero hO hA.2.1.1).mono (fun x M1 h1 => ?_)⟩
  obtain ⟨e1, hx⟩ := h1
  subst e1
  have hz := hA.2.1.zero
  have hx' : x = if sn M1 a = 0 then 1 else 0 := by
    rw [hx]
    by_cases q : mI M1 (a + 1) 1 = 0
    · rw [if_pos q, if_pos (sn_zero.2 (hz.1 q))]
    · rw [if_neg q, if_neg (fun w => q (hz.2 (sn_zero.1 w)))]
  have h01 : x = 0 ∨ x = 1 := by split at hx' <;> omega
  exact ⟨⟨by omega, by omega⟩, hO, h01, rfl, hx'⟩
theorem s_MF_set {j k : Int} (hj : i64 j) (hj2 : -9223372036854775808 < j) (hk : i64 k) (hk0 : 0 < k) (hO : mOk M) (hA : Ft M a r) (hr : 3 ≤ r) : Cv G y_MF_set (d + 1) [vr a, vl j, vl k] M (fun M' => mOk M' ∧ FI (fS a) M M' ∧ Fq M' a r ∧ sn M' a = j ∧ sd M' a = k ∧ (j = 0 → mI M' a 2 = 0)) := by
  unfold i64 at hj hk
  refine k_MF_set hO hj hk (fun v hv => ⟨hA.1.1, fun M1 e1 w hw => ?_⟩)
  have hv' : v = if 0 ≤ j then 0 else 1 := by
    rw [hv]; unfold cmpL
    by_cases q : 0 ≤ j
    · rw [if_pos q, if_pos]; split <;> (try split) <;> omega
    · rw [if_neg q, if_neg]; split <;> (try split) <;> omega
  have hw' : w = if 0 ≤ j then j else -j := by
    rw [hw]; unfold cmpL
    by_cases q : 0 ≤ j
    · rw [if_pos q, if_pos]; split <;> (try split) <;> omega
    · rw [if_neg q, if_neg]; split <;> (try split) <;> omega
  have h01 : v = 0 ∨ v = 1 := by split at hv' <;> omega
  have f1 : FI (fun x => x = a) M M1 := by rw [e1]; exact FI.ui rfl
  have o1 : mOk M1 := by rw [e1]; exact mOk_UI hO ⟨by omega, by omega⟩
  have v1 : mI M1 a 2 = v := by rw [e1, mI_UI, if_pos ⟨rfl, rfl⟩]
  have A1 : Fk M1 a := hA.1.fi f1
  have t1 := hA.2.1.out f1 (by omega)
  have b1 := hA.2.2.out f1 (by omega)
  rw [A1.2.1]
  refine ⟨t1.1, (s_MW_set (by split at hw' <;> omega) (by split at hw' <;> omega) ⟨by split at hw' <;> omega, by split at hw' <;> omega⟩ o1 t1 hr).mono (fun M2 h2 => ?_)⟩
  obtain ⟨g1, g2, g3, g4⟩ := h2
  have A2 := A1.fi g2
  have b2 := b1.out g2 (by omega)
  refine ⟨g1, A2.1, ?_⟩
  rw [A2.2.2]
  refine ⟨b2.1, (s_MW_set (by omega) (by omega) hk g1 b2 hr).mono (fun M3 h3 => ?_)⟩
  obtain ⟨k1, k2, k3, k4⟩ := h3
  obtain ⟨t3, vt3⟩ := g3.out k2 (by omega) (by omega)
  have i3 : mI M3 a 2 = v := by rw [k2.2.2.2.2.2.2 a (by omega), g2.2.2.2.2.2.2 a (by omega)]; exact v1
  refine ⟨k1, k1, ((f1.mono (fun x q => by omega)).trans (g2.mono (fun x q => by omega))).trans (k2.mono (fun x q => by omega)), ⟨A2.fi k2, t3, k3, by rw [i3]; exact h01, by omega⟩, ?_, k4, fun q => ?_⟩
  · unfold sn
    rw [i3, vt3, g4, hv', hw']
    by_cases q : 0 ≤ j
    · simp [q]
    · simp [q]
  · rw [i3, hv', if_pos (by omega)]
theorem s_MF_copy (hO : mOk M) (hA : Ft M a r) (hB : Fq M b rb) (hne : a + 4 < b ∨ b + 4 < a) (z1 : mI M (b + 1) 1 ≤ r) (z2 : mI M (b + 3) 1 ≤ r) : Cv G y_MF_copy (d + 1) [vr a, vr b] M (fun M' => mOk M' ∧ FI (fS a) M M' ∧ Fq M' a r ∧ wv M' (a + 1) = wv M (b + 1) ∧ wv M' (a + 3) = wv M (b + 3) ∧ mI M' a 2 = mI M b 2) := by
  refine k_MF_copy hO ⟨hB.1.1, hA.1.1, hB.2.2.2.1, fun M1 e1 => ?_⟩
  have f1 : FI (fun x => x = a) M M1 := by rw [e1]; exact FI.ui rfl
  have h01 := hB.2.2.2.1
  have o1 : mOk M1 := by rw [e1]; exact mOk_UI hO ⟨by omega, by omega⟩
  have v1 : mI M1 a 2 = mI M b 2 := by rw [e1, mI_UI, if_pos ⟨rfl, rfl⟩]
  have A1 : Fk M1 a := hA.1.fi f1
  have B1 := hB.out f1 (fun x q => by omega)
  have t1 := hA.2.1.out f1 (by omega)
  have b1 := hA.2.2.out f1 (by omega)
  have e2 : mI M1 (b + 1) = mI M (b + 1) := f1.2.2.2.2.2.2 _ (by omega)
  have e3 : mI M1 (b + 3) = mI M (b + 3) := f1.2.2.2.2.2.2 _ (by omega)
  rw [A1.2.1, B1.1.1.2.1]
  refine ⟨t1.1, (s_MW_copy o1 t1 B1.1.2.1 (by omega) (by rw [e2]; exact z1)).mono (fun M2 h2 => ?_)⟩
  obtain ⟨g1, g2, g3, g4⟩ := h2
  have A2 := A1.fi g2
  have B2 := B1.1.out g2 (fun x q => by omega)
  have b2 := b1.out g2 (by omega)
  have e4 : mI M2 (b + 3) = mI M1 (b + 3) := g2.2.2.2.2.2.2 _ (by omega)
  refine ⟨g1, A2.1, B2.1.1.1, ?_⟩
  rw [A2.2.2, B2.1.1.2.2]
  refine ⟨b2.1, (s_MW_copy g1 b2 B2.1.2.2.1 (by omega) (by rw [e4, e3]; exact z2)).mono (fun M3 h3 => ?_)⟩
  obtain ⟨k1, k2, k3, k4⟩ := h3
  obtain ⟨t3, vt3⟩ := g3.out k2 (by omega) (by omega)
  have i3 : mI M3 a 2 = mI M b 2 := by rw [k2.2.2.2.2.2.2 a (by omega), g2.2.2.2.2.2.2 a (by omega)]; exact v1
  have eb : wv M3 (a + 3) = wv M (b + 3) := by rw [k4, B2.2.2.2.2.1, B1.2.2.2.2.1]
  refine ⟨k1, k1, ((f1.mono (fun x q => by omega)).trans (g2.mono (fun x q => by omega))).trans (k2.mono (fun x q => by omega)), ⟨A2.fi k2, t3, k3, by rw [i3]; exact h01, by rw [eb]; exact hB.2.2.2.2⟩, by rw [vt3, g4, B1.2.2.2.1], eb, i3⟩
end FS
end
section
/-! The reference's solver: its places, and which states come to the end. -/
/-- the places of the solver at s: nothing here changes when ints change -/
def Vk (M : mM) (s : Nat) : Prop := mK M s = 17 ∧ (mR M s 0 = s + 1 ∧ mR M s 4 = s + 22 ∧ mR M s 5 = s + 23 ∧ mR M s 6 = s + 24 ∧ mR M s 7 = s + 25 ∧ mR M s 8 = s + 26 ∧ mR M s 9 = s + 27 ∧ mR M s 10 = s + 28)
  ∧ (mR M s 11 = s + 29 ∧ mR M s 12 = s + 30 ∧ mR M s 13 = s + 31 ∧ mR M s 14 = s + 32 ∧ mR M s 15 = s + 33 ∧ mR M s 16 = s + 34 ∧ mR M s 18 = s + 35 ∧ mR M s 19 = s + 36 ∧ mR M s 20 = s + 37)
  ∧ (mR M s 21 = s + 38 ∧ mR M s 22 = s + 39 ∧ mR M s 23 = s + 40 ∧ mR M s 25 = s + 41 ∧ mR M s 26 = s + 42 ∧ mR M s 27 = s + 47 ∧ mR M s 28 = s + 52 ∧ mR M s 29 = s + 57 ∧ mR M s 30 = s + 62 ∧ mR M s 31 = s + 67)
  ∧ (mK M (s + 22) = 30 ∧ mK M (s + 23) = 30 ∧ mK M (s + 24) = 30 ∧ mK M (s + 25) = 30 ∧ mK M (s + 26) = 30 ∧ mK M (s + 27) = 30 ∧ mK M (s + 28) = 30)
  ∧ (mK M (s + 29) = 36 ∧ mK M (s + 30) = 31 ∧ mK M (s + 31) = 36 ∧ mK M (s + 32) = 30 ∧ mK M (s + 33) = 30 ∧ mK M (s + 34) = 30 ∧ mK M (s + 35) = 30 ∧ mK M (s + 36) = 31 ∧ mK M (s + 37) = 31 ∧ mK M (s + 38) = 36 ∧ mK M (s + 39) = 30 ∧ mK M (s + 40) = 30 ∧ mK M (s + 41) = 36 ∧ mK M (s + 67) = 30)
  ∧ (mN M (s + 22) = 513 ∧ mN M (s + 23) = 514 ∧ mN M (s + 24) = 4200 ∧ mN M (s + 25) = 4201 ∧ mN M (s + 26) = 4096 ∧ mN M (s + 27) = 4096 ∧ mN M (s + 28) = 4096)
  ∧ (mN M (s + 29) = 1536 ∧ mN M (s + 30) = 3 ∧ mN M (s + 31) = 512 ∧ mN M (s + 32) = 512 ∧ mN M (s + 33) = 512 ∧ mN M (s + 34) = 512 ∧ mN M (s + 35) = 512 ∧ mN M (s + 36) = 512 ∧ mN M (s + 37) = 512 ∧ mN M (s + 38) = 512 ∧ mN M (s + 39) = 40 ∧ mN M (s + 40) = 512 ∧ mN M (s + 41) = 1640 ∧ mN M (s + 67) = 400)
  ∧ (∀ i j, i < 512 → j < 3 → mR M (s + 29) (3 * i + j) = s + 68 + 25 * i + 5 * j) ∧ (∀ i, i < 512 → mR M (s + 31) i = s + 83 + 25 * i) ∧ (∀ i, i < 512 → mR M (s + 38) i = s + 88 + 25 * i) ∧ (∀ i, i < 1640 → mR M (s + 41) i = s + 12868 + 5 * i)
theorem Vk.fi {S : Nat → Prop} {M M' : mM} {s : Nat} (h : Vk M s) (f : FI S M M') : Vk M' s := by
  obtain ⟨f1, f2, f3, -⟩ := f
  unfold Vk at h ⊢
  rw [f1, f2, f3]
  exact h
theorem Vk.k0 {M : mM} {s : Nat} (h : Vk M s) : mK M s = 17 := h.1
theorem Vk.r0 {M : mM} {s : Nat} (h : Vk M s) : mR M s 0 = s + 1 := h.2.1.1
theorem Vk.r4 {M : mM} {s : Nat} (h : Vk M s) : mR M s 4 = s + 22 := h.2.1.2.1
theorem Vk.r5 {M : mM} {s : Nat} (h : Vk M s) : mR M s 5 = s + 23 := h.2.1.2.2.1
theorem Vk.r6 {M : mM} {s : Nat} (h : Vk M s) : mR M s 6 = s + 24 := h.2.1.2.2.2.1
theorem Vk.r7 {M : mM} {s : Nat} (h : Vk M s) : mR M s 7 = s + 25 := h.2.1.2.2.2.2.1
theorem Vk.r8 {M : mM} {s : Nat} (h : Vk M s) : mR M s 8 = s + 26 := h.2.1.2.2.2.2.2.1
theorem Vk.r9 {M : mM} {s : Nat} (h : Vk M s) : mR M s 9 = s + 27 := h.2.1.2.2.2.2.2.2.1
theorem Vk.r10 {M : mM} {s : Nat} (h : Vk M s) : mR M s 10 = s + 28 := h.2.1.2.2.2.2.2.2.2
theorem Vk.r11 {M : mM} {s : Nat} (h : Vk M s) : mR M s 11 = s + 29 := h.2.2.1.1
theorem Vk.r12 {M : mM} {s : Nat} (h : Vk M s) : mR M s 12 = s + 30 := h.2.2.1.2.1
theorem Vk.r13 {M : mM} {s : Nat} (h : Vk M s) : mR M s 13 = s + 31 := h.2.2.1.2.2.1
theorem Vk.r14 {M : mM} {s : Nat} (h : Vk M s) : mR M s 14 = s + 32 := h.2.2.1.2.2.2.1
theorem Vk.r15 {M : mM} {s : Nat} (h : Vk M s) : mR M s 15 = s + 33 := h.2.2.1.2.2.2.2.1
theorem Vk.r16 {M : mM} {s : Nat} (h : Vk M s) : mR M s 16 = s + 34 := h.2.2.1.2.2.2.2.2.1
theorem Vk.r18 {M : mM} {s : Nat} (h : Vk M s) : mR M s 18 = s + 35 := h.2.2.1.2.2.2.2.2.2.1
theorem Vk.r19 {M : mM} {s : Nat} (h : Vk M s) : mR M s 19 = s + 36 := h.2.2.1.2.2.2.2.2.2.2.1
theorem Vk.r21 {M : mM} {s : Nat} (h : Vk M s) : mR M s 21 = s + 38 := h.2.2.2.1.1
theorem Vk.r22 {M : mM} {s : Nat} (h : Vk M s) : mR M s 22 = s + 39 := h.2.2.2.1.2.1
theorem Vk.r23 {M : mM} {s : Nat} (h : Vk M s) : mR M s 23 = s + 40 := h.2.2.2.1.2.2.1
theorem Vk.r25 {M : mM} {s : Nat} (h : Vk M s) : mR M s 25 = s + 41 := h.2.2.2.1.2.2.2.1
theorem Vk.r26 {M : mM} {s : Nat} (h : Vk M s) : mR M s 26 = s + 42 := h.2.2.2.1.2.2.2.2.1
theorem Vk.r27 {M : mM} {s : Nat} (h : Vk M s) : mR M s 27 = s + 47 := h.2.2.2.1.2.2.2.2.2.1
theorem Vk.r28 {M : mM} {s : Nat} (h : Vk M s) : mR M s 28 = s + 52 := h.2.2.2.1.2.2.2.2.2.2.1
theorem Vk.r29 {M : mM} {s : Nat} (h : Vk M s) : mR M s 29 = s + 57 := h.2.2.2.1.2.2.2.2.2.2.2.1
theorem Vk.r30 {M : mM} {s : Nat} (h : Vk M s) : mR M s 30 = s + 62 := h.2.2.2.1.2.2.2.2.2.2.2.2.1
theorem Vk.r31 {M : mM} {s : Nat} (h : Vk M s) : mR M s 31 = s + 67 := h.2.2.2.1.2.2.2.2.2.2.2.2.2
theorem Vk.k22 {M : mM} {s : Nat} (h : Vk M s) : mK M (s + 22) = 30 := h.2.2.2.2.1.1
theorem Vk.k23 {M : mM} {s : Nat} (h : Vk M s) : mK M (s + 23) = 30 := h.2.2.2.2.1.2.1
theorem Vk.k24 {M : mM} {s : Nat} (h : Vk M s) : mK M (s + 24) = 30 := h.2.2.2.2.1.2.2.1
theorem Vk.k25 {M : mM} {s : Nat} (h : Vk M s) : mK M (s + 25) = 30 := h.2.2.2.2.1.2.2.2.1
theorem Vk.k26 {M : mM} {s : Nat} (h : Vk M s) : mK M (s + 26) = 30 := h.2.2.2.2.1.2.2.2.2.1
theorem Vk.k27 {M : mM} {s : Nat} (h : Vk M s) : mK M (s + 27) = 30 := h.2.2.2.2.1.2.2.2.2.2.1
theorem Vk.k28 {M : mM} {s : Nat} (h : Vk M s) : mK M (s + 28) = 30 := h.2.2.2.2.1.2.2.2.2.2.2
theorem Vk.k29 {M : mM} {s : Nat} (h : Vk M s) : mK M (s + 29) = 36 := h.2.2.2.2.2.1.1
theorem Vk.k30 {M : mM} {s : Nat} (h : Vk M s) : mK M (s + 30) = 31 := h.2.2.2.2.2.1.2.1
theorem Vk.k31 {M : mM} {s : Nat} (h : Vk M s) : mK M (s + 31) = 36 := h.2.2.2.2.2.1.2.2.1
theorem Vk.k32 {M : mM} {s : Nat} (h : Vk M s) : mK M (s + 32) = 30 := h.2.2.2.2.2.1.2.2.2.1
theorem Vk.k33 {M : mM} {s : Nat} (h : Vk M s) : mK M (s + 33) = 30 := h.2.2.2.2.2.1.2.2.2.2.1
theorem Vk.k34 {M : mM} {s : Nat} (h : Vk M s) : mK M (s + 34) = 30 := h.2.2.2.2.2.1.2.2.2.2.2.1
theorem Vk.k35 {M : mM} {s : Nat} (h : Vk M s) : mK M (s + 35) = 30 := h.2.2.2.2.2.1.2.2.2.2.2.2.1
theorem Vk.k36 {M : mM} {s : Nat} (h : Vk M s) : mK M (s + 36) = 31 := h.2.2.2.2.2.1.2.2.2.2.2.2.2.1
theorem Vk.k38 {M : mM} {s : Nat} (h : Vk M s) : mK M (s + 38) = 36 := h.2.2.2.2.2.1.2.2.2.2.2.2.2.2.2.1
theorem Vk.k39 {M : mM} {s : Nat} (h : Vk M s) : mK M (s + 39) = 30 := h.2.2.2.2.2.1.2.2.2.2.2.2.2.2.2.2.1
theorem Vk.k40 {M : mM} {s : Nat} (h : Vk M s) : mK M (s + 40) = 30 := h.2.2.2.2.2.1.2.2.2.2.2.2.2.2.2.2.2.1
theorem Vk.k41 {M : mM} {s : Nat} (h : Vk M s) : mK M (s + 41) = 36 := h.2.2.2.2.2.1.2.2.2.2.2.2.2.2.2.2.2.2.1
theorem Vk.k67 {M : mM} {s : Nat} (h : Vk M s) : mK M (s + 67) = 30 := h.2.2.2.2.2.1.2.2.2.2.2.2.2.2.2.2.2.2.2
theorem Vk.n22 {M : mM} {s : Nat} (h : Vk M s) : mN M (s + 22) = 513 := h.2.2.2.2.2.2.1.1
theorem Vk.n23 {M : mM} {s : Nat} (h : Vk M s) : mN M (s + 23) = 514 := h.2.2.2.2.2.2.1.2.1
theorem Vk.n24 {M : mM} {s : Nat} (h : Vk M s) : mN M (s + 24) = 4200 := h.2.2.2.2.2.2.1.2.2.1
theorem Vk.n25 {M : mM} {s : Nat} (h : Vk M s) : mN M (s + 25) = 4201 := h.2.2.2.2.2.2.1.2.2.2.1
theorem Vk.n26 {M : mM} {s : Nat} (h : Vk M s) : mN M (s + 26) = 4096 := h.2.2.2.2.2.2.1.2.2.2.2.1
theorem Vk.n27 {M : mM} {s : Nat} (h : Vk M s) : mN M (s + 27) = 4096 := h.2.2.2.2.2.2.1.2.2.2.2.2.1
theorem Vk.n28 {M : mM} {s : Nat} (h : Vk M s) : mN M (s + 28) = 4096 := h.2.2.2.2.2.2.1.2.2.2.2.2.2
theorem Vk.n29 {M : mM} {s : Nat} (h : Vk M s) : mN M (s + 29) = 1536 := h.2.2.2.2.2.2.2.1.1
theorem Vk.n30 {M : mM} {s : Nat} (h : Vk M s) : mN M (s + 30) = 3 := h.2.2.2.2.2.2.2.1.2.1
theorem Vk.n31 {M : mM} {s : Nat} (h : Vk M s) : mN M (s + 31) = 512 := h.2.2.2.2.2.2.2.1.2.2.1
theorem Vk.n32 {M : mM} {s : Nat} (h : Vk M s) : mN M (s + 32) = 512 := h.2.2.2.2.2.2.2.1.2.2.2.1
theorem Vk.n33 {M : mM} {s : Nat} (h : Vk M s) : mN M (s + 33) = 512 := h.2.2.2.2.2.2.2.1.2.2.2.2.1
theorem Vk.n34 {M : mM} {s : Nat} (h : Vk M s) : mN M (s + 34) = 512 := h.2.2.2.2.2.2.2.1.2.2.2.2.2.1
theorem Vk.n35 {M : mM} {s : Nat} (h : Vk M s) : mN M (s + 35) = 512 := h.2.2.2.2.2.2.2.1.2.2.2.2.2.2.1
theorem Vk.n36 {M : mM} {s : Nat} (h : Vk M s) : mN M (s + 36) = 512 := h.2.2.2.2.2.2.2.1.2.2.2.2.2.2.2.1
theorem Vk.n38 {M : mM} {s : Nat} (h : Vk M s) : mN M (s + 38) = 512 := h.2.2.2.2.2.2.2.1.2.2.2.2.2.2.2.2.2.1
theorem Vk.n39 {M : mM} {s : Nat} (h : Vk M s) : mN M (s + 39) = 40 := h.2.2.2.2.2.2.2.1.2.2.2.2.2.2.2.2.2.2.1
theorem Vk.n40 {M : mM} {s : Nat} (h : Vk M s) : mN M (s + 40) = 512 := h.2.2.2.2.2.2.2.1.2.2.2.2.2.2.2.2.2.2.2.1
theorem Vk.n41 {M : mM} {s : Nat} (h : Vk M s) : mN M (s + 41) = 1640 := h.2.2.2.2.2.2.2.1.2.2.2.2.2.2.2.2.2.2.2.2.1
theorem Vk.n67 {M : mM} {s : Nat} (h : Vk M s) : mN M (s + 67) = 400 := h.2.2.2.2.2.2.2.1.2.2.2.2.2.2.2.2.2.2.2.2.2
theorem Vk.f29 {M : mM} {s : Nat} (h : Vk M s) : ∀ i j, i < 512 → j < 3 → mR M (s + 29) (3 * i + j) = s + 68 + 25 * i + 5 * j := h.2.2.2.2.2.2.2.2.1
theorem Vk.f31 {M : mM} {s : Nat} (h : Vk M s) : ∀ i, i < 512 → mR M (s + 31) i = s + 83 + 25 * i := h.2.2.2.2.2.2.2.2.2.1
theorem Vk.f38 {M : mM} {s : Nat} (h : Vk M s) : ∀ i, i < 512 → mR M (s + 38) i = s + 88 + 25 * i := h.2.2.2.2.2.2.2.2.2.2.1
theorem Vk.f41 {M : mM} {s : Nat} (h : Vk M s) : ∀ i, i < 1640 → mR M (s + 41) i = s + 12868 + 5 * i := h.2.2.2.2.2.2.2.2.2.2.2
/-- the game told to the solver is sound -/
def GW (M : mM) (s : Nat) : Prop := 0 ≤ mI M s 1 ∧ mI M s 1 ≤ 512 ∧ mI M s 2 ≤ 4200 ∧ mI M s 3 ≤ 4096 ∧ mI M (s + 23) 0 = 0 ∧ mI M (s + 25) 0 = 0
  ∧ (∀ i j : Nat, i ≤ j → (j : Int) ≤ mI M s 1 → mI M (s + 23) i ≤ mI M (s + 23) j) ∧ mI M (s + 23) (mI M s 1).toNat = mI M s 2
  ∧ (∀ i j : Nat, i ≤ j → (j : Int) ≤ mI M s 2 → mI M (s + 25) i ≤ mI M (s + 25) j) ∧ mI M (s + 25) (mI M s 2).toNat = mI M s 3
  ∧ (∀ b : Nat, (b : Int) < mI M s 3 → 0 ≤ mI M (s + 26) b ∧ mI M (s + 26) b < mI M s 1)
theorem GW.out {S : Nat → Prop} {M M' : mM} {s : Nat} (h : GW M s) (f : FI S M M') (h0 : ¬ S s) (h1 : ∀ x, s + 23 ≤ x → x ≤ s + 26 → ¬ S x) : GW M' s := by
  obtain ⟨-, -, -, -, -, -, f⟩ := f
  unfold GW at h ⊢
  rw [f s h0, f (s + 23) (h1 _ (by omega) (by omega)), f (s + 25) (h1 _ (by omega) (by omega)), f (s + 26) (h1 _ (by omega) (by omega))]
  exact h
/-- where the commands of state i begin, and end -/
theorem GW.cmd {M : mM} {s : Nat} (h : GW M s) {i : Nat} (hi : (i : Int) < mI M s 1) : 0 ≤ mI M (s + 23) i ∧ mI M (s + 23) i ≤ mI M (s + 23) (i + 1) ∧ mI M (s + 23) (i + 1) ≤ mI M s 2 := by
  obtain ⟨h1, h2, h3, h4, h5, h6, h7, h8, -⟩ := h
  have a1 := h7 0 i (by omega) (by omega)
  have a2 := h7 i (i + 1) (by omega) (by omega)
  have a3 := h7 (i + 1) (mI M s 1).toNat (by omega) (by omega)
  omega
theorem GW.brn {M : mM} {s : Nat} (h : GW M s) {c : Nat} (hc : (c : Int) < mI M s 2) : 0 ≤ mI M (s + 25) c ∧ mI M (s + 25) c ≤ mI M (s + 25) (c + 1) ∧ mI M (s + 25) (c + 1) ≤ mI M s 3 := by
  obtain ⟨h1, h2, h3, h4, h5, h6, h7, h8, h9, h10, -⟩ := h
  have a1 := h9 0 c (by omega) (by omega)
  have a2 := h9 c (c + 1) (by omega) (by omega)
  have a3 := h9 (c + 1) (mI M s 2).toNat (by omega) (by omega)
  omega
/-- how many commands -/
def mny (M : mM) (s i : Nat) : Int := mI M (s + 23) (i + 1) - mI M (s + 23) i
def mayP (M : mM) (s i k : Nat) : Prop := mI M s 17 ≠ mI M (s + 22) i ∨ mI M (s + 32) i = k
def useP (M : mM) (s i k : Nat) (l : Int) : Prop := ((mI M (s + 22) i ≠ 1 ∨ l = 0) ∧ mayP M s i k) ∨ (¬ (mI M (s + 22) i ≠ 1 ∨ l = 0) ∧ mI M (s + 35) i = k)
/-- command k of state i may lead to a state in T -/
def leadQ (T : Nat → Prop) (M : mM) (s i k : Nat) : Prop := ∃ b : Nat, mI M (s + 25) ((mI M (s + 23) i).toNat + k) ≤ b ∧ (b : Int) < mI M (s + 25) ((mI M (s + 23) i).toNat + k + 1) ∧ T (mI M (s + 26) b).toNat
def comesQ (T : Nat → Prop) (M : mM) (s i : Nat) (l : Int) : Prop := (mI M (s + 22) i = 1 ∧ ∃ k : Nat, (k : Int) < mny M s i ∧ useP M s i k l ∧ leadQ T M s i k) ∨ (mI M (s + 22) i = 2 ∧ 0 < mny M s i ∧ ∀ k : Nat, (k : Int) < mny M s i → useP M s i k l → leadQ T M s i k)
abbrev mkd (M : mM) (s : Nat) : Nat → Prop := fun j => mI M (s + 36) j ≠ 0
section VS
variable {G : mG} {d s : Nat} {M : mM}
theorem s_MS_many {i : Nat} (hO : mOk M) (hV : Vk M s) (hG : GW M s) (hi : (i : Int) < mI M s 1) : Ci G y_MS_many d [vr s, vi i] M (fun x M' => M' = M ∧ x = mny M s i) := by
  have h2 := hG.2.1
  refine k_MS_many hO ⟨by omega, by omega⟩ ?_
  rw [hV.r5, hV.n23]
  refine ⟨hV.k0, hV.k23, by omega, by omega, rfl, ?_⟩
  rw [show ((i : Int) + 1).toNat = i + 1 by omega, Int.toNat_natCast]
  rfl
theorem s_MS_may {i k : Nat} (hk : (k : Int) < 100000) (hO : mOk M) (hV : Vk M s) (hG : GW M s) (hi : (i : Int) < mI M s 1) : Ci G y_MS_may d [vr s, vi i, vi k] M (fun x M' => M' = M ∧ (x = 0 ∨ x = 1) ∧ (x ≠ 0 ↔ mayP M s i k)) := by
  have h2 := hG.2.1
  refine k_MS_may hO ⟨by omega, by omega⟩ ⟨by omega, by omega⟩ ?_
  rw [hV.r4, hV.r14, hV.n22, hV.n32, Int.toNat_natCast]
  refine ⟨hV.k0, hV.k22, by omega, fun _ => ⟨hV.k32, by omega⟩, fun v hv => ⟨rfl, by split at hv <;> omega, ?_⟩⟩
  unfold mayP
  by_cases c : ¬ mI M s 17 = mI M (s + 22) i ∨ mI M (s + 32) i = k
  · rw [if_pos c] at hv
    exact ⟨fun _ => c, fun _ => by omega⟩
  · rw [if_neg c] at hv
    exact ⟨fun q => by omega, fun q => absurd q c⟩
theorem s_MS_leadsIn {i k : Nat} (hO : mOk M) (hV : Vk M s) (hG : GW M s) (hi : (i : Int) < mI M s 1) (hk : (k : Int) < mny M s i) : Ci G y_MS_leadsIn d [vr s, vi i, vi k] M (fun x M' => M' = M ∧ (x = 0 ∨ x = 1) ∧ (x ≠ 0 ↔ leadQ (mkd M s) M s i k)) := by
  have hc := hG.cmd hi
  unfold mny at hk
  have hb := hG.brn (c := (mI M (s + 23) i).toNat + k) (by omega)
  have h2 := hG.2.1
  have h3 := hG.2.2.1
  have h4 := hG.2.2.2.1
  have ht := hG.2.2.2.2.2.2.2.2.2.2
  refine k_MS_leadsIn hO ⟨by omega, by omega⟩ ⟨by omega, by omega⟩ ?_
  rw [hV.r5, hV.r7, hV.n23, hV.n25, Int.toNat_natCast]
  have ec : (mI M (s + 23) i + (k : Int)).toNat = (mI M (s + 23) i).toNat + k := by omega
  have ec1 : (mI M (s + 23) i + (k : Int) + 1).toNat = (mI M (s + 23) i).toNat + k + 1 := by omega
  rw [ec]
  refine ⟨hV.k0, hV.k23, by omega, hV.k25, by omega, ?_⟩
  suffices H : ∀ (n : Nat) (f l : Int), mI M (s + 25) ((mI M (s + 23) i).toNat + k + 1) - l = n → mI M (s + 25) ((mI M (s + 23) i).toNat + k) ≤ l → (f = 0 ∨ f = 1) → (f ≠ 0 ↔ ∃ b : Nat, mI M (s + 25) ((mI M (s + 23) i).toNat + k) ≤ b ∧ (b : Int) < l ∧ mkd M s (mI M (s + 26) b).toNat) → h_MS_leadsIn_20 G d s (mI M (s + 23) i + k) f l M (fun x M' => M' = M ∧ (x = 0 ∨ x = 1) ∧ (x ≠ 0 ↔ leadQ (mkd M s) M s i k)) from
    H _ 0 _ (Int.toNat_of_nonneg (by omega)).symm (by omega) (Or.inl rfl) ⟨fun q => absurd rfl q, fun ⟨b, b1, b2, _⟩ => by omega⟩
  intro n
  induction n with
  | zero =>
    intro f l hn hl hf hq
    refine k_MS_leadsIn_20 hO ⟨by omega, by omega⟩ ⟨by omega, by omega⟩ ⟨by omega, by omega⟩ ?_
    rw [hV.r7, hV.n25, ec1]
    refine ⟨hV.k0, hV.k25, by omega, fun _ => ⟨hf, rfl, hf, ?_⟩, fun c => by omega⟩
    rw [hq]
    unfold leadQ
    have e : l = mI M (s + 25) ((mI M (s + 23) i).toNat + k + 1) := by omega
    rw [e]
  | succ n ih =>
    intro f l hn hl hf hq
    have htl := ht l.toNat (by omega)
    refine k_MS_leadsIn_20 hO ⟨by omega, by omega⟩ ⟨by omega, by omega⟩ ⟨by omega, by omega⟩ ?_
    rw [hV.r7, hV.r8, hV.r19, hV.n25, hV.n26, hV.n36, ec1]
    refine ⟨hV.k0, hV.k25, by omega, fun c => by omega, fun _ => ⟨fun _ => ⟨hV.k26, by omega, hV.k36, by omega⟩, fun v hv => ih v (l + 1) (by omega) (by omega) (by split at hv <;> omega) ?_⟩⟩
    by_cases c : f = 0 ∧ mI M (s + 36) (mI M (s + 26) l.toNat).toNat = 0
    · rw [if_pos c] at hv
      refine ⟨fun q => by omega, fun ⟨b, b1, b2, b3⟩ => ?_⟩
      by_cases z : (b : Int) < l
      · exact absurd c.1 (hq.2 ⟨b, b1, z, b3⟩)
      · have : b = l.toNat := by omega
        rw [this] at b3
        exact absurd c.2 b3
    · rw [if_neg c] at hv
      refine ⟨fun _ => ?_, fun _ => by omega⟩
      by_cases z : f = 0
      · exact ⟨l.toNat, by omega, by omega, fun q => c ⟨z, q⟩⟩
      · obtain ⟨b, b1, b2, b3⟩ := hq.1 z
        exact ⟨b, b1, by omega, b3⟩
end VS
end
end
section
section
/-! The reference's solver: which states come to the end, in words of sets. -/
def exP (P : Nat → Prop) (n : Nat) : Prop := ∃ j, j < n ∧ P j
def alP (P : Nat → Prop) (n : Nat) : Prop := ∀ j, j < n → P j
theorem exP_succ {P : Nat → Prop} {n : Nat} : exP P (n + 1) ↔ exP P n ∨ P n := by
  constructor
  · rintro ⟨j, h1, h2⟩
    by_cases c : j = n
    · subst c; exact Or.inr h2
    · exact Or.inl ⟨j, by omega, h2⟩
  · rintro (⟨j, h1, h2⟩ | h)
    · exact ⟨j, by omega, h2⟩
    · exact ⟨n, by omega, h⟩
theorem alP_succ {P : Nat → Prop} {n : Nat} : alP P (n + 1) ↔ alP P n ∧ P n := by
  constructor
  · intro h
    exact ⟨fun j hj => h j (by omega), h n (by omega)⟩
  · rintro ⟨h1, h2⟩ j hj
    by_cases c : j = n
    · subst c; exact h2
    · exact h1 j (by omega)
theorem comesQ.mono {T T' : Nat → Prop} {M : mM} {s i : Nat} {l : Int} (hG : GW M s) (hi : (i : Int) < mI M s 1) (h : ∀ x : Nat, (x : Int) < mI M s 1 → T x → T' x) (c : comesQ T M s i l) : comesQ T' M s i l := by
  have hl : ∀ k : Nat, (k : Int) < mny M s i → leadQ T M s i k → leadQ T' M s i k := by
    rintro k hk ⟨b, b1, b2, b3⟩
    have h1 := hG.cmd hi
    unfold mny at hk
    have h2 := hG.brn (c := (mI M (s + 23) i).toNat + k) (by omega)
    have h3 := hG.2.2.2.2.2.2.2.2.2.2 b (by omega)
    exact ⟨b, b1, b2, h _ (by omega) b3⟩
  rcases c with ⟨c1, k, c2, c3, c4⟩ | ⟨c1, c2, c3⟩
  · exact Or.inl ⟨c1, k, c2, c3, hl k c2 c4⟩
  · exact Or.inr ⟨c1, c2, fun k hk hu => hl k hk (c3 k hk hu)⟩
theorem comesQ.out {S T : Nat → Prop} {M M' : mM} {s i : Nat} {l : Int} (f : FI S M M') (h0 : ¬ S s) (h1 : ∀ x, s + 22 ≤ x → x ≤ s + 35 → ¬ S x) : comesQ T M' s i l ↔ comesQ T M s i l := by
  obtain ⟨-, -, -, -, -, -, f⟩ := f
  unfold comesQ useP mayP leadQ mny
  rw [f s h0, f (s + 22) (h1 _ (by omega) (by omega)), f (s + 23) (h1 _ (by omega) (by omega)), f (s + 25) (h1 _ (by omega) (by omega)), f (s + 26) (h1 _ (by omega) (by omega)), f (s + 32) (h1 _ (by omega) (by omega)), f (s + 35) (h1 _ (by omega) (by omega))]
section VS
variable {G : mG} {d s : Nat} {M : mM}
theorem s_MS_comes {i : Nat} {l : Int} (hl : i32 l) (hO : mOk M) (hV : Vk M s) (hG : GW M s) (hi : (i : Int) < mI M s 1) : Ci G y_MS_comes (d + 1) [vr s, vi i, vi l] M (fun x M' => M' = M ∧ (x = 0 ∨ x = 1) ∧ (x ≠ 0 ↔ comesQ (mkd M s) M s i l)) := by
  have h2 := hG.2.1
  have h3 := hG.2.2.1
  have hc := hG.cmd hi
  have hm0 : 0 ≤ mny M s i ∧ mny M s i ≤ 4200 := by unfold mny; omega
  refine k_MS_comes hO ⟨by omega, by omega⟩ hl ⟨hV.k0, (s_MS_many hO hV hG hi).mono (fun x M1 h1 => ?_)⟩
  obtain ⟨e1, hx⟩ := h1
  subst e1
  refine ⟨⟨by omega, by omega⟩, hO, fun v hv => ?_⟩
  suffices H : ∀ (n k : Nat) (e a : Int), mny M1 s i - k = n → (e = 0 ∨ e = 1) → (a = 0 ∨ a = 1) → (e ≠ 0 ↔ exP (fun k => useP M1 s i k l ∧ leadQ (mkd M1 s) M1 s i k) k) → (a ≠ 0 ↔ (0 < mny M1 s i ∧ alP (fun k => useP M1 s i k l → leadQ (mkd M1 s) M1 s i k) k)) → h_MS_comes_20 G d s i l e a k M1 (fun x M' => M' = M1 ∧ (x = 0 ∨ x = 1) ∧ (x ≠ 0 ↔ comesQ (mkd M1 s) M1 s i l)) by
    refine H (mny M1 s i).toNat 0 0 v (by omega) (Or.inl rfl) (by split at hv <;> omega) ⟨fun q => absurd rfl q, fun ⟨j, j1, _⟩ => by omega⟩ ?_
    by_cases c : x ≤ 0
    · rw [if_pos c] at hv
      exact ⟨fun q => absurd hv q, fun q => by have := q.1; omega⟩
    · rw [if_neg c] at hv
      exact ⟨fun _ => ⟨by omega, fun j hj => by omega⟩, fun _ => by omega⟩
  clear hv hx v x
  intro n
  induction n with
  | zero =>
    intro k e a hn he ha hqe hqa
    refine k_MS_comes_20 hO ⟨by omega, by omega⟩ hl ⟨by omega, by omega⟩ ⟨by omega, by omega⟩ ⟨by omega, by omega⟩ ⟨hV.k0, (s_MS_many hO hV hG hi).mono (fun x M2 h2' => ?_)⟩
    obtain ⟨e2, hx⟩ := h2'
    subst e2
    refine ⟨⟨by omega, by omega⟩, hO, fun _ => ?_, fun c => by omega⟩
    rw [hV.r4, hV.n22, Int.toNat_natCast]
    have hk : k = (mny M2 s i).toNat := by omega
    refine ⟨hV.k0, hV.k22, by omega, fun _ => by omega, fun v hv => ?_⟩
    have hv01 : v = 0 ∨ v = 1 := by split at hv <;> (try split at hv) <;> (try split at hv) <;> omega
    refine ⟨hv01, rfl, hv01, ?_⟩
    unfold comesQ
    by_cases c1 : mI M2 (s + 22) i = 1
    · rw [if_pos c1] at hv
      rw [hv, hqe]
      constructor
      · rintro ⟨j, j1, j2, j3⟩
        exact Or.inl ⟨c1, j, by omega, j2, j3⟩
      · rintro (⟨_, j, j1, j2, j3⟩ | ⟨q, -⟩)
        · exact ⟨j, by omega, j2, j3⟩
        · omega
    · rw [if_neg c1] at hv
      by_cases c2 : mI M2 (s + 22) i = 2
      · rw [if_pos c2] at hv
        have hva : v ≠ 0 ↔ a ≠ 0 := by
          by_cases z : a = 0
          · rw [if_pos z] at hv; exact ⟨fun q => absurd hv q, fun q => absurd z q⟩
          · rw [if_neg z] at hv; exact ⟨fun _ => z, fun _ => by omega⟩
        rw [hva, hqa]
        constructor
        · rintro ⟨p1, p2⟩
          exact Or.inr ⟨c2, p1, fun j hj => p2 j (by omega)⟩
        · rintro (⟨q, -⟩ | ⟨_, p1, p2⟩)
          · exact absurd q c1
          · exact ⟨p1, fun j hj => p2 j (by omega)⟩
      · rw [if_neg c2] at hv
        constructor
        · intro q; exact absurd hv q
        · rintro (⟨q, -⟩ | ⟨q, -⟩)
          · exact absurd q c1
          · exact absurd q c2
  | succ n ih =>
    intro k e a hn he ha hqe hqa
    have hkm : (k : Int) < mny M1 s i := by omega
    have hk9 : (k : Int) < 100000 := by omega
    refine k_MS_comes_20 hO ⟨by omega, by omega⟩ hl ⟨by omega, by omega⟩ ⟨by omega, by omega⟩ ⟨by omega, by omega⟩ ⟨hV.k0, (s_MS_many hO hV hG hi).mono (fun x M2 h2' => ?_)⟩
    obtain ⟨e2, hx⟩ := h2'
    subst e2
    have h92 : ∀ f g : Int, (f = 0 ∨ f = 1) → (g = 0 ∨ g = 1) → (f ≠ 0 ↔ useP M2 s i k l) → (g ≠ 0 ↔ (useP M2 s i k l ∧ leadQ (mkd M2 s) M2 s i k)) → h_MS_comes_92 G d s i l e a k f g M2 (fun x M' => M' = M2 ∧ (x = 0 ∨ x = 1) ∧ (x ≠ 0 ↔ comesQ (mkd M2 s) M2 s i l)) := by
      intro f g hf hg hqf hqg
      refine k_MS_comes_92 hO ⟨by omega, by omega⟩ hl ⟨by omega, by omega⟩ ⟨by omega, by omega⟩ ⟨by omega, by omega⟩ ⟨by omega, by omega⟩ ⟨by omega, by omega⟩ (fun v hv w hw => ?_)
      refine ih (k + 1) v w (by omega) (by split at hv <;> omega) (by split at hw <;> omega) ?_ ?_
      · rw [exP_succ, ← hqe, ← hqg]
        by_cases c : e = 0 ∧ g = 0
        · rw [if_pos c] at hv
          exact ⟨fun q => absurd hv q, fun q => by rcases q with q | q; exact absurd c.1 q; exact absurd c.2 q⟩
        · rw [if_neg c] at hv
          refine ⟨fun _ => ?_, fun _ => by omega⟩
          by_cases z : e = 0
          · exact Or.inr (fun q => c ⟨z, q⟩)
          · exact Or.inl z
      · rw [alP_succ, ← and_assoc, ← hqa]
        by_cases c : a = 0 ∨ (¬ f = 0 ∧ g = 0)
        · rw [if_pos c] at hw
          refine ⟨fun q => absurd hw q, fun q => ?_⟩
          rcases c with c | c
          · exact absurd c q.1
          · exact absurd c.2 (hqg.2 ⟨hqf.1 c.1, q.2 (hqf.1 c.1)⟩)
        · rw [if_neg c] at hw
          refine ⟨fun _ => ⟨fun q => c (Or.inl q), fun u => ?_⟩, fun _ => by omega⟩
          have hg0 : g ≠ 0 := fun q => c (Or.inr ⟨hqf.2 u, q⟩)
          exact (hqg.1 hg0).2
    have h70 : ∀ f : Int, (f = 0 ∨ f = 1) → (f ≠ 0 ↔ useP M2 s i k l) → h_MS_comes_70 G d s i l e a k f M2 (fun x M' => M' = M2 ∧ (x = 0 ∨ x = 1) ∧ (x ≠ 0 ↔ comesQ (mkd M2 s) M2 s i l)) := by
      intro f hf hqf
      refine k_MS_comes_70 hO ⟨by omega, by omega⟩ hl ⟨by omega, by omega⟩ ⟨by omega, by omega⟩ ⟨by omega, by omega⟩ ⟨by omega, by omega⟩ ⟨fun c => ?_, fun c => ⟨hV.k0, (s_MS_leadsIn hO hV hG hi hkm).mono (fun y M3 h3' => ?_)⟩⟩
      · refine h92 f 0 hf (Or.inl rfl) hqf ⟨fun q => absurd rfl q, fun q => absurd c (hqf.2 q.1)⟩
      · obtain ⟨e3, hy, hqy⟩ := h3'
        subst e3
        refine ⟨⟨by omega, by omega⟩, hO, fun z => ?_, fun z => ?_⟩
        · exact h92 f 0 hf (Or.inl rfl) hqf ⟨fun q => absurd rfl q, fun q => absurd z (hqy.2 q.2)⟩
        · exact h92 f 1 hf (Or.inr rfl) hqf ⟨fun _ => ⟨hqf.1 c, hqy.1 z⟩, fun _ => by omega⟩
    rw [hV.r4, hV.r18, hV.n22, hV.n35, Int.toNat_natCast]
    refine ⟨⟨by omega, by omega⟩, hO, fun c => by omega, fun _ => ⟨hV.k0, hV.k22, by omega, fun c => ?_, fun c => ⟨hV.k35, by omega, fun q => ?_, fun q => ?_⟩⟩⟩
    · refine (s_MS_may hk9 hO hV hG hi).mono (fun y M3 h3' => ?_)
      obtain ⟨e3, hy, hqy⟩ := h3'
      subst e3
      refine ⟨⟨by omega, by omega⟩, hO, h70 y hy ?_⟩
      rw [hqy]
      unfold useP
      exact ⟨fun q => Or.inl ⟨c, q⟩, fun q => by rcases q with q | q; exact q.2; exact absurd c q.1⟩
    · refine h70 1 (Or.inr rfl) ⟨fun _ => Or.inr ⟨c, q⟩, fun _ => by omega⟩
    · refine h70 0 (Or.inl rfl) ⟨fun w => absurd rfl w, fun w => ?_⟩
      rcases w with w | w
      · exact absurd w.1 c
      · exact absurd w.2 q
end VS
end
section
/-! The reference's solver: growing the set of states that come to the end. -/
def cz (f : Nat → Int) : Nat → Nat
  | 0 => 0
  | n + 1 => cz f n + (if f n = 0 then 1 else 0)
theorem cz_congr {f g : Nat → Int} : ∀ (n : Nat), (∀ j, j < n → f j = g j) → cz f n = cz g n
  | 0, _ => rfl
  | n + 1, h => by rw [cz, cz, cz_congr n (fun j hj => h j (by omega)), h n (by omega)]
theorem cz_set {f g : Nat → Int} {i : Nat} (h0 : f i = 0) (h1 : g i = 1) (h : ∀ j, j ≠ i → g j = f j) : ∀ (n : Nat), i < n → cz g n + 1 = cz f n
  | 0, hi => by omega
  | n + 1, hi => by
    rw [cz, cz]
    by_cases c : i = n
    · rw [← c, h0, h1, cz_congr i (fun j hj => h j (by omega))]
      simp
    · have := cz_set h0 h1 h n (by omega)
      rw [h n (by omega)]
      omega
/-- the marks so far: each marked state comes to states marked before it -/
def gvI (M : mM) (s : Nat) (l : Int) (M1 : mM) (ρ : Nat → Nat) (t : Nat) : Prop := mOk M1 ∧ FI (fun x => x = s + 36) M M1 ∧ (∀ j : Nat, (j : Int) < mI M s 1 → (mI M1 (s + 36) j = 0 ∨ mI M1 (s + 36) j = 1) ∧ (mI M (s + 22) j = 3 → mI M1 (s + 36) j = 1) ∧ (mI M1 (s + 36) j = 1 → ρ j < t ∧ (mI M (s + 22) j = 3 ∨ comesQ (fun x => mkd M1 s x ∧ ρ x < ρ j) M s j l)))
def upR (ρ : Nat → Nat) (i t x : Nat) : Nat := if x = i then t else ρ x
theorem upR_i {ρ : Nat → Nat} {i t : Nat} : upR ρ i t i = t := if_pos rfl
theorem upR_n {ρ : Nat → Nat} {i t x : Nat} (h : x ≠ i) : upR ρ i t x = ρ x := if_neg h
abbrev gvQ (M : mM) (s : Nat) (l : Int) : mM → Prop := fun M' => (∃ ρ t, gvI M s l M' ρ t) ∧ ∀ j : Nat, (j : Int) < mI M s 1 → mI M' (s + 36) j = 0 → ¬ comesQ (mkd M' s) M s j l
section VS
variable {G : mG} {d s : Nat} {M : mM}
theorem gv_mark {M1 M2 : mM} {l : Int} {ρ : Nat → Nat} {t i : Nat} (hG : GW M s) (h : gvI M s l M1 ρ t) (hi : (i : Int) < mI M s 1) (h0 : mI M1 (s + 36) i = 0) (hc : comesQ (mkd M1 s) M s i l) (e2 : M2 = mUI M1 (s + 36) i 1) (o2 : mOk M2) : gvI M s l M2 (upR ρ i t) (t + 1) := by
  obtain ⟨g1, g2, g3⟩ := h
  have f2 : FI (fun x => x = s + 36) M1 M2 := by rw [e2]; exact FI.ui rfl
  have hm : ∀ j, mI M2 (s + 36) j = if j = i then 1 else mI M1 (s + 36) j := fun j => by
    rw [e2, mI_UI]
    by_cases z : j = i
    · rw [if_pos ⟨rfl, z⟩, if_pos z]
    · rw [if_neg (fun w => z w.2), if_neg z]
  refine ⟨o2, g2.trans f2, fun j hj => ?_⟩
  obtain ⟨a1, a2, a3⟩ := g3 j hj
  have mono : ∀ x : Nat, mkd M1 s x → mkd M2 s x ∧ x ≠ i := fun x hx => by
    have : x ≠ i := fun q => by subst q; exact hx h0
    exact ⟨by show mI M2 (s + 36) x ≠ 0; rw [hm, if_neg this]; exact hx, this⟩
  rw [hm]
  by_cases z : j = i
  · subst z
    rw [if_pos rfl]
    refine ⟨Or.inr rfl, fun _ => rfl, fun _ => ⟨by rw [upR_i]; omega, Or.inr (hc.mono hG hi (fun x hx w => ?_))⟩⟩
    have hmx := mono x w
    refine ⟨hmx.1, ?_⟩
    have b := g3 x hx
    have w' : mI M1 (s + 36) x ≠ 0 := w
    have b1 : mI M1 (s + 36) x = 1 := by rcases b.1 with q | q; exact absurd q w'; exact q
    have b2 := (b.2.2 b1).1
    rw [upR_n hmx.2, upR_i]
    exact b2
  · rw [if_neg z]
    refine ⟨a1, a2, fun w => ?_⟩
    obtain ⟨c1, c2⟩ := a3 w
    rw [upR_n z]
    refine ⟨by omega, ?_⟩
    rcases c2 with c2 | c2
    · exact Or.inl c2
    · refine Or.inr (c2.mono hG hj (fun x hx w => ?_))
      have hmx := mono x w.1
      exact ⟨hmx.1, by rw [upR_n hmx.2]; exact w.2⟩
theorem s_MS_grow {l : Int} (hl : i32 l) (hO : mOk M) (hV : Vk M s) (hG : GW M s) : Cv G y_MS_grow (d + 2) [vr s, vi l] M (gvQ M s l) := by
  have h1 := hG.1
  have h2 := hG.2.1
  refine k_MS_grow hO hl ?_
  have h47 : ∀ (Z : Nat) (M1 : mM) (ρ : Nat → Nat) (t : Nat) (f : Int), gvI M s l M1 ρ t → cz (mI M1 (s + 36)) (mI M s 1).toNat ≤ Z → ((f = 0 ∧ ∀ j : Nat, (j : Int) < mI M s 1 → mI M1 (s + 36) j = 0 → ¬ comesQ (mkd M1 s) M s j l) ∨ f = 1) → h_MS_grow_39 G (d + 1) s l f M1 (gvQ M s l) := by
    intro Z
    induction Z with
    | zero =>
      intro M1 ρ t f h hz hf
      suffices H : ∀ (n : Nat) (k : Int), mI M s 1 - k = n → 0 ≤ k → h_MS_grow_47 G (d + 1) s l 0 k M1 (gvQ M s l) by
        refine k_MS_grow_39 h.1 hl ⟨by omega, by omega⟩ ⟨fun c => ⟨⟨ρ, t, h⟩, ?_⟩, fun c => H (mI M s 1).toNat 0 (by omega) (by omega)⟩
        rcases hf with q | q
        · exact q.2
        · omega
      have hV1 := hV.fi h.2.1
      have es : mI M1 s = mI M s := h.2.1.2.2.2.2.2.2 s (by omega)
      have hnz : ∀ j : Nat, (j : Int) < mI M s 1 → mI M1 (s + 36) j ≠ 0 := by
        have aux : ∀ (n : Nat), cz (mI M1 (s + 36)) n = 0 → ∀ j, j < n → mI M1 (s + 36) j ≠ 0 := by
          intro n
          induction n with
          | zero => intro _ j hj; omega
          | succ n ih =>
            intro hc j hj
            rw [cz] at hc
            by_cases q : j = n
            · subst q
              intro w
              rw [if_pos w] at hc
              omega
            · exact ih (by omega) j (by omega)
        exact fun j hj => aux (mI M s 1).toNat (by omega) j (by omega)
      intro n
      induction n with
      | zero =>
        intro k hn hk
        refine k_MS_grow_47 h.1 hl ⟨by omega, by omega⟩ ⟨by omega, by omega⟩ ?_
        rw [es]
        refine ⟨hV1.k0, fun _ => k_MS_grow_39 h.1 hl ⟨by omega, by omega⟩ ⟨fun c => ⟨⟨ρ, t, h⟩, fun j hj w => absurd w (hnz j hj)⟩, fun c => absurd rfl c⟩, fun c => by omega⟩
      | succ n ih =>
        intro k hn hk
        refine k_MS_grow_47 h.1 hl ⟨by omega, by omega⟩ ⟨by omega, by omega⟩ ?_
        rw [es, hV1.r19, hV1.n36]
        refine ⟨hV1.k0, fun c => by omega, fun _ => ⟨hV1.k36, by omega, fun c => absurd c (hnz k.toNat (by omega)), fun _ => ih (k + 1) (by omega) (by omega)⟩⟩
    | succ Z ihZ =>
      intro M1 ρ t f h hz hf
      suffices H : ∀ (n : Nat) (k f : Int) (M2 : mM) (ρ : Nat → Nat) (t : Nat), mI M s 1 - k = n → 0 ≤ k → gvI M s l M2 ρ t → ((f = 0 ∧ cz (mI M2 (s + 36)) (mI M s 1).toNat ≤ Z + 1 ∧ ∀ j : Nat, (j : Int) < k → mI M2 (s + 36) j = 0 → ¬ comesQ (mkd M2 s) M s j l) ∨ (f = 1 ∧ cz (mI M2 (s + 36)) (mI M s 1).toNat ≤ Z)) → h_MS_grow_47 G (d + 1) s l f k M2 (gvQ M s l) by
        refine k_MS_grow_39 h.1 hl ⟨by omega, by omega⟩ ⟨fun c => ⟨⟨ρ, t, h⟩, ?_⟩, fun c => H (mI M s 1).toNat 0 0 M1 ρ t (by omega) (by omega) h (Or.inl ⟨rfl, hz, fun j hj => by omega⟩)⟩
        rcases hf with q | q
        · exact q.2
        · omega
      clear hz hf h f t ρ M1
      intro n
      induction n with
      | zero =>
        intro k f M2 ρ t hn hk h hf
        have hV1 := hV.fi h.2.1
        have es : mI M2 s = mI M s := h.2.1.2.2.2.2.2.2 s (by omega)
        have hf01 : f = 0 ∨ f = 1 := by rcases hf with q | q; exact Or.inl q.1; exact Or.inr q.1
        refine k_MS_grow_47 h.1 hl ⟨by omega, by omega⟩ ⟨by omega, by omega⟩ ?_
        rw [es]
        refine ⟨hV1.k0, fun _ => ?_, fun c => by omega⟩
        rcases hf with q | q
        · refine k_MS_grow_39 h.1 hl ⟨by omega, by omega⟩ ⟨fun _ => ⟨⟨ρ, t, h⟩, fun j hj => q.2.2 j (by omega)⟩, fun c => absurd q.1 c⟩
        · exact ihZ M2 ρ t f h q.2 (Or.inr q.1)
      | succ n ih =>
        intro k f M2 ρ t hn hk h hf
        have hV1 := hV.fi h.2.1
        have hG1 := hG.out h.2.1 (by omega) (fun x _ _ => by omega)
        have es : mI M2 s = mI M s := h.2.1.2.2.2.2.2.2 s (by omega)
        have hf01 : f = 0 ∨ f = 1 := by rcases hf with q | q; exact Or.inl q.1; exact Or.inr q.1
        have ek : ((k.toNat : Nat) : Int) = k := by omega
        refine k_MS_grow_47 h.1 hl ⟨by omega, by omega⟩ ⟨by omega, by omega⟩ ?_
        rw [es, hV1.r19, hV1.n36]
        refine ⟨hV1.k0, fun c => by omega, fun _ => ⟨hV1.k36, by omega, fun c => ?_, fun c => ih (k + 1) f M2 ρ t (by omega) (by omega) h ?_⟩⟩
        · have hcm := s_MS_comes (G := G) (d := d) (i := k.toNat) hl h.1 hV1 hG1 (by rw [es]; omega)
          rw [ek] at hcm
          refine hcm.mono (fun x M3 h3 => ?_)
          obtain ⟨e3, hx, hqx⟩ := h3
          subst e3
          rw [comesQ.out h.2.1 (by omega) (fun x _ _ => by omega)] at hqx
          rw [hV1.r19, hV1.n36]
          refine ⟨⟨by omega, by omega⟩, h.1, fun _ => ⟨hV1.k0, hV1.k36, by omega⟩, fun v hv M4 e4 => ?_⟩
          by_cases z : x = 0
          · rw [if_pos z] at hv e4
            subst e4
            refine ⟨h.1, ?_⟩
            rw [hv]
            refine ih (k + 1) f M4 ρ t (by omega) (by omega) h ?_
            rcases hf with q | q
            · refine Or.inl ⟨q.1, q.2.1, fun j hj w => ?_⟩
              by_cases y : j = k.toNat
              · rw [y]
                exact fun cc => (hqx.2 cc) z
              · exact q.2.2 j (by omega) w
            · exact Or.inr q
          · rw [if_neg z] at hv e4
            have o4 : mOk M4 := by rw [e4]; exact mOk_UI h.1 ⟨by omega, by omega⟩
            have hg := gv_mark hG h (i := k.toNat) (by omega) c (hqx.1 z) e4 o4
            refine ⟨o4, ?_⟩
            rw [hv]
            refine ih (k + 1) 1 M4 _ _ (by omega) (by omega) hg (Or.inr ⟨rfl, ?_⟩)
            have hcs := cz_set (f := mI M3 (s + 36)) (g := mI M4 (s + 36)) (i := k.toNat) c (by rw [e4, mI_UI, if_pos ⟨rfl, rfl⟩]) (fun j hj => by rw [e4, mI_UI, if_neg (fun w => hj w.2)]) (mI M s 1).toNat (by omega)
            rcases hf with q | q
            · have := q.2.1; omega
            · have := q.2; omega
        · rcases hf with q | q
          · refine Or.inl ⟨q.1, q.2.1, fun j hj w => ?_⟩
            by_cases y : j = k.toNat
            · subst y
              exact absurd w c
            · exact q.2.2 j (by omega) w
          · exact Or.inr q
  suffices H : ∀ (n : Nat) (k : Int) (M1 : mM), mI M s 1 - k = n → 0 ≤ k → mOk M1 → FI (fun x => x = s + 36) M M1 → (∀ j : Nat, (j : Int) < k → mI M1 (s + 36) j = if mI M (s + 22) j = 3 then 1 else 0) → h_MS_grow_2 G (d + 1) s l k M1 (gvQ M s l) from
    H (mI M s 1).toNat 0 M (by omega) (by omega) hO FI.refl (fun j hj => by omega)
  intro n
  induction n with
  | zero =>
    intro k M1 hn hk o1 f1 hq
    have hV1 := hV.fi f1
    have es : mI M1 s = mI M s := f1.2.2.2.2.2.2 s (by omega)
    refine k_MS_grow_2 o1 hl ⟨by omega, by omega⟩ ?_
    rw [es]
    refine ⟨hV1.k0, fun _ => h47 _ M1 (fun _ => 0) 1 1 ⟨o1, f1, fun j hj => ?_⟩ (Nat.le_refl _) (Or.inr rfl), fun c => by omega⟩
    have e := hq j (by omega)
    by_cases z : mI M (s + 22) j = 3
    · rw [if_pos z] at e
      exact ⟨Or.inr e, fun _ => e, fun _ => ⟨Nat.zero_lt_one, Or.inl z⟩⟩
    · rw [if_neg z] at e
      exact ⟨Or.inl e, fun w => absurd w z, fun w => by omega⟩
  | succ n ih =>
    intro k M1 hn hk o1 f1 hq
    have hV1 := hV.fi f1
    have es : mI M1 s = mI M s := f1.2.2.2.2.2.2 s (by omega)
    have e22 : mI M1 (s + 22) = mI M (s + 22) := f1.2.2.2.2.2.2 _ (by omega)
    refine k_MS_grow_2 o1 hl ⟨by omega, by omega⟩ ?_
    rw [es, hV1.r4, hV1.r19, hV1.n22, hV1.n36, e22]
    refine ⟨hV1.k0, fun c => by omega, fun _ => ⟨hV1.k22, by omega, fun v hv => ⟨hV1.k36, by omega, fun M2 e2 => ?_⟩⟩⟩
    refine ih (k + 1) M2 (by omega) (by omega) (by rw [e2]; exact mOk_UI o1 ⟨by split at hv <;> omega, by split at hv <;> omega⟩) (f1.trans (by rw [e2]; exact FI.ui rfl)) (fun j hj => ?_)
    rw [e2, mI_UI]
    by_cases z : j = k.toNat
    · rw [if_pos ⟨rfl, z⟩, hv, z]
    · rw [if_neg (fun w => z w.2)]
      exact hq j (by omega)
end VS
end
end
section
/-! The reference's solver: how many unknown states, and how heavy. -/
theorem l_shl1 : ∀ k : Nat, k < 63 → shlL 1 (k : Int) = 2 ^ k := by decide
def sm (f : Nat → Int) : Nat → Int
  | 0 => 0
  | n + 1 => sm f n + f n
theorem sm_congr {f g : Nat → Int} : ∀ (n : Nat), (∀ j, j < n → f j = g j) → sm f n = sm g n
  | 0, _ => rfl
  | n + 1, h => by rw [sm, sm, sm_congr n (fun j hj => h j (by omega)), h n (by omega)]
/-- a state whose value must be worked out -/
abbrev unk (M : mM) (s i : Nat) : Prop := mI M (s + 36) i ≠ 0 ∧ mI M (s + 22) i ≠ 3
/-- w bits hold twice what each command of state i that may be taken is divided by -/
def hvy (M : mM) (s i : Nat) (w : Int) : Prop := 0 ≤ w ∧ w ≤ 32 ∧ ∃ D : Int, 1 ≤ D ∧ 2 * D ≤ 2 ^ w.toNat ∧ ∀ k : Nat, (k : Int) < mny M s i → mayP M s i k → mI M (s + 24) ((mI M (s + 23) i).toNat + k) ≤ D
def lokQ (M : mM) (s : Nat) : Prop := ∃ w : Nat → Int, (∀ i : Nat, (i : Int) < mI M s 1 → (unk M s i → hvy M s i (w i)) ∧ (¬ unk M s i → w i = 0)) ∧ sm w (mI M s 1).toNat ≤ 480 ∧ sm (fun i => if unk M s i then 1 else 0) (mI M s 1).toNat ≤ 40
end
section
/-! The unknown states: the least closed set; their weights; what solve answers. Pure. -/
section LST
variable {T : xt9} {J J' : Nat → Prop} {x : Int × List sc9} {c : sc9} {k : Nat} {r r' g g' : Int} {w w' : Nat}
/-- a command leads into J -/
def ldA9 (J : Nat → Prop) (c : sc9) : Prop := ∃ b, b ∈ c.2.2 ∧ J b.1
/-- a state comes to J -/
def coA9 (J : Nat → Prop) (x : Int × List sc9) : Prop := (x.1 = 1 ∧ ∃ c, c ∈ x.2 ∧ ldA9 J c) ∨ (x.1 = 2 ∧ x.2 ≠ [] ∧ ∀ c, c ∈ x.2 → ldA9 J c)
/-- targets are in, and what comes to it -/
def clA9 (T : xt9) (J : Nat → Prop) : Prop := ∀ k x, T[k]? = some x → (x.1 = 3 ∨ coA9 J x) → J k
def lsA9 (T : xt9) (J : Nat → Prop) : Prop := clA9 T J ∧ ∀ J', clA9 T J' → ∀ k, J k → J' k
theorem lsA9.same (h : lsA9 T J) (h' : lsA9 T J') (k : Nat) : J k ↔ J' k := ⟨h.2 J' h'.1 k, h'.2 J h.1 k⟩
theorem ldA9.mono (h : ldA9 J c) (m : ∀ k, J k → J' k) : ldA9 J' c := by
  obtain ⟨b, h1, h2⟩ := h
  exact ⟨b, h1, m _ h2⟩
theorem coA9.mono (h : coA9 J x) (m : ∀ k, J k → J' k) : coA9 J' x := by
  rcases h with ⟨h1, c, h2, h3⟩ | ⟨h1, h2, h3⟩
  · exact Or.inl ⟨h1, c, h2, h3.mono m⟩
  · exact Or.inr ⟨h1, h2, fun c hc => (h3 c hc).mono m⟩
/-- there is one -/
theorem ls_ex : lsA9 T (fun k => ∀ J', clA9 T J' → J' k) := by
  refine ⟨fun k x hx h J' hc => hc k x hx ?_, fun J' hc k h => h J' hc⟩
  rcases h with h | h
  · exact Or.inl h
  · exact Or.inr (h.mono (fun j hj => hj J' hc))
/-- marks with ranks: every closed set holds them -/
theorem rk_in (ρ : Nat → Nat) (h : ∀ k, J k → ∃ x, T[k]? = some x ∧ (x.1 = 3 ∨ coA9 (fun j => J j ∧ ρ j < ρ k) x)) (hc : clA9 T J') : ∀ k, J k → J' k := by
  have H : ∀ n k, ρ k = n → J k → J' k := by
    intro n
    induction n using Nat.strongRecOn with
    | ind n ih =>
      intro k hk hJ
      obtain ⟨x, h1, h2⟩ := h k hJ
      refine hc k x h1 ?_
      rcases h2 with h2 | h2
      · exact Or.inl h2
      · exact Or.inr (h2.mono (fun j hj => ih (ρ j) (by rw [← hk]; exact hj.2) j rfl hj.1))
  exact fun k hJ => H _ k rfl hJ
/-- the greatest multiple, at least 1 -/
def gmA9 (l : List sc9) (g : Int) : Prop := 1 ≤ g ∧ (∀ c, c ∈ l → c.2.1 ≤ g) ∧ (g = 1 ∨ ∃ c, c ∈ l ∧ c.2.1 = g)
theorem gmA9.le {l : List sc9} (h : gmA9 l g) (h' : gmA9 l g') : g ≤ g' := by
  rcases h.2.2 with e | ⟨c, hc, e⟩
  · rw [e]; exact h'.1
  · rw [← e]; exact h'.2.1 c hc
/-- its weight: the least w with 2^w not below twice as much -/
def wtA9 (g : Int) (w : Nat) : Prop := 2 * g ≤ 2 ^ w ∧ ∀ v : Nat, v < w → (2 : Int) ^ v < 2 * g
theorem wtA9.le (h : wtA9 g w) (h' : wtA9 g w') : w ≤ w' := by
  rcases Nat.lt_or_ge w' w with u | u
  · have a := h.2 w' u
    have b := h'.1
    omega
  · exact u
def weA9 (x : Int × List sc9) (w : Int) : Prop := ∃ (g : Int) (v : Nat), gmA9 x.2 g ∧ wtA9 g v ∧ w = ((v : Nat) : Int)
theorem weA9.same {a b : Int} (h : weA9 x a) (h' : weA9 x b) : a = b := by
  obtain ⟨g, v, h1, h2, h3⟩ := h
  obtain ⟨g', v', k1, k2, k3⟩ := h'
  have eg : g = g' := Int.le_antisymm (h1.le k1) (k1.le h1)
  subst eg
  have ev : v = v' := Nat.le_antisymm (h2.le k2) (k2.le h2)
  rw [h3, k3, ev]
/-- which states are unknown: e is 1 there, 0 elsewhere -/
def unA9 (T : xt9) (J : Nat → Prop) (e : Nat → Int) : Prop := ∀ k x, T[k]? = some x → ((J k ∧ x.1 ≠ 3) → e k = 1) ∧ (¬ (J k ∧ x.1 ≠ 3) → e k = 0)
/-- what solve answers -/
def svA9 (T : xt9) (r : Int) : Prop := ∃ (J : Nat → Prop) (e : Nat → Int), lsA9 T J ∧ unA9 T J e ∧ ((40 < sm e T.length ∧ r = 5) ∨ (sm e T.length ≤ 40 ∧ ∃ w : Nat → Int, (∀ k x, T[k]? = some x → (e k = 1 → weA9 x (w k)) ∧ (e k = 0 → w k = 0)) ∧ ((480 < sm w T.length ∧ r = 6) ∨ (sm w T.length ≤ 480 ∧ r = 0))))
theorem svA9.same (h : svA9 T r) (h' : svA9 T r') : r = r' := by
  obtain ⟨J, e, h1, h2, h3⟩ := h
  obtain ⟨J', e', k1, k2, k3⟩ := h'
  have at9 : ∀ k, k < T.length → ∃ x, T[k]? = some x := fun k hk => ⟨_, List.getElem?_eq_getElem hk⟩
  have ee : ∀ k, k < T.length → e k = e' k ∧ (e k = 0 ∨ e k = 1) := fun k hk => by
    obtain ⟨x, hx⟩ := at9 k hk
    have a := h2 k x hx
    have b := k2 k x hx
    have s := h1.same k1 k
    by_cases u : J k ∧ x.1 ≠ 3
    · exact ⟨by rw [a.1 u, b.1 ⟨s.mp u.1, u.2⟩], Or.inr (a.1 u)⟩
    · exact ⟨by rw [a.2 u, b.2 (fun v => u ⟨s.mpr v.1, v.2⟩)], Or.inl (a.2 u)⟩
  have es : sm e T.length = sm e' T.length := sm_congr _ (fun k hk => (ee k hk).1)
  rcases h3 with ⟨a1, a2⟩ | ⟨a1, w, a2, a3⟩
  · rcases k3 with ⟨b1, b2⟩ | ⟨b1, w', b2, b3⟩
    · rw [a2, b2]
    · omega
  · rcases k3 with ⟨b1, b2⟩ | ⟨b1, w', b2, b3⟩
    · omega
    · have ws : sm w T.length = sm w' T.length := sm_congr _ (fun k hk => by
        obtain ⟨x, hx⟩ := at9 k hk
        obtain ⟨e1, e2⟩ := ee k hk
        rcases e2 with y | y
        · rw [(a2 k x hx).2 y, (b2 k x hx).2 (by rw [← e1]; exact y)]
        · exact ((a2 k x hx).1 y).same ((b2 k x hx).1 (by rw [← e1]; exact y)))
      rcases a3 with ⟨u1, u2⟩ | ⟨u1, u2⟩ <;> rcases b3 with ⟨v1, v2⟩ | ⟨v1, v2⟩
      · rw [u2, v2]
      · omega
      · omega
      · rw [u2, v2]
/-- marked states are in the least set: there are no more of them than it has -/
theorem sm_le9 {e f : Nat → Int} : ∀ n, (∀ k, k < n → e k ≤ f k) → sm e n ≤ sm f n
  | 0, _ => Int.le_refl _
  | n + 1, h => by
    have a := sm_le9 n (fun k hk => h k (by omega))
    have b := h n (by omega)
    show sm e n + e n ≤ sm f n + f n
    omega
theorem un_ex (J : Nat → Prop) : ∃ e : Nat → Int, unA9 T J e := by
  refine ⟨fun k => @ite Int (∃ x, T[k]? = some x ∧ J k ∧ x.1 ≠ 3) (Classical.propDecidable _) 1 0, fun k x hx => ⟨fun u => ?_, fun u => ?_⟩⟩
  · exact if_pos ⟨x, hx, u⟩
  · refine if_neg (fun v => ?_)
    obtain ⟨y, hy, v1⟩ := v
    rw [hx] at hy
    have e := Option.some.inj hy
    subst e
    exact u v1
end LST
end
section
/-! The reference's solver: which states are unknown, how heavy they are, exactly. -/
/-- the weight of state i -/
def hvX (M : mM) (s i : Nat) (w : Int) : Prop := ∃ (D : Int) (v : Nat), 1 ≤ D ∧ (∀ k : Nat, (k : Int) < mny M s i → mayP M s i k → mI M (s + 24) ((mI M (s + 23) i).toNat + k) ≤ D) ∧ (D = 1 ∨ ∃ k : Nat, (k : Int) < mny M s i ∧ mayP M s i k ∧ mI M (s + 24) ((mI M (s + 23) i).toNat + k) = D) ∧ wtA9 D v ∧ w = ((v : Nat) : Int)
/-- D is the greatest multiple of the first k commands, at least 1 -/
def gmX (M : mM) (s i k : Nat) (D : Int) : Prop := (∀ k' : Nat, k' < k → mayP M s i k' → mI M (s + 24) ((mI M (s + 23) i).toNat + k') ≤ D) ∧ (D = 1 ∨ ∃ k' : Nat, k' < k ∧ mayP M s i k' ∧ mI M (s + 24) ((mI M (s + 23) i).toNat + k') = D)
def lokX (M : mM) (s : Nat) (x : Int) : Prop := ∃ e w : Nat → Int, (∀ i : Nat, (i : Int) < mI M s 1 → (unk M s i → e i = 1 ∧ hvX M s i (w i)) ∧ (¬ unk M s i → e i = 0 ∧ w i = 0)) ∧ ((40 < sm e (mI M s 1).toNat ∧ x = 5) ∨ (sm e (mI M s 1).toNat ≤ 40 ∧ 480 < sm w (mI M s 1).toNat ∧ x = 6) ∨ (sm e (mI M s 1).toNat ≤ 40 ∧ sm w (mI M s 1).toNat ≤ 480 ∧ x = 0))
section VSX
variable {G : mG} {d s : Nat} {M : mM}
theorem x_MS_weight {j : Int} (h0 : 1 ≤ j) (h1 : j < 2147483648) (hO : mOk M) : Ci G y_MS_weight d [vl j] M (fun x M' => M' = M ∧ 0 ≤ x ∧ x ≤ 32 ∧ wtA9 j x.toNat) := by
  refine k_MS_weight hO ⟨by omega, by omega⟩ ?_
  suffices H : ∀ (n l : Nat), n + l = 32 → (∀ v : Nat, v < l → (2 : Int) ^ v < 2 * j) → h_MS_weight_2 G d j l M (fun x M' => M' = M ∧ 0 ≤ x ∧ x ≤ 32 ∧ wtA9 j x.toNat) from H 32 0 rfl (fun v hv => absurd hv (by omega))
  intro n
  induction n with
  | zero =>
    intro l hl lw
    have e : l = 32 := by omega
    subst e
    refine k_MS_weight_2 hO ⟨by omega, by omega⟩ ⟨by omega, by omega⟩ ⟨⟨by omega, by omega⟩, fun _ => ⟨rfl, by omega, by omega, ?_, fun v hv => lw v (by omega)⟩, fun c => absurd ?_ c⟩
    · show 2 * j ≤ 4294967296
      omega
    · rw [l_shl1 32 (by omega)]
      unfold cmpL
      split
      · omega
      · have : 2 * j ≤ (2 : Int) ^ 32 := by show 2 * j ≤ 4294967296; omega
        rw [if_pos (by omega)]; omega
  | succ n ih =>
    intro l hl lw
    refine k_MS_weight_2 hO ⟨by omega, by omega⟩ ⟨by omega, by omega⟩ ⟨⟨by omega, by omega⟩, fun c => ⟨rfl, by omega, by omega, ?_, fun v hv => lw v (by rw [Int.toNat_natCast] at hv; exact hv)⟩, fun c => ih (l + 1) (by omega) (fun v hv => ?_)⟩
    · rw [l_shl1 l (by omega)] at c
      rw [Int.toNat_natCast]
      unfold cmpL at c
      split at c
      · omega
      · split at c <;> omega
    · by_cases z : v = l
      · rw [z]
        rw [l_shl1 l (by omega)] at c
        unfold cmpL at c
        split at c
        · omega
        · split at c <;> omega
      · exact lw v (by omega)
theorem x_MS_look (hO : mOk M) (hV : Vk M s) (hG : GW M s) : Ci G y_MS_look (d + 3) [vr s] M (fun x M' => gvQ M s 0 M' ∧ lokX M' s x) := by
  have g1 := hG.1
  have g2 := hG.2.1
  have g3 := hG.2.2.1
  refine k_MS_look hO ⟨hV.k0, (s_MS_grow ⟨by omega, by omega⟩ hO hV hG).mono (fun M1 h1 => ?_)⟩
  obtain ⟨ρ, t, hg⟩ := h1.1
  obtain ⟨o1, f1, -⟩ := hg
  have hV1 := hV.fi f1
  have hG1 := hG.out f1 (by omega) (fun x _ _ => by omega)
  have es : mI M1 s = mI M s := f1.2.2.2.2.2.2 s (by omega)
  refine ⟨o1, ?_⟩
  suffices H : ∀ (n i : Nat) (c a : Int) (e w : Nat → Int), mI M s 1 - i = n → (∀ j : Nat, j < i → (unk M1 s j → e j = 1 ∧ hvX M1 s j (w j)) ∧ (¬ unk M1 s j → e j = 0 ∧ w j = 0)) → a = sm w i → c = sm e i → 0 ≤ a → a ≤ 32 * i → 0 ≤ c → c ≤ i → h_MS_look_11 G (d + 2) s c a i M1 (fun x M' => gvQ M s 0 M' ∧ lokX M' s x) from
    H (mI M s 1).toNat 0 0 0 (fun _ => 0) (fun _ => 0) (by omega) (fun j hj => by omega) rfl rfl (by omega) (by omega) (by omega) (by omega)
  intro n
  induction n with
  | zero =>
    intro i c a e w hn hw ha hc a0 a1 c0 c1
    refine k_MS_look_11 o1 ⟨by omega, by omega⟩ ⟨by omega, by omega⟩ ⟨by omega, by omega⟩ ?_
    rw [es]
    have ei : (mI M s 1).toNat = i := by omega
    refine ⟨hV1.k0, fun _ v hv => ⟨h1, e, w, fun j hj => hw j (by rw [es] at hj; omega), ?_⟩, fun q => by omega⟩
    rw [es, ei, ← ha, ← hc]
    split at hv
    · split at hv
      · exact Or.inr (Or.inr ⟨by omega, by omega, hv⟩)
      · exact Or.inr (Or.inl ⟨by omega, by omega, hv⟩)
    · exact Or.inl ⟨by omega, hv⟩
  | succ n ih =>
    intro i c a e w hn hw ha hc a0 a1 c0 c1
    have hi : (i : Int) < mI M1 s 1 := by rw [es]; omega
    have hcm := hG1.cmd hi
    rw [es] at hcm
    have hm0 : 0 ≤ mny M1 s i ∧ mny M1 s i ≤ 4200 := by unfold mny; omega
    refine k_MS_look_11 o1 ⟨by omega, by omega⟩ ⟨by omega, by omega⟩ ⟨by omega, by omega⟩ ?_
    rw [es, hV1.r4, hV1.r19, hV1.n22, hV1.n36, Int.toNat_natCast]
    refine ⟨hV1.k0, fun q => by omega, fun _ => ⟨hV1.k36, by omega, fun _ => ⟨hV1.k22, by omega⟩, fun q => ?_, fun q => ?_⟩⟩
    · have hu : ¬ unk M1 s i := fun u => by rcases q with q | q; exact u.1 q; exact u.2 q
      refine ih (i + 1) c a (fun j => if j = i then 0 else e j) (fun j => if j = i then 0 else w j) (by omega) (fun j hj => ?_) ?_ ?_ a0 (by omega) c0 (by omega)
      · by_cases z : j = i
        · subst z
          exact ⟨fun u => absurd u hu, fun _ => ⟨if_pos rfl, if_pos rfl⟩⟩
        · show (unk M1 s j → (if j = i then 0 else e j) = 1 ∧ hvX M1 s j (if j = i then 0 else w j)) ∧ (¬ unk M1 s j → (if j = i then 0 else e j) = 0 ∧ (if j = i then 0 else w j) = 0)
          rw [if_neg z, if_neg z]
          exact hw j (by omega)
      · rw [sm, sm_congr (g := w) i (fun j hj => if_neg (by omega)), if_pos rfl, ha, Int.add_zero]
      · rw [sm, sm_congr (g := e) i (fun j hj => if_neg (by omega)), if_pos rfl, hc, Int.add_zero]
    · have hu : unk M1 s i := ⟨fun z => q (Or.inl z), fun z => q (Or.inr z)⟩
      suffices H2 : ∀ (m k : Nat) (D : Int), mny M1 s i - k = m → 1 ≤ D → D < 2147483648 → gmX M1 s i k D → h_MS_look_47 G (d + 2) s (c + 1) a i D k M1 (fun x M' => gvQ M s 0 M' ∧ lokX M' s x) from
        H2 (mny M1 s i).toNat 0 1 (by omega) (by omega) (by omega) ⟨fun k' hk => by omega, Or.inl rfl⟩
      intro m
      induction m with
      | zero =>
        intro k D hm d1 d2 hD
        refine k_MS_look_47 o1 ⟨by omega, by omega⟩ ⟨by omega, by omega⟩ ⟨by omega, by omega⟩ ⟨by omega, by omega⟩ ⟨by omega, by omega⟩ ⟨hV1.k0, (s_MS_many o1 hV1 hG1 hi).mono (fun x M2 h2 => ?_)⟩
        obtain ⟨e2, hx⟩ := h2
        subst e2
        refine ⟨⟨by omega, by omega⟩, o1, fun _ => ?_, fun z => by omega⟩
        refine (x_MS_weight d1 d2 o1).mono (fun y M3 h3 => ?_)
        obtain ⟨e3, y0, y1, y2⟩ := h3
        subst e3
        refine ⟨⟨by omega, by omega⟩, o1, ?_⟩
        refine ih (i + 1) (c + 1) (a + y) (fun j => if j = i then 1 else e j) (fun j => if j = i then y else w j) (by omega) (fun j hj => ?_) ?_ ?_ (by omega) (by omega) (by omega) (by omega)
        · by_cases z : j = i
          · subst z
            refine ⟨fun _ => ⟨if_pos rfl, ?_⟩, fun u => absurd hu u⟩
            show hvX M3 s j (if j = j then y else w j)
            rw [if_pos rfl]
            refine ⟨D, y.toNat, d1, fun k' hk' hp => hD.1 k' (by omega) hp, ?_, y2, by omega⟩
            rcases hD.2 with u | ⟨k', u1, u2, u3⟩
            · exact Or.inl u
            · exact Or.inr ⟨k', by omega, u2, u3⟩
          · show (unk M3 s j → (if j = i then 1 else e j) = 1 ∧ hvX M3 s j (if j = i then y else w j)) ∧ (¬ unk M3 s j → (if j = i then 1 else e j) = 0 ∧ (if j = i then y else w j) = 0)
            rw [if_neg z, if_neg z]
            exact hw j (by omega)
        · rw [sm, sm_congr (g := w) i (fun j hj => if_neg (by omega)), if_pos rfl, ha]
        · rw [sm, sm_congr (g := e) i (fun j hj => if_neg (by omega)), if_pos rfl, hc]
      | succ m ih2 =>
        intro k D hm d1 d2 hD
        have hk9 : (k : Int) < 100000 := by omega
        refine k_MS_look_47 o1 ⟨by omega, by omega⟩ ⟨by omega, by omega⟩ ⟨by omega, by omega⟩ ⟨by omega, by omega⟩ ⟨by omega, by omega⟩ ⟨hV1.k0, (s_MS_many o1 hV1 hG1 hi).mono (fun x M2 h2 => ?_)⟩
        obtain ⟨e2, hx⟩ := h2
        subst e2
        have ec : (mI M2 (s + 23) i + (k : Int)).toNat = (mI M2 (s + 23) i).toNat + k := by omega
        have hik : (k : Int) < mI M2 (s + 23) (i + 1) - mI M2 (s + 23) i := by have : mny M2 s i = mI M2 (s + 23) (i + 1) - mI M2 (s + 23) i := rfl; omega
        rw [hV1.r5, hV1.r6, hV1.n23, hV1.n24, Int.toNat_natCast, ec]
        refine ⟨⟨by omega, by omega⟩, o1, fun z => by omega, fun _ => ⟨hV1.k0, hV1.k23, by omega, hV1.k24, by omega, ?_⟩⟩
        refine (s_MS_may hk9 o1 hV1 hG1 hi).mono (fun y M3 h3 => ?_)
        obtain ⟨e3, hy, hqy⟩ := h3
        subst e3
        refine ⟨⟨by omega, by omega⟩, o1, fun v hv => ?_⟩
        have hr : mI M3 (s + 24) ((mI M3 (s + 23) i).toNat + k) < 2147483648 := by have := (o1 (s + 24) ((mI M3 (s + 23) i).toNat + k)).1; unfold i32 at this; omega
        refine ih2 (k + 1) v (by omega) (by split at hv <;> omega) (by split at hv <;> omega) ⟨fun k' hk' hp => ?_, ?_⟩
        · by_cases z : k' = k
          · subst z
            have hy0 : y ≠ 0 := hqy.2 hp
            split at hv <;> omega
          · have := hD.1 k' (by omega) hp
            split at hv <;> omega
        · split at hv
          · rw [hv]
            rcases hD.2 with u | ⟨k', u1, u2, u3⟩
            · exact Or.inl u
            · exact Or.inr ⟨k', by omega, u2, u3⟩
          · rename_i c9
            exact Or.inr ⟨k, by omega, hqy.1 (fun z => c9 (Or.inl z)), hv.symm⟩
theorem lokX.q {x : Int} (o : mOk M) (h : lokX M s x) : (x = 0 ∨ x = 5 ∨ x = 6) ∧ (x = 0 → lokQ M s) := by
  obtain ⟨e, w, hw, hr⟩ := h
  refine ⟨by rcases hr with ⟨-, y⟩ | ⟨-, -, y⟩ | ⟨-, -, y⟩ <;> omega, fun x0 => ?_⟩
  have hb : sm e (mI M s 1).toNat ≤ 40 ∧ sm w (mI M s 1).toNat ≤ 480 := by
    rcases hr with ⟨-, y⟩ | ⟨-, -, y⟩ | ⟨y1, y2, -⟩
    · omega
    · omega
    · exact ⟨y1, y2⟩
  clear hr
  refine ⟨w, fun i hi => ⟨fun u => ?_, fun u => ((hw i hi).2 u).2⟩, hb.2, ?_⟩
  · obtain ⟨-, D, v, d1, d2, d3, d4, d5⟩ := (hw i hi).1 u
    have D9 : D < 2147483648 := by
      rcases d3 with y | ⟨k, -, -, y⟩
      · omega
      · have q := (o (s + 24) ((mI M (s + 23) i).toNat + k)).1
        unfold i32 at q
        omega
    have v32 : v ≤ 32 := by
      rcases Nat.lt_or_ge 32 v with c | c
      · have q := d4.2 32 c
        have e9 : (2 : Int) ^ 32 = 4294967296 := by decide
        omega
      · exact c
    rw [d5]
    exact ⟨by omega, by omega, D, d1, by rw [Int.toNat_natCast]; exact d4.1, d2⟩
  · rw [sm_congr (g := e) _ (fun i hi => ?_)]
    · exact hb.1
    · show (if unk M s i then (1 : Int) else 0) = e i
      by_cases u : unk M s i
      · rw [if_pos u, ((hw i (by omega)).1 u).1]
      · rw [if_neg u, ((hw i (by omega)).2 u).1]
end VSX
end
section
/-! Kinds of states: a state of no player has no commands. Pure. -/
section KDT
variable {ev : List Int → Nat → Nat → vrs} {stp : List Int → List (Nat × Nat × Nat × Nat) → (Int × Int) × List Int} {sg : List Int} {nb c : Nat} {cm : cm9} {cms : List cm9} {s : sl9}
/-- a state of no player has no commands -/
def kdX (k : Int) (l : List sc9) : Prop := k = 1 ∨ k = 2 ∨ l = []
def kdT (T : xt9) : Prop := ∀ x, x ∈ T → kdX x.1 x.2
def kdS (s : sl9) : Prop := kdX s.2.2.1 s.2.2.2
theorem ite_sl {P : sl9 → Prop} {c : Prop} {_ : Decidable c} {a b : sl9} (ha : P a) (hb : P b) : P (if c then a else b) := by
  split
  · exact ha
  · exact hb
theorem tcq_kd (hc : cm.1 = 1 ∨ cm.1 = 2) (h : kdS s) : kdS (tcq9 ev stp sg nb c cm s) := by
  unfold tcq9
  refine ite_sl (P := kdS) h (ite_sl (P := kdS) h (ite_sl (P := kdS) h (ite_sl (P := kdS) h (ite_sl (P := kdS) h (ite_sl (P := kdS) h ?_)))))
  rcases hc with e | e
  · exact Or.inl e
  · exact Or.inr (Or.inl e)
theorem tsq_kd : ∀ (l : List cm9) (c : Nat) (s : sl9), (∀ cm, cm ∈ l → cm.1 = 1 ∨ cm.1 = 2) → kdS s → kdS (tsq9 ev stp sg nb l c s)
  | [], _, _, _, h => h
  | cm :: r, c, s, hl, h => by
    show kdS (if s.1.1 ≠ 0 then s else tsq9 ev stp sg nb r (c + 1) (tcq9 ev stp sg nb c cm s))
    exact ite_sl (P := kdS) h (tsq_kd r (c + 1) _ (fun x hx => hl x (List.mem_cons_of_mem _ hx)) (tcq_kd (hl cm List.mem_cons_self) h))
theorem ssq_kd {tg : Nat × Nat} {S : List (List Int)} (hl : ∀ cm, cm ∈ cms → cm.1 = 1 ∨ cm.1 = 2) : kdS (ssq9 ev stp tg cms sg nb S) := by
  unfold ssq9
  exact ite_sl (P := kdS) (Or.inr (Or.inr rfl)) (ite_sl (P := kdS) (Or.inr (Or.inr rfl)) (tsq_kd cms 0 _ hl (Or.inr (Or.inr rfl))))
theorem exq_kd {tg : Nat × Nat} (hl : ∀ cm, cm ∈ cms → cm.1 = 1 ∨ cm.1 = 2) : ∀ (f k : Nat) (S : List (List Int)) (T : xt9), kdT T → kdT (exq9 ev stp tg cms f k S T).2.2.2
  | 0, _, _, _, h => h
  | f + 1, k, S, T, h => by
    rw [exq9]
    split
    · exact h
    · rename_i sg _
      split
      · exact fun x hx => absurd hx List.not_mem_nil
      · refine exq_kd hl f (k + 1) _ _ (fun x hx => ?_)
        rcases List.mem_append.mp hx with u | u
        · exact h x u
        · rw [List.mem_singleton.mp u]
          exact ssq_kd (sg := sg) hl
theorem xpl_kd {tg : Nat × Nat} {s0 : List Int} (hl : ∀ cm, cm ∈ cms → cm.1 = 1 ∨ cm.1 = 2) : kdT (xpl9 ev stp tg cms s0).2.2.2 := exq_kd hl 513 0 _ [] (fun x hx => absurd hx List.not_mem_nil)
end KDT
end
section
/-! WITHIN: what within answers. Pure. -/
section WIT
variable {T : xt9} {x x' : Nat → Rat} {n : Nat} {r r' : Int} {f g : Nat → Rat} {mx : Prop}
/-- shares times numbers -/
def wsL9 (x : Nat → Rat) : List (Nat × Int) → Rat
  | [] => 0
  | b :: l => (b.2 : Rat) * x b.1 + wsL9 x l
/-- a command's worth -/
def wr9 (x : Nat → Rat) (c : sc9) : Rat := wsL9 x c.2.2 * (c.2.1 : Rat)⁻¹
/-- the best of the commands 0 to i -/
noncomputable def bst9 (mx : Prop) (f : Nat → Rat) : Nat → Rat
  | 0 => f 0
  | i + 1 => @ite Rat ((mx ∧ bst9 mx f i < f (i + 1)) ∨ (¬ mx ∧ f (i + 1) < bst9 mx f i)) (Classical.propDecidable _) (f (i + 1)) (bst9 mx f i)
theorem bst_cg : ∀ i, (∀ j, j ≤ i → f j = g j) → bst9 mx f i = bst9 mx g i
  | 0, h => h 0 (Nat.le_refl _)
  | i + 1, h => by
    have a := bst_cg i (fun j hj => h j (by omega))
    have b := h (i + 1) (Nat.le_refl _)
    unfold bst9
    rw [a, b]
/-- command i of a state -/
def cq0 (y : Int × List sc9) (i : Nat) : sc9 := y.2.getD i (0, 1, [])
/-- a state's number after one more move -/
noncomputable def stv9 (x : Nat → Rat) (y : Int × List sc9) : Rat := match y.2.length with
  | 0 => if y.1 = 3 then 1 else 0
  | j + 1 => bst9 (y.1 = 1) (fun i => wr9 x (cq0 y i)) j
/-- WITHIN -/
noncomputable def wi9 (T : xt9) : Nat → Nat → Rat
  | 0 => fun k => ((T[k]?).map (fun y => if y.1 = 3 then (1 : Rat) else 0)).getD 0
  | m + 1 => fun k => ((T[k]?).map (fun y => stv9 (wi9 T m) y)).getD 0
/-- a number whose parts have at most 480 bits -/
def ft9 (q : Rat) : Prop := ∃ a b : Int, (0 ≤ a ∧ 0 < b) ∧ (a < 2 ^ 480 ∧ b < 2 ^ 480) ∧ q * (b : Rat) = (a : Rat)
/-- what within answers -/
def anA9 (T : xt9) (n : Nat) (r : Int) : Prop := (r = 0 ∧ ∀ m, m ≤ n → ∀ k, k < T.length → ft9 (wi9 T m k)) ∨ (r = 6 ∧ ∃ m, m ≤ n ∧ ∃ k, k < T.length ∧ ¬ ft9 (wi9 T m k))
theorem anA9.same (h : anA9 T n r) (h' : anA9 T n r') : r = r' := by
  rcases h with ⟨a1, a2⟩ | ⟨a1, m, a2, k, a3, a4⟩
  · rcases h' with ⟨b1, b2⟩ | ⟨b1, m', b2, k', b3, b4⟩
    · rw [a1, b1]
    · exact absurd (a2 m' b2 k' b3) b4
  · rcases h' with ⟨b1, b2⟩ | ⟨b1, m', b2, k', b3, b4⟩
    · exact absurd (b2 m a2 k a3) a4
    · rw [a1, b1]
theorem wsL_cg : ∀ l : List (Nat × Int), (∀ b, b ∈ l → x b.1 = x' b.1) → wsL9 x l = wsL9 x' l
  | [], _ => rfl
  | b :: l, h => by
    show (b.2 : Rat) * x b.1 + wsL9 x l = (b.2 : Rat) * x' b.1 + wsL9 x' l
    rw [h b List.mem_cons_self, wsL_cg l (fun c hc => h c (List.mem_cons_of_mem _ hc))]
theorem wr_cg {c : sc9} (h : ∀ b, b ∈ c.2.2 → x b.1 = x' b.1) : wr9 x c = wr9 x' c := by
  unfold wr9
  rw [wsL_cg c.2.2 h]
theorem cq0_of {y : Int × List sc9} {i : Nat} {c : sc9} (h : y.2[i]? = some c) : cq0 y i = c := by
  unfold cq0
  rw [List.getD_eq_getElem?_getD, h]
  all_goals rfl
/-- no parts of at most 480 bits: those in least terms are longer -/
theorem nft_of {q : Rat} {a b : Int} (e : q * (b : Rat) = (a : Rat)) (a0 : 0 ≤ a) (b0 : 0 < b) (hg : Int.gcd a b = 1) (h : 2 ^ 480 ≤ a ∨ 2 ^ 480 ≤ b) : ¬ ft9 q := by
  rintro ⟨a', b', ⟨c0, c1⟩, ⟨c2, c3⟩, e'⟩
  have x1 : ((a * b' : Int) : Rat) = ((a' * b : Int) : Rat) := by
    rw [Rat.intCast_mul, Rat.intCast_mul, ← e, ← e']
    grind
  have x2 : a * b' = a' * b := by exact_mod_cast x1
  have hc : Nat.Coprime b.natAbs a.natAbs := by
    unfold Nat.Coprime
    rw [Nat.gcd_comm]
    exact hg
  have hd : b.natAbs ∣ a.natAbs * b'.natAbs := by
    rw [← Int.natAbs_mul, x2, Int.natAbs_mul]
    exact Nat.dvd_mul_left _ _
  have d2 : b ∣ b' := Int.natAbs_dvd_natAbs.1 (hc.dvd_of_dvd_mul_left hd)
  obtain ⟨t, ht⟩ := d2
  have t1 : 1 ≤ t := by
    rcases Int.lt_or_le 0 t with u | u
    · omega
    · have w := Int.mul_le_mul_of_nonneg_left u (Int.le_of_lt b0)
      rw [Int.mul_zero, ← ht] at w
      omega
  have s1 : b ≤ b' := by
    have w := Int.mul_le_mul_of_nonneg_left t1 (Int.le_of_lt b0)
    rw [Int.mul_one, ← ht] at w
    exact w
  have x3 : a * t = a' := by
    have w : b * (a * t) = b * a' := by
      rw [Int.mul_comm b a', ← x2, ht]
      grind
    exact Int.eq_of_mul_eq_mul_left (by omega) w
  have s2 : a ≤ a' := by
    have w := Int.mul_le_mul_of_nonneg_left t1 a0
    rw [Int.mul_one, x3] at w
    exact w
  omega
end WIT
end
section
/-! Determinants: by the first row. -/
theorem sm_add {f g : Nat → Int} : ∀ (n : Nat), sm (fun j => f j + g j) n = sm f n + sm g n
  | 0 => rfl
  | n + 1 => by rw [sm, sm, sm, sm_add n]; omega
theorem sm_mul {f : Nat → Int} {x : Int} : ∀ (n : Nat), sm (fun j => x * f j) n = x * sm f n
  | 0 => by simp [sm]
  | n + 1 => by rw [sm, sm, sm_mul n, Int.mul_add]
theorem sm_zero {f : Nat → Int} : ∀ (n : Nat), (∀ j, j < n → f j = 0) → sm f n = 0
  | 0, _ => rfl
  | n + 1, h => by rw [sm, sm_zero n (fun j hj => h j (by omega)), h n (by omega)]; rfl
/-- only two terms, which cancel -/
theorem sm_two {f : Nat → Int} {c : Nat} (h : f c + f (c + 1) = 0) : ∀ (n : Nat), c + 1 < n → (∀ j, j < n → j ≠ c → j ≠ c + 1 → f j = 0) → sm f n = 0
  | 0, hc, _ => by omega
  | n + 1, hc, h0 => by
    rw [sm]
    by_cases q : n = c + 1
    · subst q
      rw [sm, sm_zero c (fun j hj => h0 j (by omega) (by omega) (by omega))]
      omega
    · rw [sm_two h n (by omega) (fun j hj => h0 j (by omega)), h0 n (by omega) (by omega) (by omega)]
      rfl
def sk (j c : Nat) : Nat := if c < j then c else c + 1
def del (j : Nat) (A : Nat → Nat → Int) : Nat → Nat → Int := fun r c => A (r + 1) (sk j c)
def det : Nat → (Nat → Nat → Int) → Int
  | 0, _ => 1
  | n + 1, A => sm (fun j => (-1) ^ j * A 0 j * det n (del j A)) (n + 1)
theorem det_congr : ∀ (n : Nat) {A B : Nat → Nat → Int}, (∀ r c, r < n → c < n → A r c = B r c) → det n A = det n B
  | 0, _, _, _ => rfl
  | n + 1, A, B, h => by
    rw [det, det]
    refine sm_congr (n + 1) (fun j hj => ?_)
    rw [h 0 j (by omega) hj, det_congr n (A := del j A) (B := del j B) (fun r c hr hc => ?_)]
    unfold del sk
    exact h _ _ (by omega) (by split <;> omega)
def rc (A : Nat → Nat → Int) (c : Nat) (v : Nat → Int) : Nat → Nat → Int := fun r k => if k = c then v r else A r k
theorem del_rc_ne {A : Nat → Nat → Int} {c j : Nat} {v : Nat → Int} (h : j ≠ c) : del j (rc A c v) = rc (del j A) (if j < c then c - 1 else c) (fun r => v (r + 1)) := by
  funext r k
  have e : sk j k = c ↔ k = (if j < c then c - 1 else c) := by unfold sk; split <;> split <;> omega
  show (if sk j k = c then v (r + 1) else A (r + 1) (sk j k)) = (if k = (if j < c then c - 1 else c) then v (r + 1) else A (r + 1) (sk j k))
  by_cases q : sk j k = c
  · rw [if_pos q, if_pos (e.1 q)]
  · rw [if_neg q, if_neg (fun w => q (e.2 w))]
theorem del_rc_eq {A : Nat → Nat → Int} {c : Nat} {v : Nat → Int} : del c (rc A c v) = del c A := by
  funext r k
  unfold del rc sk
  rw [if_neg (by split <;> omega)]
theorem det_lin : ∀ (n : Nat) {A : Nat → Nat → Int} {c : Nat} {x : Int} {u w : Nat → Int}, c < n → det n (rc A c (fun r => x * u r + w r)) = x * det n (rc A c u) + det n (rc A c w)
  | 0, _, _, _, _, _, h => by omega
  | n + 1, A, c, x, u, w, h => by
    rw [det, det, det, ← sm_mul, ← sm_add]
    refine sm_congr (n + 1) (fun j hj => ?_)
    by_cases q : j = c
    · subst q
      rw [del_rc_eq, del_rc_eq, del_rc_eq]
      show (-1) ^ j * (if j = j then x * u 0 + w 0 else A 0 j) * _ = x * ((-1) ^ j * (if j = j then u 0 else A 0 j) * _) + (-1) ^ j * (if j = j then w 0 else A 0 j) * _
      rw [if_pos rfl, if_pos rfl, if_pos rfl]
      generalize (-1 : Int) ^ j = s
      generalize det n (del j A) = D
      grind
    · rw [del_rc_ne q, del_rc_ne q, del_rc_ne q]
      show (-1) ^ j * (if j = c then x * u 0 + w 0 else A 0 j) * det n (rc (del j A) (if j < c then c - 1 else c) (fun r => x * u (r + 1) + w (r + 1))) = x * ((-1) ^ j * (if j = c then u 0 else A 0 j) * _) + (-1) ^ j * (if j = c then w 0 else A 0 j) * _
      rw [if_neg q, if_neg q, if_neg q, det_lin n (A := del j A) (u := fun r => u (r + 1)) (w := fun r => w (r + 1)) (by split <;> omega)]
      generalize (-1 : Int) ^ j = s
      generalize det n (rc (del j A) _ (fun r => u (r + 1))) = D
      generalize det n (rc (del j A) _ (fun r => w (r + 1))) = E
      grind
theorem det_adj : ∀ (n : Nat) {A : Nat → Nat → Int} {c : Nat}, c + 1 < n → (∀ r, r < n → A r c = A r (c + 1)) → det n A = 0
  | 0, _, _, h, _ => by omega
  | n + 1, A, c, h, e => by
    rw [det]
    refine sm_two (c := c) ?_ (n + 1) h (fun j hj j1 j2 => ?_)
    · have hd : det n (del c A) = det n (del (c + 1) A) := by
        refine det_congr n (fun r k hr hk => ?_)
        unfold del sk
        by_cases q : k < c
        · rw [if_pos q, if_pos (by omega)]
        · by_cases z : k = c
          · subst z
            rw [if_neg q, if_pos (by omega)]
            exact (e (r + 1) (by omega)).symm
          · rw [if_neg q, if_neg (by omega)]
      rw [hd, e 0 (by omega), Int.pow_succ]
      generalize (-1 : Int) ^ c = s
      generalize det n (del (c + 1) A) = D
      grind
    · have hz : det n (del j A) = 0 := by
        by_cases q : j < c
        · refine det_adj n (c := c - 1) (by omega) (fun r hr => ?_)
          unfold del sk
          rw [if_neg (by omega), if_neg (by omega), show c - 1 + 1 = c by omega]
          exact e (r + 1) (by omega)
        · refine det_adj n (c := c) (by omega) (fun r hr => ?_)
          unfold del sk
          rw [if_pos (by omega), if_pos (by omega)]
          exact e (r + 1) (by omega)
      rw [hz, Int.mul_zero]
end
