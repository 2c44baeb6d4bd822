section
section
/-! The reference's fractions. -/
def Ft (M : mM) (f r : Nat) : Prop := Fk M f ∧ Wh M (f + 1) r ∧ Wh M (f + 3) r
abbrev fS (f : Nat) : Nat → Prop := fun x => f ≤ x ∧ x ≤ f + 4
theorem Fq.ft {M : mM} {f r : Nat} (h : Fq M f r) : Ft M f r := ⟨h.1, h.2.1.1, h.2.2.1.1⟩
theorem Ft.out {S : Nat → Prop} {M M' : mM} {f r : Nat} (h : Ft M f r) (k : FI S M M') (hs : ∀ x, S x → x < f ∨ f + 4 < x) : Ft M' f r :=
  ⟨h.1.fi k, h.2.1.out k (fun q => by have := hs _ q; omega), h.2.2.out k (fun q => by have := hs _ q; omega)⟩
theorem Fc.out {S : Nat → Prop} {M M' : mM} {f r : Nat} (c : Fc M f) (h : Fq M f r) (k : FI S M M') (hs : ∀ x, S x → x < f ∨ f + 4 < x) : Fc M' f := by
  have e := h.out k hs
  unfold Fc xn at c ⊢
  rw [e.2.2.2.1, e.2.2.2.2.1, e.2.2.2.2.2]
  exact c
theorem sn_zero {M : mM} {f : Nat} : sn M f = 0 ↔ wv M (f + 1) = 0 := by
  unfold sn
  split <;> omega
section FS
variable {G : mG} {d a b r rb : Nat} {M : mM}
theorem s_MF_isZero (hO : mOk M) (hA : Fq M a r) : Ci G y_MF_isZero (d + 1) [vr a] M (fun x M' => M' = M ∧ x = if sn M a = 0 then 1 else 0) := by
  refine k_MF_isZero hO ?_
  rw [hA.1.2.1]
  refine ⟨hA.1.1, hA.2.1.1.1, (s_MW_isZero hO hA.2.1.1).mono (fun x M1 h1 => ?_)⟩
  obtain ⟨e1, hx⟩ := h1
  subst e1
  have hz := hA.2.1.zero
  have hx' : x = if sn M1 a = 0 then 1 else 0 := by
    rw [hx]
    by_cases q : mI M1 (a + 1) 1 = 0
    · rw [if_pos q, if_pos (sn_zero.2 (hz.1 q))]
    · rw [if_neg q, if_neg (fun w => q (hz.2 (sn_zero.1 w)))]
  have h01 : x = 0 ∨ x = 1 := by split at hx' <;> omega
  exact ⟨⟨by omega, by omega⟩, hO, h01, rfl, hx'⟩
theorem s_MF_set {j k : Int} (hj : i64 j) (hj2 : -9223372036854775808 < j) (hk : i64 k) (hk0 : 0 < k) (hO : mOk M) (hA : Ft M a r) (hr : 3 ≤ r) : Cv G y_MF_set (d + 1) [vr a, vl j, vl k] M (fun M' => mOk M' ∧ FI (fS a) M M' ∧ Fq M' a r ∧ sn M' a = j ∧ sd M' a = k ∧ (j = 0 → mI M' a 2 = 0)) := by
  unfold i64 at hj hk
  refine k_MF_set hO hj hk (fun v hv => ⟨hA.1.1, fun M1 e1 w hw => ?_⟩)
  have hv' : v = if 0 ≤ j then 0 else 1 := by
    rw [hv]; unfold cmpL
    by_cases q : 0 ≤ j
    · rw [if_pos q, if_pos]; split <;> (try split) <;> omega
    · rw [if_neg q, if_neg]; split <;> (try split) <;> omega
  have hw' : w = if 0 ≤ j then j else -j := by
    rw [hw]; unfold cmpL
    by_cases q : 0 ≤ j
    · rw [if_pos q, if_pos]; split <;> (try split) <;> omega
    · rw [if_neg q, if_neg]; split <;> (try split) <;> omega
  have h01 : v = 0 ∨ v = 1 := by split at hv' <;> omega
  have f1 : FI (fun x => x = a) M M1 := by rw [e1]; exact FI.ui rfl
  have o1 : mOk M1 := by rw [e1]; exact mOk_UI hO ⟨by omega, by omega⟩
  have v1 : mI M1 a 2 = v := by rw [e1, mI_UI, if_pos ⟨rfl, rfl⟩]
  have A1 : Fk M1 a := hA.1.fi f1
  have t1 := hA.2.1.out f1 (by omega)
  have b1 := hA.2.2.out f1 (by omega)
  rw [A1.2.1]
  refine ⟨t1.1, (s_MW_set (by split at hw' <;> omega) (by split at hw' <;> omega) ⟨by split at hw' <;> omega, by split at hw' <;> omega⟩ o1 t1 hr).mono (fun M2 h2 => ?_)⟩
  obtain ⟨g1, g2, g3, g4⟩ := h2
  have A2 := A1.fi g2
  have b2 := b1.out g2 (by omega)
  refine ⟨g1, A2.1, ?_⟩
  rw [A2.2.2]
  refine ⟨b2.1, (s_MW_set (by omega) (by omega) hk g1 b2 hr).mono (fun M3 h3 => ?_)⟩
  obtain ⟨k1, k2, k3, k4⟩ := h3
  obtain ⟨t3, vt3⟩ := g3.out k2 (by omega) (by omega)
  have i3 : mI M3 a 2 = v := by rw [k2.2.2.2.2.2.2 a (by omega), g2.2.2.2.2.2.2 a (by omega)]; exact v1
  refine ⟨k1, k1, ((f1.mono (fun x q => by omega)).trans (g2.mono (fun x q => by omega))).trans (k2.mono (fun x q => by omega)), ⟨A2.fi k2, t3, k3, by rw [i3]; exact h01, by omega⟩, ?_, k4, fun q => ?_⟩
  · unfold sn
    rw [i3, vt3, g4, hv', hw']
    by_cases q : 0 ≤ j
    · simp [q]
    · simp [q]
  · rw [i3, hv', if_pos (by omega)]
theorem s_MF_copy (hO : mOk M) (hA : Ft M a r) (hB : Fq M b rb) (hne : a + 4 < b ∨ b + 4 < a) (z1 : mI M (b + 1) 1 ≤ r) (z2 : mI M (b + 3) 1 ≤ r) : Cv G y_MF_copy (d + 1) [vr a, vr b] M (fun M' => mOk M' ∧ FI (fS a) M M' ∧ Fq M' a r ∧ wv M' (a + 1) = wv M (b + 1) ∧ wv M' (a + 3) = wv M (b + 3) ∧ mI M' a 2 = mI M b 2) := by
  refine k_MF_copy hO ⟨hB.1.1, hA.1.1, hB.2.2.2.1, fun M1 e1 => ?_⟩
  have f1 : FI (fun x => x = a) M M1 := by rw [e1]; exact FI.ui rfl
  have h01 := hB.2.2.2.1
  have o1 : mOk M1 := by rw [e1]; exact mOk_UI hO ⟨by omega, by omega⟩
  have v1 : mI M1 a 2 = mI M b 2 := by rw [e1, mI_UI, if_pos ⟨rfl, rfl⟩]
  have A1 : Fk M1 a := hA.1.fi f1
  have B1 := hB.out f1 (fun x q => by omega)
  have t1 := hA.2.1.out f1 (by omega)
  have b1 := hA.2.2.out f1 (by omega)
  have e2 : mI M1 (b + 1) = mI M (b + 1) := f1.2.2.2.2.2.2 _ (by omega)
  have e3 : mI M1 (b + 3) = mI M (b + 3) := f1.2.2.2.2.2.2 _ (by omega)
  rw [A1.2.1, B1.1.1.2.1]
  refine ⟨t1.1, (s_MW_copy o1 t1 B1.1.2.1 (by omega) (by rw [e2]; exact z1)).mono (fun M2 h2 => ?_)⟩
  obtain ⟨g1, g2, g3, g4⟩ := h2
  have A2 := A1.fi g2
  have B2 := B1.1.out g2 (fun x q => by omega)
  have b2 := b1.out g2 (by omega)
  have e4 : mI M2 (b + 3) = mI M1 (b + 3) := g2.2.2.2.2.2.2 _ (by omega)
  refine ⟨g1, A2.1, B2.1.1.1, ?_⟩
  rw [A2.2.2, B2.1.1.2.2]
  refine ⟨b2.1, (s_MW_copy g1 b2 B2.1.2.2.1 (by omega) (by rw [e4, e3]; exact z2)).mono (fun M3 h3 => ?_)⟩
  obtain ⟨k1, k2, k3, k4⟩ := h3
  obtain ⟨t3, vt3⟩ := g3.out k2 (by omega) (by omega)
  have i3 : mI M3 a 2 = mI M b 2 := by rw [k2.2.2.2.2.2.2 a (by omega), g2.2.2.2.2.2.2 a (by omega)]; exact v1
  have eb : wv M3 (a + 3) = wv M (b + 3) := by rw [k4, B2.2.2.2.2.1, B1.2.2.2.2.1]
  refine ⟨k1, k1, ((f1.mono (fun x q => by omega)).trans (g2.mono (fun x q => by omega))).trans (k2.mono (fun x q => by omega)), ⟨A2.fi k2, t3, k3, by rw [i3]; exact h01, by rw [eb]; exact hB.2.2.2.2⟩, by rw [vt3, g4, B1.2.2.2.1], eb, i3⟩
end FS
end
section
/-! The reference's solver: its places, and which states come to the end. -/
/-- the places of the solver at s: nothing here changes when ints change -/
def Vk (M : mM) (s : Nat) : Prop := mK M s = 17 ∧ (mR M s 0 = s + 1 ∧ mR M s 4 = s + 22 ∧ mR M s 5 = s + 23 ∧ mR M s 6 = s + 24 ∧ mR M s 7 = s + 25 ∧ mR M s 8 = s + 26 ∧ mR M s 9 = s + 27 ∧ mR M s 10 = s + 28)
  ∧ (mR M s 11 = s + 29 ∧ mR M s 12 = s + 30 ∧ mR M s 13 = s + 31 ∧ mR M s 14 = s + 32 ∧ mR M s 15 = s + 33 ∧ mR M s 16 = s + 34 ∧ mR M s 18 = s + 35 ∧ mR M s 19 = s + 36 ∧ mR M s 20 = s + 37)
  ∧ (mR M s 21 = s + 38 ∧ mR M s 22 = s + 39 ∧ mR M s 23 = s + 40 ∧ mR M s 25 = s + 41 ∧ mR M s 26 = s + 42 ∧ mR M s 27 = s + 47 ∧ mR M s 28 = s + 52 ∧ mR M s 29 = s + 57 ∧ mR M s 30 = s + 62 ∧ mR M s 31 = s + 67)
  ∧ (mK M (s + 22) = 30 ∧ mK M (s + 23) = 30 ∧ mK M (s + 24) = 30 ∧ mK M (s + 25) = 30 ∧ mK M (s + 26) = 30 ∧ mK M (s + 27) = 30 ∧ mK M (s + 28) = 30)
  ∧ (mK M (s + 29) = 36 ∧ mK M (s + 30) = 31 ∧ mK M (s + 31) = 36 ∧ mK M (s + 32) = 30 ∧ mK M (s + 33) = 30 ∧ mK M (s + 34) = 30 ∧ mK M (s + 35) = 30 ∧ mK M (s + 36) = 31 ∧ mK M (s + 37) = 31 ∧ mK M (s + 38) = 36 ∧ mK M (s + 39) = 30 ∧ mK M (s + 40) = 30 ∧ mK M (s + 41) = 36 ∧ mK M (s + 67) = 30)
  ∧ (mN M (s + 22) = 513 ∧ mN M (s + 23) = 514 ∧ mN M (s + 24) = 4200 ∧ mN M (s + 25) = 4201 ∧ mN M (s + 26) = 4096 ∧ mN M (s + 27) = 4096 ∧ mN M (s + 28) = 4096)
  ∧ (mN M (s + 29) = 1536 ∧ mN M (s + 30) = 3 ∧ mN M (s + 31) = 512 ∧ mN M (s + 32) = 512 ∧ mN M (s + 33) = 512 ∧ mN M (s + 34) = 512 ∧ mN M (s + 35) = 512 ∧ mN M (s + 36) = 512 ∧ mN M (s + 37) = 512 ∧ mN M (s + 38) = 512 ∧ mN M (s + 39) = 40 ∧ mN M (s + 40) = 512 ∧ mN M (s + 41) = 1640 ∧ mN M (s + 67) = 400)
  ∧ (∀ i j, i < 512 → j < 3 → mR M (s + 29) (3 * i + j) = s + 68 + 25 * i + 5 * j) ∧ (∀ i, i < 512 → mR M (s + 31) i = s + 83 + 25 * i) ∧ (∀ i, i < 512 → mR M (s + 38) i = s + 88 + 25 * i) ∧ (∀ i, i < 1640 → mR M (s + 41) i = s + 12868 + 5 * i)
theorem Vk.fi {S : Nat → Prop} {M M' : mM} {s : Nat} (h : Vk M s) (f : FI S M M') : Vk M' s := by
  obtain ⟨f1, f2, f3, -⟩ := f
  unfold Vk at h ⊢
  rw [f1, f2, f3]
  exact h
theorem Vk.k0 {M : mM} {s : Nat} (h : Vk M s) : mK M s = 17 := h.1
theorem Vk.r0 {M : mM} {s : Nat} (h : Vk M s) : mR M s 0 = s + 1 := h.2.1.1
theorem Vk.r4 {M : mM} {s : Nat} (h : Vk M s) : mR M s 4 = s + 22 := h.2.1.2.1
theorem Vk.r5 {M : mM} {s : Nat} (h : Vk M s) : mR M s 5 = s + 23 := h.2.1.2.2.1
theorem Vk.r6 {M : mM} {s : Nat} (h : Vk M s) : mR M s 6 = s + 24 := h.2.1.2.2.2.1
theorem Vk.r7 {M : mM} {s : Nat} (h : Vk M s) : mR M s 7 = s + 25 := h.2.1.2.2.2.2.1
theorem Vk.r8 {M : mM} {s : Nat} (h : Vk M s) : mR M s 8 = s + 26 := h.2.1.2.2.2.2.2.1
theorem Vk.r9 {M : mM} {s : Nat} (h : Vk M s) : mR M s 9 = s + 27 := h.2.1.2.2.2.2.2.2.1
theorem Vk.r10 {M : mM} {s : Nat} (h : Vk M s) : mR M s 10 = s + 28 := h.2.1.2.2.2.2.2.2.2
theorem Vk.r11 {M : mM} {s : Nat} (h : Vk M s) : mR M s 11 = s + 29 := h.2.2.1.1
theorem Vk.r12 {M : mM} {s : Nat} (h : Vk M s) : mR M s 12 = s + 30 := h.2.2.1.2.1
theorem Vk.r13 {M : mM} {s : Nat} (h : Vk M s) : mR M s 13 = s + 31 := h.2.2.1.2.2.1
theorem Vk.r14 {M : mM} {s : Nat} (h : Vk M s) : mR M s 14 = s + 32 := h.2.2.1.2.2.2.1
theorem Vk.r15 {M : mM} {s : Nat} (h : Vk M s) : mR M s 15 = s + 33 := h.2.2.1.2.2.2.2.1
theorem Vk.r16 {M : mM} {s : Nat} (h : Vk M s) : mR M s 16 = s + 34 := h.2.2.1.2.2.2.2.2.1
theorem Vk.r18 {M : mM} {s : Nat} (h : Vk M s) : mR M s 18 = s + 35 := h.2.2.1.2.2.2.2.2.2.1
theorem Vk.r19 {M : mM} {s : Nat} (h : Vk M s) : mR M s 19 = s + 36 := h.2.2.1.2.2.2.2.2.2.2.1
theorem Vk.r21 {M : mM} {s : Nat} (h : Vk M s) : mR M s 21 = s + 38 := h.2.2.2.1.1
theorem Vk.r22 {M : mM} {s : Nat} (h : Vk M s) : mR M s 22 = s + 39 := h.2.2.2.1.2.1
theorem Vk.r23 {M : mM} {s : Nat} (h : Vk M s) : mR M s 23 = s + 40 := h.2.2.2.1.2.2.1
theorem Vk.r25 {M : mM} {s : Nat} (h : Vk M s) : mR M s 25 = s + 41 := h.2.2.2.1.2.2.2.1
theorem Vk.r26 {M : mM} {s : Nat} (h : Vk M s) : mR M s 26 = s + 42 := h.2.2.2.1.2.2.2.2.1
theorem Vk.r27 {M : mM} {s : Nat} (h : Vk M s) : mR M s 27 = s + 47 := h.2.2.2.1.2.2.2.2.2.1
theorem Vk.r28 {M : mM} {s : Nat} (h : Vk M s) : mR M s 28 = s + 52 := h.2.2.2.1.2.2.2.2.2.2.1
theorem Vk.r29 {M : mM} {s : Nat} (h : Vk M s) : mR M s 29 = s + 57 := h.2.2.2.1.2.2.2.2.2.2.2.1
theorem Vk.r30 {M : mM} {s : Nat} (h : Vk M s) : mR M s 30 = s + 62 := h.2.2.2.1.2.2.2.2.2.2.2.2.1
theorem Vk.r31 {M : mM} {s : Nat} (h : Vk M s) : mR M s 31 = s + 67 := h.2.2.2.1.2.2.2.2.2.2.2.2.2
theorem Vk.k22 {M : mM} {s : Nat} (h : Vk M s) : mK M (s + 22) = 30 := h.2.2.2.2.1.1
theorem Vk.k23 {M : mM} {s : Nat} (h : Vk M s) : mK M (s + 23) = 30 := h.2.2.2.2.1.2.1
theorem Vk.k24 {M : mM} {s : Nat} (h : Vk M s) : mK M (s + 24) = 30 := h.2.2.2.2.1.2.2.1
theorem Vk.k25 {M : mM} {s : Nat} (h : Vk M s) : mK M (s + 25) = 30 := h.2.2.2.2.1.2.2.2.1
theorem Vk.k26 {M : mM} {s : Nat} (h : Vk M s) : mK M (s + 26) = 30 := h.2.2.2.2.1.2.2.2.2.1
theorem Vk.k27 {M : mM} {s : Nat} (h : Vk M s) : mK M (s + 27) = 30 := h.2.2.2.2.1.2.2.2.2.2.1
theorem Vk.k28 {M : mM} {s : Nat} (h : Vk M s) : mK M (s + 28) = 30 := h.2.2.2.2.1.2.2.2.2.2.2
theorem Vk.k29 {M : mM} {s : Nat} (h : Vk M s) : mK M (s + 29) = 36 := h.2.2.2.2.2.1.1
theorem Vk.k30 {M : mM} {s : Nat} (h : Vk M s) : mK M (s + 30) = 31 := h.2.2.2.2.2.1.2.1
theorem Vk.k31 {M : mM} {s : Nat} (h : Vk M s) : mK M (s + 31) = 36 := h.2.2.2.2.2.1.2.2.1
theorem Vk.k32 {M : mM} {s : Nat} (h : Vk M s) : mK M (s + 32) = 30 := h.2.2.2.2.2.1.2.2.2.1
theorem Vk.k33 {M : mM} {s : Nat} (h : Vk M s) : mK M (s + 33) = 30 := h.2.2.2.2.2.1.2.2.2.2.1
theorem Vk.k34 {M : mM} {s : Nat} (h : Vk M s) : mK M (s + 34) = 30 := h.2.2.2.2.2.1.2.2.2.2.2.1
theorem Vk.k35 {M : mM} {s : Nat} (h : Vk M s) : mK M (s + 35) = 30 := h.2.2.2.2.2.1.2.2.2.2.2.2.1
theorem Vk.k36 {M : mM} {s : Nat} (h : Vk M s) : mK M (s + 36) = 31 := h.2.2.2.2.2.1.2.2.2.2.2.2.2.1
theorem Vk.k38 {M : mM} {s : Nat} (h : Vk M s) : mK M (s + 38) = 36 := h.2.2.2.2.2.1.2.2.2.2.2.2.2.2.2.1
theorem Vk.k39 {M : mM} {s : Nat} (h : Vk M s) : mK M (s + 39) = 30 := h.2.2.2.2.2.1.2.2.2.2.2.2.2.2.2.2.1
theorem Vk.k40 {M : mM} {s : Nat} (h : Vk M s) : mK M (s + 40) = 30 := h.2.2.2.2.2.1.2.2.2.2.2.2.2.2.2.2.2.1
theorem Vk.k41 {M : mM} {s : Nat} (h : Vk M s) : mK M (s + 41) = 36 := h.2.2.2.2.2.1.2.2.2.2.2.2.2.2.2.2.2.2.1
theorem Vk.k67 {M : mM} {s : Nat} (h : Vk M s) : mK M (s + 67) = 30 := h.2.2.2.2.2.1.2.2.2.2.2.2.2.2.2.2.2.2.2
theorem Vk.n22 {M : mM} {s : Nat} (h : Vk M s) : mN M (s + 22) = 513 := h.2.2.2.2.2.2.1.1
theorem Vk.n23 {M : mM} {s : Nat} (h : Vk M s) : mN M (s + 23) = 514 := h.2.2.2.2.2.2.1.2.1
theorem Vk.n24 {M : mM} {s : Nat} (h : Vk M s) : mN M (s + 24) = 4200 := h.2.2.2.2.2.2.1.2.2.1
theorem Vk.n25 {M : mM} {s : Nat} (h : Vk M s) : mN M (s + 25) = 4201 := h.2.2.2.2.2.2.1.2.2.2.1
theorem Vk.n26 {M : mM} {s : Nat} (h : Vk M s) : mN M (s + 26) = 4096 := h.2.2.2.2.2.2.1.2.2.2.2.1
theorem Vk.n27 {M : mM} {s : Nat} (h : Vk M s) : mN M (s + 27) = 4096 := h.2.2.2.2.2.2.1.2.2.2.2.2.1
theorem Vk.n28 {M : mM} {s : Nat} (h : Vk M s) : mN M (s + 28) = 4096 := h.2.2.2.2.2.2.1.2.2.2.2.2.2
theorem Vk.n29 {M : mM} {s : Nat} (h : Vk M s) : mN M (s + 29) = 1536 := h.2.2.2.2.2.2.2.1.1
theorem Vk.n30 {M : mM} {s : Nat} (h : Vk M s) : mN M (s + 30) = 3 := h.2.2.2.2.2.2.2.1.2.1
theorem Vk.n31 {M : mM} {s : Nat} (h : Vk M s) : mN M (s + 31) = 512 := h.2.2.2.2.2.2.2.1.2.2.1
theorem Vk.n32 {M : mM} {s : Nat} (h : Vk M s) : mN M (s + 32) = 512 := h.2.2.2.2.2.2.2.1.2.2.2.1
theorem Vk.n33 {M : mM} {s : Nat} (h : Vk M s) : mN M (s + 33) = 512 := h.2.2.2.2.2.2.2.1.2.2.2.2.1
theorem Vk.n34 {M : mM} {s : Nat} (h : Vk M s) : mN M (s + 34) = 512 := h.2.2.2.2.2.2.2.1.2.2.2.2.2.1
theorem Vk.n35 {M : mM} {s : Nat} (h : Vk M s) : mN M (s + 35) = 512 := h.2.2.2.2.2.2.2.1.2.2.2.2.2.2.1
theorem Vk.n36 {M : mM} {s : Nat} (h : Vk M s) : mN M (s + 36) = 512 := h.2.2.2.2.2.2.2.1.2.2.2.2.2.2.2.1
theorem Vk.n38 {M : mM} {s : Nat} (h : Vk M s) : mN M (s + 38) = 512 := h.2.2.2.2.2.2.2.1.2.2.2.2.2.2.2.2.2.1
theorem Vk.n39 {M : mM} {s : Nat} (h : Vk M s) : mN M (s + 39) = 40 := h.2.2.2.2.2.2.2.1.2.2.2.2.2.2.2.2.2.2.1
theorem Vk.n40 {M : mM} {s : Nat} (h : Vk M s) : mN M (s + 40) = 512 := h.2.2.2.2.2.2.2.1.2.2.2.2.2.2.2.2.2.2.2.1
theorem Vk.n41 {M : mM} {s : Nat} (h : Vk M s) : mN M (s + 41) = 1640 := h.2.2.2.2.2.2.2.1.2.2.2.2.2.2.2.2.2.2.2.2.1
theorem Vk.n67 {M : mM} {s : Nat} (h : Vk M s) : mN M (s + 67) = 400 := h.2.2.2.2.2.2.2.1.2.2.2.2.2.2.2.2.2.2.2.2.2
theorem Vk.f29 {M : mM} {s : Nat} (h : Vk M s) : ∀ i j, i < 512 → j < 3 → mR M (s + 29) (3 * i + j) = s + 68 + 25 * i + 5 * j := h.2.2.2.2.2.2.2.2.1
theorem Vk.f31 {M : mM} {s : Nat} (h : Vk M s) : ∀ i, i < 512 → mR M (s + 31) i = s + 83 + 25 * i := h.2.2.2.2.2.2.2.2.2.1
theorem Vk.f38 {M : mM} {s : Nat} (h : Vk M s) : ∀ i, i < 512 → mR M (s + 38) i = s + 88 + 25 * i := h.2.2.2.2.2.2.2.2.2.2.1
theorem Vk.f41 {M : mM} {s : Nat} (h : Vk M s) : ∀ i, i < 1640 → mR M (s + 41) i = s + 12868 + 5 * i := h.2.2.2.2.2.2.2.2.2.2.2
/-- the game told to the solver is sound -/
def GW (M : mM) (s : Nat) : Prop := 0 ≤ mI M s 1 ∧ mI M s 1 ≤ 512 ∧ mI M s 2 ≤ 4200 ∧ mI M s 3 ≤ 4096 ∧ mI M (s + 23) 0 = 0 ∧ mI M (s + 25) 0 = 0
  ∧ (∀ i j : Nat, i ≤ j → (j : Int) ≤ mI M s 1 → mI M (s + 23) i ≤ mI M (s + 23) j) ∧ mI M (s + 23) (mI M s 1).toNat = mI M s 2
  ∧ (∀ i j : Nat, i ≤ j → (j : Int) ≤ mI M s 2 → mI M (s + 25) i ≤ mI M (s + 25) j) ∧ mI M (s + 25) (mI M s 2).toNat = mI M s 3
  ∧ (∀ b : Nat, (b : Int) < mI M s 3 → 0 ≤ mI M (s + 26) b ∧ mI M (s + 26) b < mI M s 1)
theorem GW.out {S : Nat → Prop} {M M' : mM} {s : Nat} (h : GW M s) (f : FI S M M') (h0 : ¬ S s) (h1 : ∀ x, s + 23 ≤ x → x ≤ s + 26 → ¬ S x) : GW M' s := by
  obtain ⟨-, -, -, -, -, -, f⟩ := f
  unfold GW at h ⊢
  rw [f s h0, f (s + 23) (h1 _ (by omega) (by omega)), f (s + 25) (h1 _ (by omega) (by omega)), f (s + 26) (h1 _ (by omega) (by omega))]
  exact h
/-- where the commands of state i begin, and end -/
theorem GW.cmd {M : mM} {s : Nat} (h : GW M s) {i : Nat} (hi : (i : Int) < mI M s 1) : 0 ≤ mI M (s + 23) i ∧ mI M (s + 23) i ≤ mI M (s + 23) (i + 1) ∧ mI M (s + 23) (i + 1) ≤ mI M s 2 := by
  obtain ⟨h1, h2, h3, h4, h5, h6, h7, h8, -⟩ := h
  have a1 := h7 0 i (by omega) (by omega)
  have a2 := h7 i (i + 1) (by omega) (by omega)
  have a3 := h7 (i + 1) (mI M s 1).toNat (by omega) (by omega)
  omega
theorem GW.brn {M : mM} {s : Nat} (h : GW M s) {c : Nat} (hc : (c : Int) < mI M s 2) : 0 ≤ mI M (s + 25) c ∧ mI M (s + 25) c ≤ mI M (s + 25) (c + 1) ∧ mI M (s + 25) (c + 1) ≤ mI M s 3 := by
  obtain ⟨h1, h2, h3, h4, h5, h6, h7, h8, h9, h10, -⟩ := h
  have a1 := h9 0 c (by omega) (by omega)
  have a2 := h9 c (c + 1) (by omega) (by omega)
  have a3 := h9 (c + 1) (mI M s 2).toNat (by omega) (by omega)
  omega
/-- how many commands -/
def mny (M : mM) (s i : Nat) : Int := mI M (s + 23) (i + 1) - mI M (s + 23) i
def mayP (M : mM) (s i k : Nat) : Prop := mI M s 17 ≠ mI M (s + 22) i ∨ mI M (s + 32) i = k
def useP (M : mM) (s i k : Nat) (l : Int) : Prop := ((mI M (s + 22) i ≠ 1 ∨ l = 0) ∧ mayP M s i k) ∨ (¬ (mI M (s + 22) i ≠ 1 ∨ l = 0) ∧ mI M (s + 35) i = k)
/-- command k of state i may lead to a state in T -/
def leadQ (T : Nat → Prop) (M : mM) (s i k : Nat) : Prop := ∃ b : Nat, mI M (s + 25) ((mI M (s + 23) i).toNat + k) ≤ b ∧ (b : Int) < mI M (s + 25) ((mI M (s + 23) i).toNat + k + 1) ∧ T (mI M (s + 26) b).toNat
def comesQ (T : Nat → Prop) (M : mM) (s i : Nat) (l : Int) : Prop := (mI M (s + 22) i = 1 ∧ ∃ k : Nat, (k : Int) < mny M s i ∧ useP M s i k l ∧ leadQ T M s i k) ∨ (mI M (s + 22) i = 2 ∧ 0 < mny M s i ∧ ∀ k : Nat, (k : Int) < mny M s i → useP M s i k l → leadQ T M s i k)
abbrev mkd (M : mM) (s : Nat) : Nat → Prop := fun j => mI M (s + 36) j ≠ 0
section VS
variable {G : mG} {d s : Nat} {M : mM}
theorem s_MS_many {i : Nat} (hO : mOk M) (hV : Vk M s) (hG : GW M s) (hi : (i : Int) < mI M s 1) : Ci G y_MS_many d [vr s, vi i] M (fun x M' => M' = M ∧ x = mny M s i) := by
  have h2 := hG.2.1
  refine k_MS_many hO ⟨by omega, by omega⟩ ?_
  rw [hV.r5, hV.n23]
  refine ⟨hV.k0, hV.k23, by omega, by omega, rfl, ?_⟩
  rw [show ((i : Int) + 1).toNat = i + 1 by omega, Int.toNat_natCast]
  rfl
theorem s_MS_may {i k : Nat} (hk : (k : Int) < 100000) (hO : mOk M) (hV : Vk M s) (hG : GW M s) (hi : (i : Int) < mI M s 1) : Ci G y_MS_may d [vr s, vi i, vi k] M (fun x M' => M' = M ∧ (x = 0 ∨ x = 1) ∧ (x ≠ 0 ↔ mayP M s i k)) := by
  have h2 := hG.2.1
  refine k_MS_may hO ⟨by omega, by omega⟩ ⟨by omega, by omega⟩ ?_
  rw [hV.r4, hV.r14, hV.n22, hV.n32, Int.toNat_natCast]
  refine ⟨hV.k0, hV.k22, by omega, fun _ => ⟨hV.k32, by omega⟩, fun v hv => ⟨rfl, by split at hv <;> omega, ?_⟩⟩
  unfold mayP
  by_cases c : ¬ mI M s 17 = mI M (s + 22) i ∨ mI M (s + 32) i = k
  · rw [if_pos c] at hv
    exact ⟨fun _ => c, fun _ => by omega⟩
  · rw [if_neg c] at hv
    exact ⟨fun q => by omega, fun q => absurd q c⟩
theorem s_MS_leadsIn {i k : Nat} (hO : mOk M) (hV : Vk M s) (hG : GW M s) (hi : (i : Int) < mI M s 1) (hk : (k : Int) < mny M s i) : Ci G y_MS_leadsIn d [vr s, vi i, vi k] M (fun x M' => M' = M ∧ (x = 0 ∨ x = 1) ∧ (x ≠ 0 ↔ leadQ (mkd M s) M s i k)) := by
  have hc := hG.cmd hi
  unfold mny at hk
  have hb := hG.brn (c := (mI M (s + 23) i).toNat + k) (by omega)
  have h2 := hG.2.1
  have h3 := hG.2.2.1
  have h4 := hG.2.2.2.1
  have ht := hG.2.2.2.2.2.2.2.2.2.2
  refine k_MS_leadsIn hO ⟨by omega, by omega⟩ ⟨by omega, by omega⟩ ?_
  rw [hV.r5, hV.r7, hV.n23, hV.n25, Int.toNat_natCast]
  have ec : (mI M (s + 23) i + (k : Int)).toNat = (mI M (s + 23) i).toNat + k := by omega
  have ec1 : (mI M (s + 23) i + (k : Int) + 1).toNat = (mI M (s + 23) i).toNat + k + 1 := by omega
  rw [ec]
  refine ⟨hV.k0, hV.k23, by omega, hV.k25, by omega, ?_⟩
  suffices H : ∀ (n : Nat) (f l : Int), mI M (s + 25) ((mI M (s + 23) i).toNat + k + 1) - l = n → mI M (s + 25) ((mI M (s + 23) i).toNat + k) ≤ l → (f = 0 ∨ f = 1) → (f ≠ 0 ↔ ∃ b : Nat, mI M (s + 25) ((mI M (s + 23) i).toNat + k) ≤ b ∧ (b : Int) < l ∧ mkd M s (mI M (s + 26) b).toNat) → h_MS_leadsIn_20 G d s (mI M (s + 23) i + k) f l M (fun x M' => M' = M ∧ (x = 0 ∨ x = 1) ∧ (x ≠ 0 ↔ leadQ (mkd M s) M s i k)) from
    H _ 0 _ (Int.toNat_of_nonneg (by omega)).symm (by omega) (Or.inl rfl) ⟨fun q => absurd rfl q, fun ⟨b, b1, b2, _⟩ => by omega⟩
  intro n
  induction n with
  | zero =>
    intro f l hn hl hf hq
    refine k_MS_leadsIn_20 hO ⟨by omega, by omega⟩ ⟨by omega, by omega⟩ ⟨by omega, by omega⟩ ?_
    rw [hV.r7, hV.n25, ec1]
    refine ⟨hV.k0, hV.k25, by omega, fun _ => ⟨hf, rfl, hf, ?_⟩, fun c => by omega⟩
    rw [hq]
    unfold leadQ
    have e : l = mI M (s + 25) ((mI M (s + 23) i).toNat + k + 1) := by omega
    rw [e]
  | succ n ih =>
    intro f l hn hl hf hq
    have htl := ht l.toNat (by omega)
    refine k_MS_leadsIn_20 hO ⟨by omega, by omega⟩ ⟨by omega, by omega⟩ ⟨by omega, by omega⟩ ?_
    rw [hV.r7, hV.r8, hV.r19, hV.n25, hV.n26, hV.n36, ec1]
    refine ⟨hV.k0, hV.k25, by omega, fun c => by omega, fun _ => ⟨fun _ => ⟨hV.k26, by omega, hV.k36, by omega⟩, fun v hv => ih v (l + 1) (by omega) (by omega) (by split at hv <;> omega) ?_⟩⟩
    by_cases c : f = 0 ∧ mI M (s + 36) (mI M (s + 26) l.toNat).toNat = 0
    · rw [if_pos c] at hv
      refine ⟨fun q => by omega, fun ⟨b, b1, b2, b3⟩ => ?_⟩
      by_cases z : (b : Int) < l
      · exact absurd c.1 (hq.2 ⟨b, b1, z, b3⟩)
      · have : b = l.toNat := by omega
        rw [this] at b3
        exact absurd c.2 b3
    · rw [if_neg c] at hv
      refine ⟨fun _ => ?_, fun _ => by omega⟩
      by_cases z : f = 0
      · exact ⟨l.toNat, by omega, by omega, fun q => c ⟨z, q⟩⟩
      · obtain ⟨b, b1, b2, b3⟩ := hq.1 z
        exact ⟨b, b1, by omega, b3⟩
end VS
end
end
section
section
/-! The reference's solver: which states come to the end, in words of sets. -/
def exP (P : Nat → Prop) (n : Nat) : Prop := ∃ j, j < n ∧ P j
def alP (P : Nat → Prop) (n : Nat) : Prop := ∀ j, j < n → P j
theorem exP_succ {P : Nat → Prop} {n : Nat} : exP P (n + 1) ↔ exP P n ∨ P n := by
  constructor
  · rintro ⟨j, h1, h2⟩
    by_cases c : j = n
    · subst c; exact Or.inr h2
    · exact Or.inl ⟨j, by omega, h2⟩
  · rintro (⟨j, h1, h2⟩ | h)
    · exact ⟨j, by omega, h2⟩
    · exact ⟨n, by omega, h⟩
theorem alP_succ {P : Nat → Prop} {n : Nat} : alP P (n + 1) ↔ alP P n ∧ P n := by
  constructor
  · intro h
    exact ⟨fun j hj => h j (by omega), h n (by omega)⟩
  · rintro ⟨h1, h2⟩ j hj
    by_cases c : j = n
    · subst c; exact h2
    · exact h1 j (by omega)
theorem comesQ.mono {T T' : Nat → Prop} {M : mM} {s i : Nat} {l : Int} (hG : GW M s) (hi : (i : Int) < mI M s 1) (h : ∀ x : Nat, (x : Int) < mI M s 1 → T x → T' x) (c : comesQ T M s i l) : comesQ T' M s i l := by
  have hl : ∀ k : Nat, (k : Int) < mny M s i → leadQ T M s i k → leadQ T' M s i k := by
    rintro k hk ⟨b, b1, b2, b3⟩
    have h1 := hG.cmd hi
    unfold mny at hk
    have h2 := hG.brn (c := (mI M (s + 23) i).toNat + k) (by omega)
    have h3 := hG.2.2.2.2.2.2.2.2.2.2 b (by omega)
    exact ⟨b, b1, b2, h _ (by omega) b3⟩
  rcases c with ⟨c1, k, c2, c3, c4⟩ | ⟨c1, c2, c3⟩
  · exact Or.inl ⟨c1, k, c2, c3, hl k c2 c4⟩
  · exact Or.inr ⟨c1, c2, fun k hk hu => hl k hk (c3 k hk hu)⟩
theorem comesQ.out {S T : Nat → Prop} {M M' : mM} {s i : Nat} {l : Int} (f : FI S M M') (h0 : ¬ S s) (h1 : ∀ x, s + 22 ≤ x → x ≤ s + 35 → ¬ S x) : comesQ T M' s i l ↔ comesQ T M s i l := by
  obtain ⟨-, -, -, -, -, -, f⟩ := f
  unfold comesQ useP mayP leadQ mny
  rw [f s h0, f (s + 22) (h1 _ (by omega) (by omega)), f (s + 23) (h1 _ (by omega) (by omega)), f (s + 25) (h1 _ (by omega) (by omega)), f (s + 26) (h1 _ (by omega) (by omega)), f (s + 32) (h1 _ (by omega) (by omega)), f (s + 35) (h1 _ (by omega) (by omega))]
section VS
variable {G : mG} {d s : Nat} {M : mM}
theorem s_MS_comes {i : Nat} {l : Int} (hl : i32 l) (hO : mOk M) (hV : Vk M s) (hG : GW M s) (hi : (i : Int) < mI M s 1) : Ci G y_MS_comes (d + 1) [vr s, vi i, vi l] M (fun x M' => M' = M ∧ (x = 0 ∨ x = 1) ∧ (x ≠ 0 ↔ comesQ (mkd M s) M s i l)) := by
  have h2 := hG.2.1
  have h3 := hG.2.2.1
  have hc := hG.cmd hi
  have hm0 : 0 ≤ mny M s i ∧ mny M s i ≤ 4200 := by unfold mny; omega
  refine k_MS_comes hO ⟨by omega, by omega⟩ hl ⟨hV.k0, (s_MS_many hO hV hG hi).mono (fun x M1 h1 => ?_)⟩
  obtain ⟨e1, hx⟩ := h1
  subst e1
  refine ⟨⟨by omega, by omega⟩, hO, fun v hv => ?_⟩
  suffices H : ∀ (n k : Nat) (e a : Int), mny M1 s i - k = n → (e = 0 ∨ e = 1) → (a = 0 ∨ a = 1) → (e ≠ 0 ↔ exP (fun k => useP M1 s i k l ∧ leadQ (mkd M1 s) M1 s i k) k) → (a ≠ 0 ↔ (0 < mny M1 s i ∧ alP (fun k => useP M1 s i k l → leadQ (mkd M1 s) M1 s i k) k)) → h_MS_comes_20 G d s i l e a k M1 (fun x M' => M' = M1 ∧ (x = 0 ∨ x = 1) ∧ (x ≠ 0 ↔ comesQ (mkd M1 s) M1 s i l)) by
    refine H (mny M1 s i).toNat 0 0 v (by omega) (Or.inl rfl) (by split at hv <;> omega) ⟨fun q => absurd rfl q, fun ⟨j, j1, _⟩ => by omega⟩ ?_
    by_cases c : x ≤ 0
    · rw [if_pos c] at hv
      exact ⟨fun q => absurd hv q, fun q => by have := q.1; omega⟩
    · rw [if_neg c] at hv
      exact ⟨fun _ => ⟨by omega, fun j hj => by omega⟩, fun _ => by omega⟩
  clear hv hx v x
  intro n
  induction n with
  | zero =>
    intro k e a hn he ha hqe hqa
    refine k_MS_comes_20 hO ⟨by omega, by omega⟩ hl ⟨by omega, by omega⟩ ⟨by omega, by omega⟩ ⟨by omega, by omega⟩ ⟨hV.k0, (s_MS_many hO hV hG hi).mono (fun x M2 h2' => ?_)⟩
    obtain ⟨e2, hx⟩ := h2'
    subst e2
    refine ⟨⟨by omega, by omega⟩, hO, fun _ => ?_, fun c => by omega⟩
    rw [hV.r4, hV.n22, Int.toNat_natCast]
    have hk : k = (mny M2 s i).toNat := by omega
    refine ⟨hV.k0, hV.k22, by omega, fun _ => by omega, fun v hv => ?_⟩
    have hv01 : v = 0 ∨ v = 1 := by split at hv <;> (try split at hv) <;> (try split at hv) <;> omega
    refine ⟨hv01, rfl, hv01, ?_⟩
    unfold comesQ
    by_cases c1 : mI M2 (s + 22) i = 1
    · rw [if_pos c1] at hv
      rw [hv, hqe]
      constructor
      · rintro ⟨j, j1, j2, j3⟩
        exact Or.inl ⟨c1, j, by omega, j2, j3⟩
      · rintro (⟨_, j, j1, j2, j3⟩ | ⟨q, -⟩)
        · exact ⟨j, by omega, j2, j3⟩
        · omega
    · rw [if_neg c1] at hv
      by_cases c2 : mI M2 (s + 22) i = 2
      · rw [if_pos c2] at hv
        have hva : v ≠ 0 ↔ a ≠ 0 := by
          by_cases z : a = 0
          · rw [if_pos z] at hv; exact ⟨fun q => absurd hv q, fun q => absurd z q⟩
          · rw [if_neg z] at hv; exact ⟨fun _ => z, fun _ => by omega⟩
        rw [hva, hqa]
        constructor
        · rintro ⟨p1, p2⟩
          exact Or.inr ⟨c2, p1, fun j hj => p2 j (by omega)⟩
        · rintro (⟨q, -⟩ | ⟨_, p1, p2⟩)
          · exact absurd q c1
          · exact ⟨p1, fun j hj => p2 j (by omega)⟩
      · rw [if_neg c2] at hv
        constructor
        · intro q; exact absurd hv q
        · rintro (⟨q, -⟩ | ⟨q, -⟩)
          · exact absurd q c1
          · exact absurd q c2
  | succ n ih =>
    intro k e a hn he ha hqe hqa
    have hkm : (k : Int) < mny M1 s i := by omega
    have hk9 : (k : Int) < 100000 := by omega
    refine k_MS_comes_20 hO ⟨by omega, by omega⟩ hl ⟨by omega, by omega⟩ ⟨by omega, by omega⟩ ⟨by omega, by omega⟩ ⟨hV.k0, (s_MS_many hO hV hG hi).mono (fun x M2 h2' => ?_)⟩
    obtain ⟨e2, hx⟩ := h2'
    subst e2
    have h92 : ∀ f g : Int, (f = 0 ∨ f = 1) → (g = 0 ∨ g = 1) → (f ≠ 0 ↔ useP M2 s i k l) → (g ≠ 0 ↔ (useP M2 s i k l ∧ leadQ (mkd M2 s) M2 s i k)) → h_MS_comes_92 G d s i l e a k f g M2 (fun x M' => M' = M2 ∧ (x = 0 ∨ x = 1) ∧ (x ≠ 0 ↔ comesQ (mkd M2 s) M2 s i l)) := by
      intro f g hf hg hqf hqg
      refine k_MS_comes_92 hO ⟨by omega, by omega⟩ hl ⟨by omega, by omega⟩ ⟨by omega, by omega⟩ ⟨by omega, by omega⟩ ⟨by omega, by omega⟩ ⟨by omega, by omega⟩ (fun v hv w hw => ?_)
      refine ih (k + 1) v w (by omega) (by split at hv <;> omega) (by split at hw <;> omega) ?_ ?_
      · rw [exP_succ, ← hqe, ← hqg]
        by_cases c : e = 0 ∧ g = 0
        · rw [if_pos c] at hv
          exact ⟨fun q => absurd hv q, fun q => by rcases q with q | q; exact absurd c.1 q; exact absurd c.2 q⟩
        · rw [if_neg c] at hv
          refine ⟨fun _ => ?_, fun _ => by omega⟩
          by_cases z : e = 0
          · exact Or.inr (fun q => c ⟨z, q⟩)
          · exact Or.inl z
      · rw [alP_succ, ← and_assoc, ← hqa]
        by_cases c : a = 0 ∨ (¬ f = 0 ∧ g = 0)
        · rw [if_pos c] at hw
          refine ⟨fun q => absurd hw q, fun q => ?_⟩
          rcases c with c | c
          · exact absurd c q.1
          · exact absurd c.2 (hqg.2 ⟨hqf.1 c.1, q.2 (hqf.1 c.1)⟩)
        · rw [if_neg c] at hw
          refine ⟨fun _ => ⟨fun q => c (Or.inl q), fun u => ?_⟩, fun _ => by omega⟩
          have hg0 : g ≠ 0 := fun q => c (Or.inr ⟨hqf.2 u, q⟩)
          exact (hqg.1 hg0).2
    have h70 : ∀ f : Int, (f = 0 ∨ f = 1) → (f ≠ 0 ↔ useP M2 s i k l) → h_MS_comes_70 G d s i l e a k f M2 (fun x M' => M' = M2 ∧ (x = 0 ∨ x = 1) ∧ (x ≠ 0 ↔ comesQ (mkd M2 s) M2 s i l)) := by
      intro f hf hqf
      refine k_MS_comes_70 hO ⟨by omega, by omega⟩ hl ⟨by omega, by omega⟩ ⟨by omega, by omega⟩ ⟨by omega, by omega⟩ ⟨by omega, by omega⟩ ⟨fun c => ?_, fun c => ⟨hV.k0, (s_MS_leadsIn hO hV hG hi hkm).mono (fun y M3 h3' => ?_)⟩⟩
      · refine h92 f 0 hf (Or.inl rfl) hqf ⟨fun q => absurd rfl q, fun q => absurd c (hqf.2 q.1)⟩
      · obtain ⟨e3, hy, hqy⟩ := h3'
        subst e3
        refine ⟨⟨by omega, by omega⟩, hO, fun z => ?_, fun z => ?_⟩
        · exact h92 f 0 hf (Or.inl rfl) hqf ⟨fun q => absurd rfl q, fun q => absurd z (hqy.2 q.2)⟩
        · exact h92 f 1 hf (Or.inr rfl) hqf ⟨fun _ => ⟨hqf.1 c, hqy.1 z⟩, fun _ => by omega⟩
    rw [hV.r4, hV.r18, hV.n22, hV.n35, Int.toNat_natCast]
    refine ⟨⟨by omega, by omega⟩, hO, fun c => by omega, fun _ => ⟨hV.k0, hV.k22, by omega, fun c => ?_, fun c => ⟨hV.k35, by omega, fun q => ?_, fun q => ?_⟩⟩⟩
    · refine (s_MS_may hk9 hO hV hG hi).mono (fun y M3 h3' => ?_)
      obtain ⟨e3, hy, hqy⟩ := h3'
      subst e3
      refine ⟨⟨by omega, by omega⟩, hO, h70 y hy ?_⟩
      rw [hqy]
      unfold useP
      exact ⟨fun q => Or.inl ⟨c, q⟩, fun q => by rcases q with q | q; exact q.2; exact absurd c q.1⟩
    · refine h70 1 (Or.inr rfl) ⟨fun _ => Or.inr ⟨c, q⟩, fun _ => by omega⟩
    · refine h70 0 (Or.inl rfl) ⟨fun w => absurd rfl w, fun w => ?_⟩
      rcases w with w | w
      · exact absurd w.1 c
      · exact absurd w.2 q
end VS
end
section
/-! The reference's solver: growing the set of states that come to the end. -/
def cz (f : Nat → Int) : Nat → Nat
  | 0 => 0
  | n + 1 => cz f n + (if f n = 0 then 1 else 0)
theorem cz_congr {f g : Nat → Int} : ∀ (n : Nat), (∀ j, j < n → f j = g j) → cz f n = cz g n
  | 0, _ => rfl
  | n + 1, h => by rw [cz, cz, cz_congr n (fun j hj => h j (by omega)), h n (by omega)]
theorem cz_set {f g : Nat → Int} {i : Nat} (h0 : f i = 0) (h1 : g i = 1) (h : ∀ j, j ≠ i → g j = f j) : ∀ (n : Nat), i < n → cz g n + 1 = cz f n
  | 0, hi => by omega
  | n + 1, hi => by
    rw [cz, cz]
    by_cases c : i = n
    · rw [← c, h0, h1, cz_congr i (fun j hj => h j (by omega))]
      simp
    · have := cz_set h0 h1 h n (by omega)
      rw [h n (by omega)]
      omega
/-- the marks so far: each marked state comes to states marked before it -/
def gvI (M : mM) (s : Nat) (l : Int) (M1 : mM) (ρ : Nat → Nat) (t : Nat) : Prop := mOk M1 ∧ FI (fun x => x = s + 36) M M1 ∧ (∀ j : Nat, (j : Int) < mI M s 1 → (mI M1 (s + 36) j = 0 ∨ mI M1 (s + 36) j = 1) ∧ (mI M (s + 22) j = 3 → mI M1 (s + 36) j = 1) ∧ (mI M1 (s + 36) j = 1 → ρ j < t ∧ (mI M (s + 22) j = 3 ∨ comesQ (fun x => mkd M1 s x ∧ ρ x < ρ j) M s j l)))
def upR (ρ : Nat → Nat) (i t x : Nat) : Nat := if x = i then t else ρ x
theorem upR_i {ρ : Nat → Nat} {i t : Nat} : upR ρ i t i = t := if_pos rfl
theorem upR_n {ρ : Nat → Nat} {i t x : Nat} (h : x ≠ i) : upR ρ i t x = ρ x := if_neg h
abbrev gvQ (M : mM) (s : Nat) (l : Int) : mM → Prop := fun M' => (∃ ρ t, gvI M s l M' ρ t) ∧ ∀ j : Nat, (j : Int) < mI M s 1 → mI M' (s + 36) j = 0 → ¬ comesQ (mkd M' s) M s j l
section VS
variable {G : mG} {d s : Nat} {M : mM}
theorem gv_mark {M1 M2 : mM} {l : Int} {ρ : Nat → Nat} {t i : Nat} (hG : GW M s) (h : gvI M s l M1 ρ t) (hi : (i : Int) < mI M s 1) (h0 : mI M1 (s + 36) i = 0) (hc : comesQ (mkd M1 s) M s i l) (e2 : M2 = mUI M1 (s + 36) i 1) (o2 : mOk M2) : gvI M s l M2 (upR ρ i t) (t + 1) := by
  obtain ⟨g1, g2, g3⟩ := h
  have f2 : FI (fun x => x = s + 36) M1 M2 := by rw [e2]; exact FI.ui rfl
  have hm : ∀ j, mI M2 (s + 36) j = if j = i then 1 else mI M1 (s + 36) j := fun j => by
    rw [e2, mI_UI]
    by_cases z : j = i
    · rw [if_pos ⟨rfl, z⟩, if_pos z]
    · rw [if_neg (fun w => z w.2), if_neg z]
  refine ⟨o2, g2.trans f2, fun j hj => ?_⟩
  obtain ⟨a1, a2, a3⟩ := g3 j hj
  have mono : ∀ x : Nat, mkd M1 s x → mkd M2 s x ∧ x ≠ i := fun x hx => by
    have : x ≠ i := fun q => by subst q; exact hx h0
    exact ⟨by show mI M2 (s + 36) x ≠ 0; rw [hm, if_neg this]; exact hx, this⟩
  rw [hm]
  by_cases z : j = i
  · subst z
    rw [if_pos rfl]
    refine ⟨Or.inr rfl, fun _ => rfl, fun _ => ⟨by rw [upR_i]; omega, Or.inr (hc.mono hG hi (fun x hx w => ?_))⟩⟩
    have hmx := mono x w
    refine ⟨hmx.1, ?_⟩
    have b := g3 x hx
    have w' : mI M1 (s + 36) x ≠ 0 := w
    have b1 : mI M1 (s + 36) x = 1 := by rcases b.1 with q | q; exact absurd q w'; exact q
    have b2 := (b.2.2 b1).1
    rw [upR_n hmx.2, upR_i]
    exact b2
  · rw [if_neg z]
    refine ⟨a1, a2, fun w => ?_⟩
    obtain ⟨c1, c2⟩ := a3 w
    rw [upR_n z]
    refine ⟨by omega, ?_⟩
    rcases c2 with c2 | c2
    · exact Or.inl c2
    · refine Or.inr (c2.mono hG hj (fun x hx w => ?_))
      have hmx := mono x w.1
      exact ⟨hmx.1, by rw [upR_n hmx.2]; exact w.2⟩
theorem s_MS_grow {l : Int} (hl : i32 l) (hO : mOk M) (hV : Vk M s) (hG : GW M s) : Cv G y_MS_grow (d + 2) [vr s, vi l] M (gvQ M s l) := by
  have h1 := hG.1
  have h2 := hG.2.1
  refine k_MS_grow hO hl ?_
  have h47 : ∀ (Z : Nat) (M1 : mM) (ρ : Nat → Nat) (t : Nat) (f : Int), gvI M s l M1 ρ t → cz (mI M1 (s + 36)) (mI M s 1).toNat ≤ Z → ((f = 0 ∧ ∀ j : Nat, (j : Int) < mI M s 1 → mI M1 (s + 36) j = 0 → ¬ comesQ (mkd M1 s) M s j l) ∨ f = 1) → h_MS_grow_39 G (d + 1) s l f M1 (gvQ M s l) := by
    intro Z
    induction Z with
    | zero =>
      intro M1 ρ t f h hz hf
      suffices H : ∀ (n : Nat) (k : Int), mI M s 1 - k = n → 0 ≤ k → h_MS_grow_47 G (d + 1) s l 0 k M1 (gvQ M s l) by
        refine k_MS_grow_39 h.1 hl ⟨by omega, by omega⟩ ⟨fun c => ⟨⟨ρ, t, h⟩, ?_⟩, fun c => H (mI M s 1).toNat 0 (by omega) (by omega)⟩
        rcases hf with q | q
        · exact q.2
        · omega
      have hV1 := hV.fi h.2.1
      have es : mI M1 s = mI M s := h.2.1.2.2.2.2.2.2 s (by omega)
      have hnz : ∀ j : Nat, (j : Int) < mI M s 1 → mI M1 (s + 36) j ≠ 0 := by
        have aux : ∀ (n : Nat), cz (mI M1 (s + 36)) n = 0 → ∀ j, j < n → mI M1 (s + 36) j ≠ 0 := by
          intro n
          induction n with
          | zero => intro _ j hj; omega
          | succ n ih =>
            intro hc j hj
            rw [cz] at hc
            by_cases q : j = n
            · subst q
              intro w
              rw [if_pos w] at hc
              omega
            · exact ih (by omega) j (by omega)
        exact fun j hj => aux (mI M s 1).toNat (by omega) j (by omega)
      intro n
      induction n with
      | zero =>
        intro k hn hk
        refine k_MS_grow_47 h.1 hl ⟨by omega, by omega⟩ ⟨by omega, by omega⟩ ?_
        rw [es]
        refine ⟨hV1.k0, fun _ => k_MS_grow_39 h.1 hl ⟨by omega, by omega⟩ ⟨fun c => ⟨⟨ρ, t, h⟩, fun j hj w => absurd w (hnz j hj)⟩, fun c => absurd rfl c⟩, fun c => by omega⟩
      | succ n ih =>
        intro k hn hk
        refine k_MS_grow_47 h.1 hl ⟨by omega, by omega⟩ ⟨by omega, by omega⟩ ?_
        rw [es, hV1.r19, hV1.n36]
        refine ⟨hV1.k0, fun c => by omega, fun _ => ⟨hV1.k36, by omega, fun c => absurd c (hnz k.toNat (by omega)), fun _ => ih (k + 1) (by omega) (by omega)⟩⟩
    | succ Z ihZ =>
      intro M1 ρ t f h hz hf
      suffices H : ∀ (n : Nat) (k f : Int) (M2 : mM) (ρ : Nat → Nat) (t : Nat), mI M s 1 - k = n → 0 ≤ k → gvI M s l M2 ρ t → ((f = 0 ∧ cz (mI M2 (s + 36)) (mI M s 1).toNat ≤ Z + 1 ∧ ∀ j : Nat, (j : Int) < k → mI M2 (s + 36) j = 0 → ¬ comesQ (mkd M2 s) M s j l) ∨ (f = 1 ∧ cz (mI M2 (s + 36)) (mI M s 1).toNat ≤ Z)) → h_MS_grow_47 G (d + 1) s l f k M2 (gvQ M s l) by
        refine k_MS_grow_39 h.1 hl ⟨by omega, by omega⟩ ⟨fun c => ⟨⟨ρ, t, h⟩, ?_⟩, fun c => H (mI M s 1).toNat 0 0 M1 ρ t (by omega) (by omega) h (Or.inl ⟨rfl, hz, fun j hj => by omega⟩)⟩
        rcases hf with q | q
        · exact q.2
        · omega
      clear hz hf h f t ρ M1
      intro n
      induction n with
      | zero =>
        intro k f M2 ρ t hn hk h hf
        have hV1 := hV.fi h.2.1
        have es : mI M2 s = mI M s := h.2.1.2.2.2.2.2.2 s (by omega)
        have hf01 : f = 0 ∨ f = 1 := by rcases hf with q | q; exact Or.inl q.1; exact Or.inr q.1
        refine k_MS_grow_47 h.1 hl ⟨by omega, by omega⟩ ⟨by omega, by omega⟩ ?_
        rw [es]
        refine ⟨hV1.k0, fun _ => ?_, fun c => by omega⟩
        rcases hf with q | q
        · refine k_MS_grow_39 h.1 hl ⟨by omega, by omega⟩ ⟨fun _ => ⟨⟨ρ, t, h⟩, fun j hj => q.2.2 j (by omega)⟩, fun c => absurd q.1 c⟩
        · exact ihZ M2 ρ t f h q.2 (Or.inr q.1)
      | succ n ih =>
        intro k f M2 ρ t hn hk h hf
        have hV1 := hV.fi h.2.1
        have hG1 := hG.out h.2.1 (by omega) (fun x _ _ => by omega)
        have es : mI M2 s = mI M s := h.2.1.2.2.2.2.2.2 s (by omega)
        have hf01 : f = 0 ∨ f = 1 := by rcases hf with q | q; exact Or.inl q.1; exact Or.inr q.1
        have ek : ((k.toNat : Nat) : Int) = k := by omega
        refine k_MS_grow_47 h.1 hl ⟨by omega, by omega⟩ ⟨by omega, by omega⟩ ?_
        rw [es, hV1.r19, hV1.n36]
        refine ⟨hV1.k0, fun c => by omega, fun _ => ⟨hV1.k36, by omega, fun c => ?_, fun c => ih (k + 1) f M2 ρ t (by omega) (by omega) h ?_⟩⟩
        · have hcm := s_MS_comes (G := G) (d := d) (i := k.toNat) hl h.1 hV1 hG1 (by rw [es]; omega)
          rw [ek] at hcm
          refine hcm.mono (fun x M3 h3 => ?_)
          obtain ⟨e3, hx, hqx⟩ := h3
          subst e3
          rw [comesQ.out h.2.1 (by omega) (fun x _ _ => by omega)] at hqx
          rw [hV1.r19, hV1.n36]
          refine ⟨⟨by omega, by omega⟩, h.1, fun _ => ⟨hV1.k0, hV1.k36, by omega⟩, fun v hv M4 e4 => ?_⟩
          by_cases z : x = 0
          · rw [if_pos z] at hv e4
            subst e4
            refine ⟨h.1, ?_⟩
            rw [hv]
            refine ih (k + 1) f M4 ρ t (by omega) (by omega) h ?_
            rcases hf with q | q
            · refine Or.inl ⟨q.1, q.2.1, fun j hj w => ?_⟩
              by_cases y : j = k.toNat
              · rw [y]
                exact fun cc => (hqx.2 cc) z
              · exact q.2.2 j (by omega) w
            · exact Or.inr q
          · rw [if_neg z] at hv e4
            have o4 : mOk M4 := by rw [e4]; exact mOk_UI h.1 ⟨by omega, by omega⟩
            have hg := gv_mark hG h (i := k.toNat) (by omega) c (hqx.1 z) e4 o4
            refine ⟨o4, ?_⟩
            rw [hv]
            refine ih (k + 1) 1 M4 _ _ (by omega) (by omega) hg (Or.inr ⟨rfl, ?_⟩)
            have hcs := cz_set (f := mI M3 (s + 36)) (g := mI M4 (s + 36)) (i := k.toNat) c (by rw [e4, mI_UI, if_pos ⟨rfl, rfl⟩]) (fun j hj => by rw [e4, mI_UI, if_neg (fun w => hj w.2)]) (mI M s 1).toNat (by omega)
            rcases hf with q | q
            · have := q.2.1; omega
            · have := q.2; omega
        · rcases hf with q | q
          · refine Or.inl ⟨q.1, q.2.1, fun j hj w => ?_⟩
            by_cases y : j = k.toNat
            · subst y
              exact absurd w c
            · exact q.2.2 j (by omega) w
          · exact Or.inr q
  suffices H : ∀ (n : Nat) (k : Int) (M1 : mM), mI M s 1 - k = n → 0 ≤ k → mOk M1 → FI (fun x => x = s + 36) M M1 → (∀ j : Nat, (j : Int) < k → mI M1 (s + 36) j = if mI M (s + 22) j = 3 then 1 else 0) → h_MS_grow_2 G (d + 1) s l k M1 (gvQ M s l) from
    H (mI M s 1).toNat 0 M (by omega) (by omega) hO FI.refl (fun j hj => by omega)
  intro n
  induction n with
  | zero =>
    intro k M1 hn hk o1 f1 hq
    have hV1 := hV.fi f1
    have es : mI M1 s = mI M s := f1.2.2.2.2.2.2 s (by omega)
    refine k_MS_grow_2 o1 hl ⟨by omega, by omega⟩ ?_
    rw [es]
    refine ⟨hV1.k0, fun _ => h47 _ M1 (fun _ => 0) 1 1 ⟨o1, f1, fun j hj => ?_⟩ (Nat.le_refl _) (Or.inr rfl), fun c => by omega⟩
    have e := hq j (by omega)
    by_cases z : mI M (s + 22) j = 3
    · rw [if_pos z] at e
      exact ⟨Or.inr e, fun _ => e, fun _ => ⟨Nat.zero_lt_one, Or.inl z⟩⟩
    · rw [if_neg z] at e
      exact ⟨Or.inl e, fun w => absurd w z, fun w => by omega⟩
  | succ n ih =>
    intro k M1 hn hk o1 f1 hq
    have hV1 := hV.fi f1
    have es : mI M1 s = mI M s := f1.2.2.2.2.2.2 s (by omega)
    have e22 : mI M1 (s + 22) = mI M (s + 22) := f1.2.2.2.2.2.2 _ (by omega)
    refine k_MS_grow_2 o1 hl ⟨by omega, by omega⟩ ?_
    rw [es, hV1.r4, hV1.r19, hV1.n22, hV1.n36, e22]
    refine ⟨hV1.k0, fun c => by omega, fun _ => ⟨hV1.k22, by omega, fun v hv => ⟨hV1.k36, by omega, fun M2 e2 => ?_⟩⟩⟩
    refine ih (k + 1) M2 (by omega) (by omega) (by rw [e2]; exact mOk_UI o1 ⟨by split at hv <;> omega, by split at hv <;> omega⟩) (f1.trans (by rw [e2]; exact FI.ui rfl)) (fun j hj => ?_)
    rw [e2, mI_UI]
    by_cases z : j = k.toNat
    · rw [if_pos ⟨rfl, z⟩, hv, z]
    · rw [if_neg (fun w => z w.2)]
      exact hq j (by omega)
end VS
end
end
section
/-! The reference's solver: how many unknown states, and how heavy. -/
theorem l_shl1 : ∀ k : Nat, k < 63 → shlL 1 (k : Int) = 2 ^ k := by decide
def sm (f : Nat → Int) : Nat → Int
  | 0 => 0
  | n + 1 => sm f n + f n
theorem sm_congr {f g : Nat → Int} : ∀ (n : Nat), (∀ j, j < n → f j = g j) → sm f n = sm g n
  | 0, _ => rfl
  | n + 1, h => by rw [sm, sm, sm_congr n (fun j hj => h j (by omega)), h n (by omega)]
/-- a state whose value must be worked out -/
abbrev unk (M : mM) (s i : Nat) : Prop := mI M (s + 36) i ≠ 0 ∧ mI M (s + 22) i ≠ 3
/-- w bits hold twice what each command of state i that may be taken is divided by -/
def hvy (M : mM) (s i : Nat) (w : Int) : Prop := 0 ≤ w ∧ w ≤ 32 ∧ ∃ D : Int, 1 ≤ D ∧ 2 * D ≤ 2 ^ w.toNat ∧ ∀ k : Nat, (k : Int) < mny M s i → mayP M s i k → mI M (s + 24) ((mI M (s + 23) i).toNat + k) ≤ D
def lokQ (M : mM) (s : Nat) : Prop := ∃ w : Nat → Int, (∀ i : Nat, (i : Int) < mI M s 1 → (unk M s i → hvy M s i (w i)) ∧ (¬ unk M s i → w i = 0)) ∧ sm w (mI M s 1).toNat ≤ 480 ∧ sm (fun i => if unk M s i then 1 else 0) (mI M s 1).toNat ≤ 40
end
section
/-! The unknown states: the least closed set; their weights; what solve answers. Pure. -/
section LST
variable {T : xt9} {J J' : Nat → Prop} {x : Int × List sc9} {c : sc9} {k : Nat} {r r' g g' : Int} {w w' : Nat}
/-- a command leads into J -/
def ldA9 (J : Nat → Prop) (c : sc9) : Prop := ∃ b, b ∈ c.2.2 ∧ J b.1
/-- a state comes to J -/
def coA9 (J : Nat → Prop) (x : Int × List sc9) : Prop := (x.1 = 1 ∧ ∃ c, c ∈ x.2 ∧ ldA9 J c) ∨ (x.1 = 2 ∧ x.2 ≠ [] ∧ ∀ c, c ∈ x.2 → ldA9 J c)
/-- targets are in, and what comes to it -/
def clA9 (T : xt9) (J : Nat → Prop) : Prop := ∀ k x, T[k]? = some x → (x.1 = 3 ∨ coA9 J x) → J k
def lsA9 (T : xt9) (J : Nat → Prop) : Prop := clA9 T J ∧ ∀ J', clA9 T J' → ∀ k, J k → J' k
theorem lsA9.same (h : lsA9 T J) (h' : lsA9 T J') (k : Nat) : J k ↔ J' k := ⟨h.2 J' h'.1 k, h'.2 J h.1 k⟩
theorem ldA9.mono (h : ldA9 J c) (m : ∀ k, J k → J' k) : ldA9 J' c := by
  obtain ⟨b, h1, h2⟩ := h
  exact ⟨b, h1, m _ h2⟩
theorem coA9.mono (h : coA9 J x) (m : ∀ k, J k → J' k) : coA9 J' x := by
  rcases h with ⟨h1, c, h2, h3⟩ | ⟨h1, h2, h3⟩
  · exact Or.inl ⟨h1, c, h2, h3.mono m⟩
  · exact Or.inr ⟨h1, h2, fun c hc => (h3 c hc).mono m⟩
/-- there is one -/
theorem ls_ex : lsA9 T (fun k => ∀ J', clA9 T J' → J' k) := by
  refine ⟨fun k x hx h J' hc => hc k x hx ?_, fun J' hc k h => h J' hc⟩
  rcases h with h | h
  · exact Or.inl h
  · exact Or.inr (h.mono (fun j hj => hj J' hc))
/-- marks with ranks: every closed set holds them -/
theorem rk_in (ρ : Nat → Nat) (h : ∀ k, J k → ∃ x, T[k]? = some x ∧ (x.1 = 3 ∨ coA9 (fun j => J j ∧ ρ j < ρ k) x)) (hc : clA9 T J') : ∀ k, J k → J' k := by
  have H : ∀ n k, ρ k = n → J k → J' k := by
    intro n
    induction n using Nat.strongRecOn with
    | ind n ih =>
      intro k hk hJ
      obtain ⟨x, h1, h2⟩ := h k hJ
      refine hc k x h1 ?_
      rcases h2 with h2 | h2
      · exact Or.inl h2
      · exact Or.inr (h2.mono (fun j hj => ih (ρ j) (by rw [← hk]; exact hj.2) j rfl hj.1))
  exact fun k hJ => H _ k rfl hJ
/-- the greatest multiple, at least 1 -/
def gmA9 (l : List sc9) (g : Int) : Prop := 1 ≤ g ∧ (∀ c, c ∈ l → c.2.1 ≤ g) ∧ (g = 1 ∨ ∃ c, c ∈ l ∧ c.2.1 = g)
theorem gmA9.le {l : List sc9} (h : gmA9 l g) (h' : gmA9 l g') : g ≤ g' := by
  rcases h.2.2 with e | ⟨c, hc, e⟩
  · rw [e]; exact h'.1
  · rw [← e]; exact h'.2.1 c hc
/-- its weight: the least w with 2^w not below twice as much -/
def wtA9 (g : Int) (w : Nat) : Prop := 2 * g ≤ 2 ^ w ∧ ∀ v : Nat, v < w → (2 : Int) ^ v < 2 * g
theorem wtA9.le (h : wtA9 g w) (h' : wtA9 g w') : w ≤ w' := by
  rcases Nat.lt_or_ge w' w with u | u
  · have a := h.2 w' u
    have b := h'.1
    omega
  · exact u
def weA9 (x : Int × List sc9) (w : Int) : Prop := ∃ (g : Int) (v : Nat), gmA9 x.2 g ∧ wtA9 g v ∧ w = ((v : Nat) : Int)
theorem weA9.same {a b : Int} (h : weA9 x a) (h' : weA9 x b) : a = b := by
  obtain ⟨g, v, h1, h2, h3⟩ := h
  obtain ⟨g', v', k1, k2, k3⟩ := h'
  have eg : g = g' := Int.le_antisymm (h1.le k1) (k1.le h1)
  subst eg
  have ev : v = v' := Nat.le_antisymm (h2.le k2) (k2.le h2)
  rw [h3, k3, ev]
/-- which states are unknown: e is 1 there, 0 elsewhere -/
def unA9 (T : xt9) (J : Nat → Prop) (e : Nat → Int) : Prop := ∀ k x, T[k]? = some x → ((J k ∧ x.1 ≠ 3) → e k = 1) ∧ (¬ (J k ∧ x.1 ≠ 3) → e k = 0)
/-- what solve answers -/
def svA9 (T : xt9) (r : Int) : Prop := ∃ (J : Nat → Prop) (e : Nat → Int), lsA9 T J ∧ unA9 T J e ∧ ((40 < sm e T.length ∧ r = 5) ∨ (sm e T.length ≤ 40 ∧ ∃ w : Nat → Int, (∀ k x, T[k]? = some x → (e k = 1 → weA9 x (w k)) ∧ (e k = 0 → w k = 0)) ∧ ((480 < sm w T.length ∧ r = 6) ∨ (sm w T.length ≤ 480 ∧ r = 0))))
theorem svA9.same (h : svA9 T r) (h' : svA9 T r') : r = r' := by
  obtain ⟨J, e, h1, h2, h3⟩ := h
  obtain ⟨J', e', k1, k2, k3⟩ := h'
  have at9 : ∀ k, k < T.length → ∃ x, T[k]? = some x := fun k hk => ⟨_, List.getElem?_eq_getElem hk⟩
  have ee : ∀ k, k < T.length → e k = e' k ∧ (e k = 0 ∨ e k = 1) := fun k hk => by
    obtain ⟨x, hx⟩ := at9 k hk
    have a := h2 k x hx
    have b := k2 k x hx
    have s := h1.same k1 k
    by_cases u : J k ∧ x.1 ≠ 3
    · exact ⟨by rw [a.1 u, b.1 ⟨s.mp u.1, u.2⟩], Or.inr (a.1 u)⟩
    · exact ⟨by rw [a.2 u, b.2 (fun v => u ⟨s.mpr v.1, v.2⟩)], Or.inl (a.2 u)⟩
  have es : sm e T.length = sm e' T.length := sm_congr _ (fun k hk => (ee k hk).1)
  rcases h3 with ⟨a1, a2⟩ | ⟨a1, w, a2, a3⟩
  · rcases k3 with ⟨b1, b2⟩ | ⟨b1, w', b2, b3⟩
    · rw [a2, b2]
    · omega
  · rcases k3 with ⟨b1, b2⟩ | ⟨b1, w', b2, b3⟩
    · omega
    · have ws : sm w T.length = sm w' T.length := sm_congr _ (fun k hk => by
        obtain ⟨x, hx⟩ := at9 k hk
        obtain ⟨e1, e2⟩ := ee k hk
        rcases e2 with y | y
        · rw [(a2 k x hx).2 y, (b2 k x hx).2 (by rw [← e1]; exact y)]
        · exact ((a2 k x hx).1 y).same ((b2 k x hx).1 (by rw [← e1]; exact y)))
      rcases a3 with ⟨u1, u2⟩ | ⟨u1, u2⟩ <;> rcases b3 with ⟨v1, v2⟩ | ⟨v1, v2⟩
      · rw [u2, v2]
      · omega
      · omega
      · rw [u2, v2]
/-- marked states are in the least set: there are no more of them than it has -/
theorem sm_le9 {e f : Nat → Int} : ∀ n, (∀ k, k < n → e k ≤ f k) → sm e n ≤ sm f n
  | 0, _ => Int.le_refl _
  | n + 1, h => by
    have a := sm_le9 n (fun k hk => h k (by omega))
    have b := h n (by omega)
    show sm e n + e n ≤ sm f n + f n
    omega
theorem un_ex (J : Nat → Prop) : ∃ e : Nat → Int, unA9 T J e := by
  refine ⟨fun k => @ite Int (∃ x, T[k]? = some x ∧ J k ∧ x.1 ≠ 3) (Classical.propDecidable _) 1 0, fun k x hx => ⟨fun u => ?_, fun u => ?_⟩⟩
  · exact if_pos ⟨x, hx, u⟩
  · refine if_neg (fun v => ?_)
    obtain ⟨y, hy, v1⟩ := v
    rw [hx] at hy
    have e := Option.some.inj hy
    subst e
    exact u v1
end LST
end
section
/-! The reference's solver: which states are unknown, how heavy they are, exactly. -/
/-- the weight of state i -/
def hvX (M : mM) (s i : Nat) (w : Int) : Prop := ∃ (D : Int) (v : Nat), 1 ≤ D ∧ (∀ k : Nat, (k : Int) < mny M s i → mayP M s i k → mI M (s + 24) ((mI M (s + 23) i).toNat + k) ≤ D) ∧ (D = 1 ∨ ∃ k : Nat, (k : Int) < mny M s i ∧ mayP M s i k ∧ mI M (s + 24) ((mI M (s + 23) i).toNat + k) = D) ∧ wtA9 D v ∧ w = ((v : Nat) : Int)
/-- D is the greatest multiple of the first k commands, at least 1 -/
def gmX (M : mM) (s i k : Nat) (D : Int) : Prop := (∀ k' : Nat, k' < k → mayP M s i k' → mI M (s + 24) ((mI M (s + 23) i).toNat + k') ≤ D) ∧ (D = 1 ∨ ∃ k' : Nat, k' < k ∧ mayP M s i k' ∧ mI M (s + 24) ((mI M (s + 23) i).toNat + k') = D)
def lokX (M : mM) (s : Nat) (x : Int) : Prop := ∃ e w : Nat → Int, (∀ i : Nat, (i : Int) < mI M s 1 → (unk M s i → e i = 1 ∧ hvX M s i (w i)) ∧ (¬ unk M s i → e i = 0 ∧ w i = 0)) ∧ ((40 < sm e (mI M s 1).toNat ∧ x = 5) ∨ (sm e (mI M s 1).toNat ≤ 40 ∧ 480 < sm w (mI M s 1).toNat ∧ x = 6) ∨ (sm e (mI M s 1).toNat ≤ 40 ∧ sm w (mI M s 1).toNat ≤ 480 ∧ x = 0))
section VSX
variable {G : mG} {d s : Nat} {M : mM}
theorem x_MS_weight {j : Int} (h0 : 1 ≤ j) (h1 : j < 2147483648) (hO : mOk M) : Ci G y_MS_weight d [vl j] M (fun x M' => M' = M ∧ 0 ≤ x ∧ x ≤ 32 ∧ wtA9 j x.toNat) := by
  refine k_MS_weight hO ⟨by omega, by omega⟩ ?_
  suffices H : ∀ (n l : Nat), n + l = 32 → (∀ v : Nat, v < l → (2 : Int) ^ v < 2 * j) → h_MS_weight_2 G d j l M (fun x M' => M' = M ∧ 0 ≤ x ∧ x ≤ 32 ∧ wtA9 j x.toNat) from H 32 0 rfl (fun v hv => absurd hv (by omega))
  intro n
  induction n with
  | zero =>
    intro l hl lw
    have e : l = 32 := by omega
    subst e
    refine k_MS_weight_2 hO ⟨by omega, by omega⟩ ⟨by omega, by omega⟩ ⟨⟨by omega, by omega⟩, fun _ => ⟨rfl, by omega, by omega, ?_, fun v hv => lw v (by omega)⟩, fun c => absurd ?_ c⟩
    · show 2 * j ≤ 4294967296
      omega
    · rw [l_shl1 32 (by omega)]
      unfold cmpL
      split
      · omega
      · have : 2 * j ≤ (2 : Int) ^ 32 := by show 2 * j ≤ 4294967296; omega
        rw [if_pos (by omega)]; omega
  | succ n ih =>
    intro l hl lw
    refine k_MS_weight_2 hO ⟨by omega, by omega⟩ ⟨by omega, by omega⟩ ⟨⟨by omega, by omega⟩, fun c => ⟨rfl, by omega, by omega, ?_, fun v hv => lw v (by rw [Int.toNat_natCast] at hv; exact hv)⟩, fun c => ih (l + 1) (by omega) (fun v hv => ?_)⟩
    · rw [l_shl1 l (by omega)] at c
      rw [Int.toNat_natCast]
      unfold cmpL at c
      split at c
      · omega
      · split at c <;> omega
    · by_cases z : v = l
      · rw [z]
        rw [l_shl1 l (by omega)] at c
        unfold cmpL at c
        split at c
        · omega
        · split at c <;> omega
      · exact lw v (by omega)
theorem x_MS_look (hO : mOk M) (hV : Vk M s) (hG : GW M s) : Ci G y_MS_look (d + 3) [vr s] M (fun x M' => gvQ M s 0 M' ∧ lokX M' s x) := by
  have g1 := hG.1
  have g2 := hG.2.1
  have g3 := hG.2.2.1
  refine k_MS_look hO ⟨hV.k0, (s_MS_grow ⟨by omega, by omega⟩ hO hV hG).mono (fun M1 h1 => ?_)⟩
  obtain ⟨ρ, t, hg⟩ := h1.1
  obtain ⟨o1, f1, -⟩ := hg
  have hV1 := hV.fi f1
  have hG1 := hG.out f1 (by omega) (fun x _ _ => by omega)
  have es : mI M1 s = mI M s := f1.2.2.2.2.2.2 s (by omega)
  refine ⟨o1, ?_⟩
  suffices H : ∀ (n i : Nat) (c a : Int) (e w : Nat → Int), mI M s 1 - i = n → (∀ j : Nat, j < i → (unk M1 s j → e j = 1 ∧ hvX M1 s j (w j)) ∧ (¬ unk M1 s j → e j = 0 ∧ w j = 0)) → a = sm w i → c = sm e i → 0 ≤ a → a ≤ 32 * i → 0 ≤ c → c ≤ i → h_MS_look_11 G (d + 2) s c a i M1 (fun x M' => gvQ M s 0 M' ∧ lokX M' s x) from
    H (mI M s 1).toNat 0 0 0 (fun _ => 0) (fun _ => 0) (by omega) (fun j hj => by omega) rfl rfl (by omega) (by omega) (by omega) (by omega)
  intro n
  induction n with
  | zero =>
    intro i c a e w hn hw ha hc a0 a1 c0 c1
    refine k_MS_look_11 o1 ⟨by omega, by omega⟩ ⟨by omega, by omega⟩ ⟨by omega, by omega⟩ ?_
    rw [es]
    have ei : (mI M s 1).toNat = i := by omega
    refine ⟨hV1.k0, fun _ v hv => ⟨h1, e, w, fun j hj => hw j (by rw [es] at hj; omega), ?_⟩, fun q => by omega⟩
    rw [es, ei, ← ha, ← hc]
    split at hv
    · split at hv
      · exact Or.inr (Or.inr ⟨by omega, by omega, hv⟩)
      · exact Or.inr (Or.inl ⟨by omega, by omega, hv⟩)
    · exact Or.inl ⟨by omega, hv⟩
  | succ n ih =>
    intro i c a e w hn hw ha hc a0 a1 c0 c1
    have hi : (i : Int) < mI M1 s 1 := by rw [es]; omega
    have hcm := hG1.cmd hi
    rw [es] at hcm
    have hm0 : 0 ≤ mny M1 s i ∧ mny M1 s i ≤ 4200 := by unfold mny; omega
    refine k_MS_look_11 o1 ⟨by omega, by omega⟩ ⟨by omega, by omega⟩ ⟨by omega, by omega⟩ ?_
    rw [es, hV1.r4, hV1.r19, hV1.n22, hV1.n36, Int.toNat_natCast]
    refine ⟨hV1.k0, fun q => by omega, fun _ => ⟨hV1.k36, by omega, fun _ => ⟨hV1.k22, by omega⟩, fun q => ?_, fun q => ?_⟩⟩
    · have hu : ¬ unk M1 s i := fun u => by rcases q with q | q; exact u.1 q; exact u.2 q
      refine ih (i + 1) c a (fun j => if j = i then 0 else e j) (fun j => if j = i then 0 else w j) (by omega) (fun j hj => ?_) ?_ ?_ a0 (by omega) c0 (by omega)
      · by_cases z : j = i
        · subst z
          exact ⟨fun u => absurd u hu, fun _ => ⟨if_pos rfl, if_pos rfl⟩⟩
        · show (unk M1 s j → (if j = i then 0 else e j) = 1 ∧ hvX M1 s j (if j = i then 0 else w j)) ∧ (¬ unk M1 s j → (if j = i then 0 else e j) = 0 ∧ (if j = i then 0 else w j) = 0)
          rw [if_neg z, if_neg z]
          exact hw j (by omega)
      · rw [sm, sm_congr (g := w) i (fun j hj => if_neg (by omega)), if_pos rfl, ha, Int.add_zero]
      · rw [sm, sm_congr (g := e) i (fun j hj => if_neg (by omega)), if_pos rfl, hc, Int.add_zero]
    · have hu : unk M1 s i := ⟨fun z => q (Or.inl z), fun z => q (Or.inr z)⟩
      suffices H2 : ∀ (m k : Nat) (D : Int), mny M1 s i - k = m → 1 ≤ D → D < 2147483648 → gmX M1 s i k D → h_MS_look_47 G (d + 2) s (c + 1) a i D k M1 (fun x M' => gvQ M s 0 M' ∧ lokX M' s x) from
        H2 (mny M1 s i).toNat 0 1 (by omega) (by omega) (by omega) ⟨fun k' hk => by omega, Or.inl rfl⟩
      intro m
      induction m with
      | zero =>
        intro k D hm d1 d2 hD
        refine k_MS_look_47 o1 ⟨by omega, by omega⟩ ⟨by omega, by omega⟩ ⟨by omega, by omega⟩ ⟨by omega, by omega⟩ ⟨by omega, by omega⟩ ⟨hV1.k0, (s_MS_many o1 hV1 hG1 hi).mono (fun x M2 h2 => ?_)⟩
        obtain ⟨e2, hx⟩ := h2
        subst e2
        refine ⟨⟨by omega, by omega⟩, o1, fun _ => ?_, fun z => by omega⟩
        refine (x_MS_weight d1 d2 o1).mono (fun y M3 h3 => ?_)
        obtain ⟨e3, y0, y1, y2⟩ := h3
        subst e3
        refine ⟨⟨by omega, by omega⟩, o1, ?_⟩
        refine ih (i + 1) (c + 1) (a + y) (fun j => if j = i then 1 else e j) (fun j => if j = i then y else w j) (by omega) (fun j hj => ?_) ?_ ?_ (by omega) (by omega) (by omega) (by omega)
        · by_cases z : j = i
          · subst z
            refine ⟨fun _ => ⟨if_pos rfl, ?_⟩, fun u => absurd hu u⟩
            show hvX M3 s j (if j = j then y else w j)
            rw [if_pos rfl]
            refine ⟨D, y.toNat, d1, fun k' hk' hp => hD.1 k' (by omega) hp, ?_, y2, by omega⟩
            rcases hD.2 with u | ⟨k', u1, u2, u3⟩
            · exact Or.inl u
            · exact Or.inr ⟨k', by omega, u2, u3⟩
          · show (unk M3 s j → (if j = i then 1 else e j) = 1 ∧ hvX M3 s j (if j = i then y else w j)) ∧ (¬ unk M3 s j → (if j = i then 1 else e j) = 0 ∧ (if j = i then y else w j) = 0)
            rw [if_neg z, if_neg z]
            exact hw j (by omega)
        · rw [sm, sm_congr (g := w) i (fun j hj => if_neg (by omega)), if_pos rfl, ha]
        · rw [sm, sm_congr (g := e) i (fun j hj => if_neg (by omega)), if_pos rfl, hc]
      | succ m ih2 =>
        intro k D hm d1 d2 hD
        have hk9 : (k : Int) < 100000 := by omega
        refine k_MS_look_47 o1 ⟨by omega, by omega⟩ ⟨by omega, by omega⟩ ⟨by omega, by omega⟩ ⟨by omega, by omega⟩ ⟨by omega, by omega⟩ ⟨hV1.k0, (s_MS_many o1 hV1 hG1 hi).mono (fun x M2 h2 => ?_)⟩
        obtain ⟨e2, hx⟩ := h2
        subst e2
        have ec : (mI M2 (s + 23) i + (k : Int)).toNat = (mI M2 (s + 23) i).toNat + k := by omega
        have hik : (k : Int) < mI M2 (s + 23) (i + 1) - mI M2 (s + 23) i := by have : mny M2 s i = mI M2 (s + 23) (i + 1) - mI M2 (s + 23) i := rfl; omega
        rw [hV1.r5, hV1.r6, hV1.n23, hV1.n24, Int.toNat_natCast, ec]
        refine ⟨⟨by omega, by omega⟩, o1, fun z => by omega, fun _ => ⟨hV1.k0, hV1.k23, by omega, hV1.k24, by omega, ?_⟩⟩
        refine (s_MS_may hk9 o1 hV1 hG1 hi).mono (fun y M3 h3 => ?_)
        obtain ⟨e3, hy, hqy⟩ := h3
        subst e3
        refine ⟨⟨by omega, by omega⟩, o1, fun v hv => ?_⟩
        have hr : mI M3 (s + 24) ((mI M3 (s + 23) i).toNat + k) < 2147483648 := by have := (o1 (s + 24) ((mI M3 (s + 23) i).toNat + k)).1; unfold i32 at this; omega
        refine ih2 (k + 1) v (by omega) (by split at hv <;> omega) (by split at hv <;> omega) ⟨fun k' hk' hp => ?_, ?_⟩
        · by_cases z : k' = k
          · subst z
            have hy0 : y ≠ 0 := hqy.2 hp
            split at hv <;> omega
          · have := hD.1 k' (by omega) hp
            split at hv <;> omega
        · split at hv
          · rw [hv]
            rcases hD.2 with u | ⟨k', u1, u2, u3⟩
            · exact Or.inl u
            · exact Or.inr ⟨k', by omega, u2, u3⟩
          · rename_i c9
            exact Or.inr ⟨k, by omega, hqy.1 (fun z => c9 (Or.inl z)), hv.symm⟩
theorem lokX.q {x : Int} (o : mOk M) (h : lokX M s x) : (x = 0 ∨ x = 5 ∨ x = 6) ∧ (x = 0 → lokQ M s) := by
  obtain ⟨e, w, hw, hr⟩ := h
  refine ⟨by rcases hr with ⟨-, y⟩ | ⟨-, -, y⟩ | ⟨-, -, y⟩ <;> omega, fun x0 => ?_⟩
  have hb : sm e (mI M s 1).toNat ≤ 40 ∧ sm w (mI M s 1).toNat ≤ 480 := by
    rcases hr with ⟨-, y⟩ | ⟨-, -, y⟩ | ⟨y1, y2, -⟩
    · omega
    · omega
    · exact ⟨y1, y2⟩
  clear hr
  refine ⟨w, fun i hi => ⟨fun u => ?_, fun u => ((hw i hi).2 u).2⟩, hb.2, ?_⟩
  · obtain ⟨-, D, v, d1, d2, d3, d4, d5⟩ := (hw i hi).1 u
    have D9 : D < 2147483648 := by
      rcases d3 with y | ⟨k, -, -, y⟩
      · omega
      · have q := (o (s + 24) ((mI M (s + 23) i).toNat + k)).1
        unfold i32 at q
        omega
    have v32 : v ≤ 32 := by
      rcases Nat.lt_or_ge 32 v with c | c
      · have q := d4.2 32 c
        have e9 : (2 : Int) ^ 32 = 4294967296 := by decide
        omega
      · exact c
    rw [d5]
    exact ⟨by omega, by omega, D, d1, by rw [Int.toNat_natCast]; exact d4.1, d2⟩
  · rw [sm_congr (g := e) _ (fun i hi => ?_)]
    · exact hb.1
    · show (if unk M s i then (1 : Int) else 0) = e i
      by_cases u : unk M s i
      · rw [if_pos u, ((hw i (by omega)).1 u).1]
      · rw [if_neg u, ((hw i (by omega)).2 u).1]
end VSX
end
section
/-! Kinds of states: a state of no player has no commands. Pure. -/
section KDT
variable {ev : List Int → Nat → Nat → vrs} {stp : List Int → List (Nat × Nat × Nat × Nat) → (Int × Int) × List Int} {sg : List Int} {nb c : Nat} {cm : cm9} {cms : List cm9} {s : sl9}
/-- a state of no player has no commands -/
def kdX (k : Int) (l : List sc9) : Prop := k = 1 ∨ k = 2 ∨ l = []
def kdT (T : xt9) : Prop := ∀ x, x ∈ T → kdX x.1 x.2
def kdS (s : sl9) : Prop := kdX s.2.2.1 s.2.2.2
theorem ite_sl {P : sl9 → Prop} {c : Prop} {_ : Decidable c} {a b : sl9} (ha : P a) (hb : P b) : P (if c then a else b) := by
  split
  · exact ha
  · exact hb
theorem tcq_kd (hc : cm.1 = 1 ∨ cm.1 = 2) (h : kdS s) : kdS (tcq9 ev stp sg nb c cm s) := by
  unfold tcq9
  refine ite_sl (P := kdS) h (ite_sl (P := kdS) h (ite_sl (P := kdS) h (ite_sl (P := kdS) h (ite_sl (P := kdS) h (ite_sl (P := kdS) h ?_)))))
  rcases hc with e | e
  · exact Or.inl e
  · exact Or.inr (Or.inl e)
theorem tsq_kd : ∀ (l : List cm9) (c : Nat) (s : sl9), (∀ cm, cm ∈ l → cm.1 = 1 ∨ cm.1 = 2) → kdS s → kdS (tsq9 ev stp sg nb l c s)
  | [], _, _, _, h => h
  | cm :: r, c, s, hl, h => by
    show kdS (if s.1.1 ≠ 0 then s else tsq9 ev stp sg nb r (c + 1) (tcq9 ev stp sg nb c cm s))
    exact ite_sl (P := kdS) h (tsq_kd r (c + 1) _ (fun x hx => hl x (List.mem_cons_of_mem _ hx)) (tcq_kd (hl cm List.mem_cons_self) h))
theorem ssq_kd {tg : Nat × Nat} {S : List (List Int)} (hl : ∀ cm, cm ∈ cms → cm.1 = 1 ∨ cm.1 = 2) : kdS (ssq9 ev stp tg cms sg nb S) := by
  unfold ssq9
  exact ite_sl (P := kdS) (Or.inr (Or.inr rfl)) (ite_sl (P := kdS) (Or.inr (Or.inr rfl)) (tsq_kd cms 0 _ hl (Or.inr (Or.inr rfl))))
theorem exq_kd {tg : Nat × Nat} (hl : ∀ cm, cm ∈ cms → cm.1 = 1 ∨ cm.1 = 2) : ∀ (f k : Nat) (S : List (List Int)) (T : xt9), kdT T → kdT (exq9 ev stp tg cms f k S T).2.2.2
  | 0, _, _, _, h => h
  | f + 1, k, S, T, h => by
    rw [exq9]
    split
    · exact h
    · rename_i sg _
      split
      · exact fun x hx => absurd hx List.not_mem_nil
      · refine exq_kd hl f (k + 1) _ _ (fun x hx => ?_)
        rcases List.mem_append.mp hx with u | u
        · exact h x u
        · rw [List.mem_singleton.mp u]
          exact ssq_kd (sg := sg) hl
theorem xpl_kd {tg : Nat × Nat} {s0 : List Int} (hl : ∀ cm, cm ∈ cms → cm.1 = 1 ∨ cm.1 = 2) : kdT (xpl9 ev stp tg cms s0).2.2.2 := exq_kd hl 513 0 _ [] (fun x hx => absurd hx List.not_mem_nil)
end KDT
end
section
/-! WITHIN: what within answers. Pure. -/
section WIT
variable {T : xt9} {x x' : Nat → Rat} {n : Nat} {r r' : Int} {f g : Nat → Rat} {mx : Prop}
/-- shares times numbers -/
def wsL9 (x : Nat → Rat) : List (Nat × Int) → Rat
  | [] => 0
  | b :: l => (b.2 : Rat) * x b.1 + wsL9 x l
/-- a command's worth -/
def wr9 (x : Nat → Rat) (c : sc9) : Rat := wsL9 x c.2.2 * (c.2.1 : Rat)⁻¹
/-- the best of the commands 0 to i -/
noncomputable def bst9 (mx : Prop) (f : Nat → Rat) : Nat → Rat
  | 0 => f 0
  | i + 1 => @ite Rat ((mx ∧ bst9 mx f i < f (i + 1)) ∨ (¬ mx ∧ f (i + 1) < bst9 mx f i)) (Classical.propDecidable _) (f (i + 1)) (bst9 mx f i)
theorem bst_cg : ∀ i, (∀ j, j ≤ i → f j = g j) → bst9 mx f i = bst9 mx g i
  | 0, h => h 0 (Nat.le_refl _)
  | i + 1, h => by
    have a := bst_cg i (fun j hj => h j (by omega))
    have b := h (i + 1) (Nat.le_refl _)
    unfold bst9
    rw [a, b]
/-- command i of a state -/
def cq0 (y : Int × List sc9) (i : Nat) : sc9 := y.2.getD i (0, 1, [])
/-- a state's number after one more move -/
noncomputable def stv9 (x : Nat → Rat) (y : Int × List sc9) : Rat := match y.2.length with
  | 0 => if y.1 = 3 then 1 else 0
  | j + 1 => bst9 (y.1 = 1) (fun i => wr9 x (cq0 y i)) j
/-- WITHIN -/
noncomputable def wi9 (T : xt9) : Nat → Nat → Rat
  | 0 => fun k => ((T[k]?).map (fun y => if y.1 = 3 then (1 : Rat) else 0)).getD 0
  | m + 1 => fun k => ((T[k]?).map (fun y => stv9 (wi9 T m) y)).getD 0
/-- a number whose parts have at most 480 bits -/
def ft9 (q : Rat) : Prop := ∃ a b : Int, (0 ≤ a ∧ 0 < b) ∧ (a < 2 ^ 480 ∧ b < 2 ^ 480) ∧ q * (b : Rat) = (a : Rat)
/-- what within answers -/
def anA9 (T : xt9) (n : Nat) (r : Int) : Prop := (r = 0 ∧ ∀ m, m ≤ n → ∀ k, k < T.length → ft9 (wi9 T m k)) ∨ (r = 6 ∧ ∃ m, m ≤ n ∧ ∃ k, k < T.length ∧ ¬ ft9 (wi9 T m k))
theorem anA9.same (h : anA9 T n r) (h' : anA9 T n r') : r = r' := by
  rcases h with ⟨a1, a2⟩ | ⟨a1, m, a2, k, a3, a4⟩
  · rcases h' with ⟨b1, b2⟩ | ⟨b1, m', b2, k', b3, b4⟩
    · rw [a1, b1]
    · exact absurd (a2 m' b2 k' b3) b4
  · rcases h' with ⟨b1, b2⟩ | ⟨b1, m', b2, k', b3, b4⟩
    · exact absurd (b2 m a2 k a3) a4
    · rw [a1, b1]
theorem wsL_cg : ∀ l : List (Nat × Int), (∀ b, b ∈ l → x b.1 = x' b.1) → wsL9 x l = wsL9 x' l
  | [], _ => rfl
  | b :: l, h => by
    show (b.2 : Rat) * x b.1 + wsL9 x l = (b.2 : Rat) * x' b.1 + wsL9 x' l
    rw [h b List.mem_cons_self, wsL_cg l (fun c hc => h c (List.mem_cons_of_mem _ hc))]
theorem wr_cg {c : sc9} (h : ∀ b, b ∈ c.2.2 → x b.1 = x' b.1) : wr9 x c = wr9 x' c := by
  unfold wr9
  rw [wsL_cg c.2.2 h]
theorem cq0_of {y : Int × List sc9} {i : Nat} {c : sc9} (h : y.2[i]? = some c) : cq0 y i = c := by
  unfold cq0
  rw [List.getD_eq_getElem?_getD, h]
  all_goals rfl
/-- no parts of at most 480 bits: those in least terms are longer -/
theorem nft_of {q : Rat} {a b : Int} (e : q * (b : Rat) = (a : Rat)) (a0 : 0 ≤ a) (b0 : 0 < b) (hg : Int.gcd a b = 1) (h : 2 ^ 480 ≤ a ∨ 2 ^ 480 ≤ b) : ¬ ft9 q := by
  rintro ⟨a', b', ⟨c0, c1⟩, ⟨c2, c3⟩, e'⟩
  have x1 : ((a * b' : Int) : Rat) = ((a' * b : Int) : Rat) := by
    rw [Rat.intCast_mul, Rat.intCast_mul, ← e, ← e']
    grind
  have x2 : a * b' = a' * b := by exact_mod_cast x1
  have hc : Nat.Coprime b.natAbs a.natAbs := by
    unfold Nat.Coprime
    rw [Nat.gcd_comm]
    exact hg
  have hd : b.natAbs ∣ a.natAbs * b'.natAbs := by
    rw [← Int.natAbs_mul, x2, Int.natAbs_mul]
    exact Nat.dvd_mul_left _ _
  have d2 : b ∣ b' := Int.natAbs_dvd_natAbs.1 (hc.dvd_of_dvd_mul_left hd)
  obtain ⟨t, ht⟩ := d2
  have t1 : 1 ≤ t := by
    rcases Int.lt_or_le 0 t with u | u
    · omega
    · have w := Int.mul_le_mul_of_nonneg_left u (Int.le_of_lt b0)
      rw [Int.mul_zero, ← ht] at w
      omega
  have s1 : b ≤ b' := by
    have w := Int.mul_le_mul_of_nonneg_left t1 (Int.le_of_lt b0)
    rw [Int.mul_one, ← ht] at w
    exact w
  have x3 : a * t = a' := by
    have w : b * (a * t) = b * a' := by
      rw [Int.mul_comm b a', ← x2, ht]
      grind
    exact Int.eq_of_mul_eq_mul_left (by omega) w
  have s2 : a ≤ a' := by
    have w := Int.mul_le_mul_of_nonneg_left t1 a0
    rw [Int.mul_one, x3] at w
    exact w
  omega
end WIT
end
section
/-! Determinants: by the first row. -/
theorem sm_add {f g : Nat → Int} : ∀ (n : Nat), sm (fun j => f j + g j) n = sm f n + sm g n
  | 0 => rfl
  | n + 1 => by rw [sm, sm, sm, sm_add n]; omega
theorem sm_mul {f : Nat → Int} {x : Int} : ∀ (n : Nat), sm (fun j => x * f j) n = x * sm f n
  | 0 => by simp [sm]
  | n + 1 => by rw [sm, sm, sm_mul n, Int.mul_add]
theorem sm_zero {f : Nat → Int} : ∀ (n : Nat), (∀ j, j < n → f j = 0) → sm f n = 0
  | 0, _ => rfl
  | n + 1, h => by rw [sm, sm_zero n (fun j hj => h j (by omega)), h n (by omega)]; rfl
/-- only two terms, which cancel -/
theorem sm_two {f : Nat → Int} {c : Nat} (h : f c + f (c + 1) = 0) : ∀ (n : Nat), c + 1 < n → (∀ j, j < n → j ≠ c → j ≠ c + 1 → f j = 0) → sm f n = 0
  | 0, hc, _ => by omega
  | n + 1, hc, h0 => by
    rw [sm]
    by_cases q : n = c + 1
    · subst q
      rw [sm, sm_zero c (fun j hj => h0 j (by omega) (by omega) (by omega))]
      omega
    · rw [sm_two h n (by omega) (fun j hj => h0 j (by omega)), h0 n (by omega) (by omega) (by omega)]
      rfl
def sk (j c : Nat) : Nat := if c < j then c else c + 1
def del (j : Nat) (A : Nat → Nat → Int) : Nat → Nat → Int := fun r c => A (r + 1) (sk j c)
def det : Nat → (Nat → Nat → Int) → Int
  | 0, _ => 1
  | n + 1, A => sm (fun j => (-1) ^ j * A 0 j * det n (del j A)) (n + 1)
theorem det_congr : ∀ (n : Nat) {A B : Nat → Nat → Int}, (∀ r c, r < n → c < n → A r c = B r c) → det n A = det n B
  | 0, _, _, _ => rfl
  | n + 1, A, B, h => by
    rw [det, det]
    refine sm_congr (n + 1) (fun j hj => ?_)
    rw [h 0 j (by omega) hj, det_congr n (A := del j A) (B := del j B) (fun r c hr hc => ?_)]
    unfold del sk
    exact h _ _ (by omega) (by split <;> omega)
def rc (A : Nat → Nat → Int) (c : Nat) (v : Nat → Int) : Nat → Nat → Int := fun r k => if k = c then v r else A r k
theorem del_rc_ne {A : Nat → Nat → Int} {c j : Nat} {v : Nat → Int} (h : j ≠ c) : del j (rc A c v) = rc (del j A) (if j < c then c - 1 else c) (fun r => v (r + 1)) := by
  funext r k
  have e : sk j k = c ↔ k = (if j < c then c - 1 else c) := by unfold sk; split <;> split <;> omega
  show (if sk j k = c then v (r + 1) else A (r + 1) (sk j k)) = (if k = (if j < c then c - 1 else c) then v (r + 1) else A (r + 1) (sk j k))
  by_cases q : sk j k = c
  · rw [if_pos q, if_pos (e.1 q)]
  · rw [if_neg q, if_neg (fun w => q (e.2 w))]
theorem del_rc_eq {A : Nat → Nat → Int} {c : Nat} {v : Nat → Int} : del c (rc A c v) = del c A := by
  funext r k
  unfold del rc sk
  rw [if_neg (by split <;> omega)]
theorem det_lin : ∀ (n : Nat) {A : Nat → Nat → Int} {c : Nat} {x : Int} {u w : Nat → Int}, c < n → det n (rc A c (fun r => x * u r + w r)) = x * det n (rc A c u) + det n (rc A c w)
  | 0, _, _, _, _, _, h => by omega
  | n + 1, A, c, x, u, w, h => by
    rw [det, det, det, ← sm_mul, ← sm_add]
    refine sm_congr (n + 1) (fun j hj => ?_)
    by_cases q : j = c
    · subst q
      rw [del_rc_eq, del_rc_eq, del_rc_eq]
      show (-1) ^ j * (if j = j then x * u 0 + w 0 else A 0 j) * _ = x * ((-1) ^ j * (if j = j then u 0 else A 0 j) * _) + (-1) ^ j * (if j = j then w 0 else A 0 j) * _
      rw [if_pos rfl, if_pos rfl, if_pos rfl]
      generalize (-1 : Int) ^ j = s
      generalize det n (del j A) = D
      grind
    · rw [del_rc_ne q, del_rc_ne q, del_rc_ne q]
      show (-1) ^ j * (if j = c then x * u 0 + w 0 else A 0 j) * det n (rc (del j A) (if j < c then c - 1 else c) (fun r => x * u (r + 1) + w (r + 1))) = x * ((-1) ^ j * (if j = c then u 0 else A 0 j) * _) + (-1) ^ j * (if j = c then w 0 else A 0 j) * _
      rw [if_neg q, if_neg q, if_neg q, det_lin n (A := del j A) (u := fun r => u (r + 1)) (w := fun r => w (r + 1)) (by split <;> omega)]
      generalize (-1 : Int) ^ j = s
      generalize det n (rc (del j A) _ (fun r => u (r + 1))) = D
      generalize det n (rc (del j A) _ (fun r => w (r + 1))) = E
      grind
theorem det_adj : ∀ (n : Nat) {A : Nat → Nat → Int} {c : Nat}, c + 1 < n → (∀ r, r < n → A r c = A r (c + 1)) → det n A = 0
  | 0, _, _, h, _ => by omega
  | n + 1, A, c, h, e => by
    rw [det]
    refine sm_two (c := c) ?_ (n + 1) h (fun j hj j1 j2 => ?_)
    · have hd : det n (del c A) = det n (del (c + 1) A) := by
        refine det_congr n (fun r k hr hk => ?_)
        unfold del sk
        by_cases q : k < c
        · rw [if_pos q, if_pos (by omega)]
        · by_cases z : k = c
          · subst z
            rw [if_neg q, if_pos (by omega)]
            exact (e (r + 1) (by omega)).symm
          · rw [if_neg q, if_neg (by omega)]
      rw [hd, e 0 (by omega), Int.pow_succ]
      generalize (-1 : Int) ^ c = s
      generalize det n (del (c + 1) A) = D
      grind
    · have hz : det n (del j A) = 0 := by
        by_cases q : j < c
        · refine det_adj n (c := c - 1) (by omega) (fun r hr => ?_)
          unfold del sk
          rw [if_neg (by omega), if_neg (by omega), show c - 1 + 1 = c by omega]
          exact e (r + 1) (by omega)
        · refine det_adj n (c := c) (by omega) (fun r hr => ?_)
          unfold del sk
          rw [if_pos (by omega), if_pos (by omega)]
          exact e (r + 1) (by omega)
      rw [hz, Int.mul_zero]
end
section
/-! Determinants: Cramer's rule, a bound, the last column. -/
theorem rc_comm {A : Nat → Nat → Int} {c e : Nat} {u w : Nat → Int} (h : c ≠ e) : rc (rc A e w) c u = rc (rc A c u) e w := by
  funext r k
  unfold rc
  by_cases q : k = c
  · rw [if_pos q, if_neg (by omega), if_pos q]
  · rw [if_neg q]
    by_cases z : k = e
    · rw [if_pos z, if_pos z]
    · rw [if_neg z, if_neg z, if_neg q]
theorem rc_self {A : Nat → Nat → Int} {c : Nat} : rc A c (fun r => A r c) = A := by
  funext r k
  unfold rc
  by_cases q : k = c
  · rw [if_pos q, q]
  · rw [if_neg q]
theorem det_add {n : Nat} {A : Nat → Nat → Int} {c : Nat} {u w : Nat → Int} (h : c < n) : det n (rc A c (fun r => u r + w r)) = det n (rc A c u) + det n (rc A c w) := by
  have e := det_lin n (A := A) (c := c) (x := 1) (u := u) (w := w) h
  rw [show (fun r => 1 * u r + w r) = (fun r => u r + w r) from funext (fun r => by omega)] at e
  omega
def sw (A : Nat → Nat → Int) (c : Nat) : Nat → Nat → Int := rc (rc A (c + 1) (fun r => A r c)) c (fun r => A r (c + 1))
theorem det_sw {n : Nat} {A : Nat → Nat → Int} {c : Nat} (h : c + 1 < n) : det n (sw A c) = - det n A := by
  have z : ∀ u : Nat → Int, det n (rc (rc A c u) (c + 1) u) = 0 := fun u => by
    refine det_adj n h (fun r hr => ?_)
    unfold rc
    rw [if_neg (by omega), if_pos rfl, if_pos rfl]
  have C : ∀ u w : Nat → Int, rc (rc A c u) (c + 1) w = rc (rc A (c + 1) w) c u := fun u w => (rc_comm (by omega)).symm
  have L : ∀ w : Nat → Int, det n (rc (rc A c (fun r => A r c + A r (c + 1))) (c + 1) w) = det n (rc (rc A c (fun r => A r c)) (c + 1) w) + det n (rc (rc A c (fun r => A r (c + 1))) (c + 1) w) := fun w => by
    rw [C, C, C]
    exact det_add (by omega)
  have e := z (fun r => A r c + A r (c + 1))
  rw [det_add h, L, L, z, z] at e
  have e1 : rc (rc A c (fun r => A r c)) (c + 1) (fun r => A r (c + 1)) = A := by rw [rc_self, rc_self]
  rw [e1, C] at e
  unfold sw
  omega
theorem det_eq : ∀ (m : Nat) {n : Nat} {A : Nat → Nat → Int} {c : Nat}, c + 1 + m < n → (∀ r, r < n → A r c = A r (c + 1 + m)) → det n A = 0
  | 0, n, A, c, h, e => det_adj n h e
  | m + 1, n, A, c, h, e => by
    have h1 := det_sw (n := n) (A := A) (c := c + 1 + m) (by omega)
    have h2 : det n (sw A (c + 1 + m)) = 0 := by
      refine det_eq m (c := c) (by omega) (fun r hr => ?_)
      unfold sw rc
      rw [if_neg (by omega), if_neg (by omega), if_pos rfl]
      exact e r hr
    omega
theorem det_two {n : Nat} {A : Nat → Nat → Int} {c e : Nat} (hc : c < n) (he : e < n) (hne : c ≠ e) (h : ∀ r, r < n → A r c = A r e) : det n A = 0 := by
  by_cases q : c < e
  · refine det_eq (e - c - 1) (c := c) (by omega) (fun r hr => ?_)
    rw [show c + 1 + (e - c - 1) = e by omega]
    exact h r hr
  · refine det_eq (c - e - 1) (c := e) (by omega) (fun r hr => ?_)
    rw [show e + 1 + (c - e - 1) = c by omega]
    exact (h r hr).symm
theorem cramer {n : Nat} {A : Nat → Nat → Int} {x b : Nat → Int} {c : Nat} (hc : c < n) (h : ∀ r, r < n → sm (fun j => x j * A r j) n = b r) : det n (rc A c b) = x c * det n A := by
  have H : ∀ m, m ≤ n → det n (rc A c (fun r => sm (fun j => x j * A r j) m)) = if c < m then x c * det n A else 0 := by
    intro m
    induction m with
    | zero =>
      intro _
      have e := det_add (n := n) (A := A) (c := c) (u := fun _ => 0) (w := fun _ => 0) hc
      have e0 : det n (rc A c (fun _ => 0)) = 0 := by
        have e1 : det n (rc A c (fun _ => (0 : Int) + 0)) = det n (rc A c (fun _ => 0)) := rfl
        omega
      exact e0
    | succ m ih =>
      intro hm
      have e := det_lin n (A := A) (c := c) (x := x m) (u := fun r => A r m) (w := fun r => sm (fun j => x j * A r j) m) hc
      rw [show (fun r => x m * A r m + sm (fun j => x j * A r j) m) = (fun r => sm (fun j => x j * A r j) (m + 1)) from funext (fun r => by rw [sm]; omega), ih (by omega)] at e
      rw [e]
      by_cases q : m = c
      · subst q
        rw [rc_self, if_neg (by omega), if_pos (by omega)]
        omega
      · have z : det n (rc A c (fun r => A r m)) = 0 := by
          refine det_two hc (show m < n by omega) (fun w => q w.symm) (fun r hr => ?_)
          unfold rc
          rw [if_pos rfl, if_neg q]
        rw [z, Int.mul_zero, Int.zero_add]
        by_cases y : c < m
        · rw [if_pos y, if_pos (by omega)]
        · rw [if_neg y, if_neg (by omega)]
  have e := H n (Nat.le_refl _)
  rw [if_pos hc] at e
  rw [← e]
  refine det_congr n (fun r k hr hk => ?_)
  unfold rc
  by_cases q : k = c
  · rw [if_pos q, if_pos q]
    exact (h r hr).symm
  · rw [if_neg q, if_neg q]
theorem det_last : ∀ (n : Nat) {A : Nat → Nat → Int}, (∀ r, r ≤ n → A r n = if r = n then 1 else 0) → det (n + 1) A = det n A
  | 0, A, h => by
    have e : det 1 A = 0 + (-1) ^ 0 * A 0 0 * 1 := rfl
    rw [e, h 0 (by omega)]
    rfl
  | n + 1, A, h => by
    have e : det (n + 1 + 1) A = sm (fun j => (-1) ^ j * A 0 j * det (n + 1) (del j A)) (n + 1) + (-1) ^ (n + 1) * A 0 (n + 1) * det (n + 1) (del (n + 1) A) := rfl
    have e2 : det (n + 1) A = sm (fun j => (-1) ^ j * A 0 j * det n (del j A)) (n + 1) := rfl
    rw [e, e2, h 0 (by omega), if_neg (by omega), Int.mul_zero, Int.zero_mul, Int.add_zero]
    refine sm_congr (n + 1) (fun j hj => ?_)
    rw [det_last n (A := del j A) (fun r hr => ?_)]
    unfold del sk
    rw [if_neg (by omega), h (r + 1) (by omega)]
    by_cases q : r = n
    · rw [if_pos (by omega), if_pos q]
    · rw [if_neg (by omega), if_neg q]
def pr (f : Nat → Int) : Nat → Int
  | 0 => 1
  | n + 1 => pr f n * f n
theorem pr_shift {f : Nat → Int} : ∀ (n : Nat), pr f (n + 1) = f 0 * pr (fun r => f (r + 1)) n
  | 0 => by simp [pr]
  | n + 1 => by rw [pr, pr_shift n, pr, Int.mul_assoc]
theorem pr_nonneg {f : Nat → Int} : ∀ (n : Nat), (∀ j, j < n → 0 ≤ f j) → 0 ≤ pr f n
  | 0, _ => Int.zero_le_ofNat 1
  | n + 1, h => by rw [pr]; exact Int.mul_nonneg (pr_nonneg n (fun j hj => h j (by omega))) (h n (by omega))
theorem sm_le {f g : Nat → Int} : ∀ (n : Nat), (∀ j, j < n → f j ≤ g j) → sm f n ≤ sm g n
  | 0, _ => by simp [sm]
  | n + 1, h => by
    have := sm_le n (fun j hj => h j (by omega))
    have := h n (by omega)
    rw [sm, sm]
    omega
theorem sm_abs {f : Nat → Int} : ∀ (n : Nat), ((sm f n).natAbs : Int) ≤ sm (fun j => ((f j).natAbs : Int)) n
  | 0 => by simp [sm]
  | n + 1 => by
    have := sm_abs (f := f) n
    rw [sm, sm]
    omega
theorem sm_sk {f : Nat → Int} {j : Nat} : ∀ (n : Nat), j ≤ n → sm (fun k => f (sk j k)) n + f j = sm f (n + 1)
  | 0, h => by
    have e : j = 0 := by omega
    subst e
    rfl
  | n + 1, h => by
    by_cases q : j = n + 1
    · subst q
      show _ + f (n + 1) = sm f (n + 1) + f (n + 1)
      congr 1
      refine sm_congr (n + 1) (fun k hk => ?_)
      unfold sk
      rw [if_pos hk]
    · have e := sm_sk (f := f) (j := j) n (by omega)
      have e1 : sm (fun k => f (sk j k)) (n + 1) = sm (fun k => f (sk j k)) n + f (sk j n) := rfl
      have e2 : sm f (n + 1 + 1) = sm f (n + 1) + f (n + 1) := rfl
      have e3 : f (sk j n) = f (n + 1) := by unfold sk; rw [if_neg (by omega)]
      omega
theorem det_abs : ∀ (n : Nat) {A : Nat → Nat → Int} {R : Nat → Int}, (∀ r, r < n → sm (fun c => ((A r c).natAbs : Int)) n ≤ R r) → ((det n A).natAbs : Int) ≤ pr R n
  | 0, _, _, _ => Int.le_refl 1
  | n + 1, A, R, h => by
    have hs0 : ∀ (f : Nat → Int) (m : Nat), 0 ≤ sm (fun c => ((f c).natAbs : Int)) m := fun f m => by
      have := sm_abs (f := f) m
      omega
    have hR : ∀ r, r < n → 0 ≤ R (r + 1) := fun r hr => by
      have h1 := h (r + 1) (by omega)
      have h2 := hs0 (A (r + 1)) (n + 1)
      omega
    have hP := pr_nonneg (f := fun r => R (r + 1)) n hR
    rw [pr_shift, det]
    refine Int.le_trans (sm_abs (n + 1)) ?_
    have h1 : sm (fun j => (((-1) ^ j * A 0 j * det n (del j A)).natAbs : Int)) (n + 1) ≤ sm (fun j => pr (fun r => R (r + 1)) n * ((A 0 j).natAbs : Int)) (n + 1) := by
      refine sm_le (n + 1) (fun j hj => ?_)
      have hd := det_abs n (A := del j A) (R := fun r => R (r + 1)) (fun r hr => by
        have e := sm_sk (f := fun c => ((A (r + 1) c).natAbs : Int)) (j := j) n (by omega)
        have h2 := h (r + 1) (by omega)
        have h3 : sm (fun c => ((del j A r c).natAbs : Int)) n = sm (fun k => ((A (r + 1) (sk j k)).natAbs : Int)) n := rfl
        omega)
      have hp : ((-1 : Int) ^ j).natAbs = 1 := by rw [Int.natAbs_pow]; simp
      rw [Int.natAbs_mul, Int.natAbs_mul, hp, Nat.one_mul, Int.natCast_mul, Int.mul_comm]
      exact Int.mul_le_mul_of_nonneg_right hd (by omega)
    refine Int.le_trans h1 ?_
    rw [sm_mul, Int.mul_comm]
    exact Int.mul_le_mul_of_nonneg_right (h 0 (by omega)) hP
end
section
/-! Elimination of states, over fractions: what stays true. -/
def sr (f : Nat → Rat) : Nat → Rat
  | 0 => 0
  | n + 1 => sr f n + f n
theorem sr_congr {f g : Nat → Rat} : ∀ (n : Nat), (∀ j, j < n → f j = g j) → sr f n = sr g n
  | 0, _ => rfl
  | n + 1, h => by rw [sr, sr, sr_congr n (fun j hj => h j (by omega)), h n (by omega)]
theorem sr_add {f g : Nat → Rat} : ∀ (n : Nat), sr (fun j => f j + g j) n = sr f n + sr g n
  | 0 => by show (0 : Rat) = 0 + 0; grind
  | n + 1 => by rw [sr, sr, sr, sr_add n]; grind
theorem sr_mul {f : Nat → Rat} {x : Rat} : ∀ (n : Nat), sr (fun j => x * f j) n = x * sr f n
  | 0 => by simp [sr]
  | n + 1 => by rw [sr, sr, sr_mul n]; grind
theorem sr_le {f g : Nat → Rat} : ∀ (n : Nat), (∀ j, j < n → f j ≤ g j) → sr f n ≤ sr g n
  | 0, _ => by simp [sr]
  | n + 1, h => by
    have h1 := sr_le n (fun j hj => h j (by omega))
    have h2 := h n (by omega)
    rw [sr, sr]
    grind
theorem sr_nonneg {f : Nat → Rat} : ∀ (n : Nat), (∀ j, j < n → 0 ≤ f j) → 0 ≤ sr f n
  | 0, _ => by simp [sr]
  | n + 1, h => by
    have h1 := sr_nonneg n (fun j hj => h j (by omega))
    have h2 := h n (by omega)
    rw [sr]
    grind
theorem sr_shift {f : Nat → Rat} : ∀ (n : Nat), sr f (n + 1) = f 0 + sr (fun t => f (t + 1)) n
  | 0 => by show (0 : Rat) + f 0 = f 0 + 0; grind
  | n + 1 => by
    have e : sr f (n + 1 + 1) = sr f (n + 1) + f (n + 1) := rfl
    have e2 : sr (fun t => f (t + 1)) (n + 1) = sr (fun t => f (t + 1)) n + f (n + 1) := rfl
    rw [e, e2, sr_shift n]
    grind
theorem alg1 {a w H Y : Rat} (hw : (1 - a) * w = 1) (h1 : 0 ≤ w * ((1 - a) * H - Y)) : 0 ≤ H - w * Y := by
  have e : H - w * Y = w * ((1 - a) * H - Y) := by grind
  rw [e]
  exact h1
/-- one state is taken out -/
def gst (k : Nat) (q : Nat → Nat → Rat) : Nat → Nat → Rat := fun i j => q i j + q i k * ((1 - q k k)⁻¹ * q k j)
def gq (p : Nat → Nat → Rat) : Nat → Nat → Nat → Rat
  | 0 => p
  | k + 1 => gst k (gq p k)
/-- m states, k of them taken out; h says that each state loses something -/
def gok (m k : Nat) (q : Nat → Nat → Rat) (h : Nat → Rat) : Prop := (∀ i j, i < m → k ≤ j → j ≤ m → 0 ≤ q i j) ∧ (∀ i, i < m → sr (fun t => q i (k + t)) (m + 1 - k) ≤ 1) ∧ (∀ i, i < m → 0 < h i) ∧ (∀ i, i < m → sr (fun t => q i (k + t) * h (k + t)) (m - k) < h i)
theorem gok_pivot {m k : Nat} {q : Nat → Nat → Rat} {h : Nat → Rat} (g : gok m k q h) (hk : k < m) : 0 < 1 - q k k := by
  obtain ⟨g1, g2, g3, g4⟩ := g
  have a := g4 k hk
  rw [show m - k = (m - k - 1) + 1 by omega, sr_shift] at a
  have b : 0 ≤ sr (fun t => q k (k + (t + 1)) * h (k + (t + 1))) (m - k - 1) := sr_nonneg _ (fun t ht => Rat.mul_nonneg (g1 k _ hk (by omega) (by omega)) (Rat.le_of_lt (g3 _ (by omega))))
  have c := g3 k hk
  have e : q k (k + 0) * h (k + 0) = q k k * h k := rfl
  rw [e] at a
  refine Classical.byContradiction (fun w => ?_)
  have d : 0 ≤ (q k k - 1) * h k := Rat.mul_nonneg (by grind) (Rat.le_of_lt c)
  grind
theorem gok_step {m k : Nat} {q : Nat → Nat → Rat} {h : Nat → Rat} (g : gok m k q h) (hk : k < m) : gok m (k + 1) (gst k q) h := by
  have hp := gok_pivot g hk
  obtain ⟨g1, g2, g3, g4⟩ := g
  have hw0 : 0 < (1 - q k k)⁻¹ := Rat.inv_pos.2 hp
  have hw1 : (1 - q k k) * (1 - q k k)⁻¹ = 1 := Rat.mul_inv_cancel _ (by grind)
  have hg : ∀ i j, gst k q i j = q i j + q i k * ((1 - q k k)⁻¹ * q k j) := fun i j => rfl
  generalize (1 - q k k)⁻¹ = w at *
  have hr : ∀ j, k ≤ j → j ≤ m → 0 ≤ w * q k j := fun j h1 h2 => Rat.mul_nonneg (Rat.le_of_lt hw0) (g1 k j hk h1 h2)
  have hk0 : ∀ i, i < m → 0 ≤ q i k := fun i hi => g1 i k hi (by omega) (by omega)
  refine ⟨fun i j hi hj hj2 => ?_, fun i hi => ?_, g3, fun i hi => ?_⟩
  · rw [hg]
    have := g1 i j hi (by omega) hj2
    have := Rat.mul_nonneg (hk0 i hi) (hr j (by omega) hj2)
    grind
  · have e1 : sr (fun t => gst k q i (k + 1 + t)) (m + 1 - (k + 1)) = sr (fun t => q i (k + (t + 1))) (m - k) + q i k * (w * sr (fun t => q k (k + (t + 1))) (m - k)) := by
      rw [← sr_mul, ← sr_mul, ← sr_add, show m + 1 - (k + 1) = m - k by omega]
      refine sr_congr _ (fun t ht => ?_)
      rw [hg, show k + 1 + t = k + (t + 1) by omega]
    have e2 := g2 i hi
    have e3 := g2 k hk
    rw [show m + 1 - k = (m - k) + 1 by omega, sr_shift] at e2 e3
    have e2' : q i (k + 0) = q i k := rfl
    have e3' : q k (k + 0) = q k k := rfl
    rw [e2'] at e2
    rw [e3'] at e3
    rw [e1]
    generalize sr (fun t => q i (k + (t + 1))) (m - k) = X at *
    generalize sr (fun t => q k (k + (t + 1))) (m - k) = Y at *
    have h1 : 0 ≤ w * (1 - q k k - Y) := Rat.mul_nonneg (Rat.le_of_lt hw0) (by grind)
    have h2 : 0 ≤ q i k * (1 - w * Y) := Rat.mul_nonneg (hk0 i hi) (by grind)
    grind
  · have e1 : sr (fun t => gst k q i (k + 1 + t) * h (k + 1 + t)) (m - (k + 1)) = sr (fun t => q i (k + (t + 1)) * h (k + (t + 1))) (m - k - 1) + q i k * (w * sr (fun t => q k (k + (t + 1)) * h (k + (t + 1))) (m - k - 1)) := by
      rw [← sr_mul, ← sr_mul, ← sr_add, show m - (k + 1) = m - k - 1 by omega]
      refine sr_congr _ (fun t ht => ?_)
      rw [hg, show k + 1 + t = k + (t + 1) by omega]
      grind
    have e2 := g4 i hi
    have e3 := g4 k hk
    rw [show m - k = (m - k - 1) + 1 by omega, sr_shift] at e2 e3
    have e2' : q i (k + 0) * h (k + 0) = q i k * h k := rfl
    have e3' : q k (k + 0) * h (k + 0) = q k k * h k := rfl
    rw [e2'] at e2
    rw [e3'] at e3
    rw [e1]
    generalize sr (fun t => q i (k + (t + 1)) * h (k + (t + 1))) (m - k - 1) = X at *
    generalize sr (fun t => q k (k + (t + 1)) * h (k + (t + 1))) (m - k - 1) = Y at *
    have h1 : 0 ≤ w * ((1 - q k k) * h k - Y) := Rat.mul_nonneg (Rat.le_of_lt hw0) (by grind)
    have h2 : 0 ≤ q i k * (h k - w * Y) := Rat.mul_nonneg (hk0 i hi) (alg1 hw1 h1)
    clear g1 g2 g3 g4 hg hr hk0 e1 e2' e3' h1
    grind
theorem gok_all {m : Nat} {p : Nat → Nat → Rat} {h : Nat → Rat} (g : gok m 0 p h) : ∀ k, k ≤ m → gok m k (gq p k) h
  | 0, _ => g
  | k + 1, hk => gok_step (gok_all g k (by omega)) (by omega)
/-- what has been taken out still solves its rows -/
theorem gq_eq {m : Nat} {p : Nat → Nat → Rat} {h : Nat → Rat} (g : gok m 0 p h) : ∀ k, k ≤ m → ∀ i j, gq p k i j = p i j + sr (fun t => p i t * gq p k t j) k
  | 0, _, i, j => by show p i j = p i j + 0; grind
  | k + 1, hk, i, j => by
    have ih := gq_eq g k (by omega)
    have hp := gok_pivot (gok_all g k (by omega)) (by omega)
    have hw1 : (1 - gq p k k k) * (1 - gq p k k k)⁻¹ = 1 := Rat.mul_inv_cancel _ (by grind)
    have hg : ∀ i j, gq p (k + 1) i j = gq p k i j + gq p k i k * ((1 - gq p k k k)⁻¹ * gq p k k j) := fun i j => rfl
    have e1 : sr (fun t => p i t * gq p (k + 1) t j) (k + 1) = sr (fun t => p i t * gq p k t j) k + ((1 - gq p k k k)⁻¹ * gq p k k j) * sr (fun t => p i t * gq p k t k) k + p i k * gq p (k + 1) k j := by
      rw [sr, ← sr_mul, ← sr_add]
      congr 1
      refine sr_congr _ (fun t ht => ?_)
      rw [hg]
      grind
    have e2 := ih i j
    have e3 := ih i k
    rw [e1, hg i j, hg k j]
    generalize sr (fun t => p i t * gq p k t j) k = X at *
    generalize sr (fun t => p i t * gq p k t k) k = Y at *
    generalize (1 - gq p k k k)⁻¹ = w at *
    generalize gq p k k k = a at *
    generalize gq p k k j = b at *
    grind
end
section
/-! Elimination of states: what the fractions are divided by. -/
theorem rat_den (q : Rat) : q * ((q.den : Int) : Rat) = (q.num : Rat) := by
  have h : q = (q.num : Rat) / ((q.den : Int) : Rat) := by
    have := Rat.num_divInt_den q
    rw [Rat.divInt_eq_div] at this
    exact this.symm
  have hp : ((q.den : Int) : Rat) ≠ 0 := by
    have := q.den_pos
    intro w
    have w2 : (q.den : Int) = 0 := by exact_mod_cast w
    omega
  rw [Rat.div_def] at h
  have := Rat.inv_mul_cancel _ hp
  grind
theorem sm_cast {f : Nat → Int} : ∀ (n : Nat), ((sm f n : Int) : Rat) = sr (fun j => (f j : Rat)) n
  | 0 => rfl
  | n + 1 => by rw [sm, sr, Rat.intCast_add, sm_cast n]
theorem com_den (y : Nat → Rat) : ∀ n, ∃ E : Int, 0 < E ∧ ∃ Y : Nat → Int, ∀ c, c < n → y c * (E : Rat) = (Y c : Rat)
  | 0 => ⟨1, by omega, fun _ => 0, fun c hc => by omega⟩
  | n + 1 => by
    obtain ⟨E, h0, Y, hY⟩ := com_den y n
    have hd := (y n).den_pos
    refine ⟨E * ((y n).den : Int), Int.mul_pos h0 (by omega), fun c => if c = n then E * (y n).num else Y c * ((y n).den : Int), fun c hc => ?_⟩
    by_cases q : c = n
    · subst q
      show _ = ((if c = c then E * (y c).num else Y c * ((y c).den : Int) : Int) : Rat)
      rw [if_pos rfl, Rat.intCast_mul, Rat.intCast_mul, ← rat_den (y c)]
      grind
    · show _ = ((if c = n then E * (y n).num else Y c * ((y n).den : Int) : Int) : Rat)
      rw [if_neg q, Rat.intCast_mul, Rat.intCast_mul, ← hY c (by omega)]
      grind
theorem det_zero {n : Nat} {A : Nat → Nat → Int} {c : Nat} (hc : c < n) : det n (rc A c (fun _ => 0)) = 0 := by
  have e := det_add (n := n) (A := A) (c := c) (u := fun _ => 0) (w := fun _ => 0) hc
  have e1 : det n (rc A c (fun _ => (0 : Int) + 0)) = det n (rc A c (fun _ => 0)) := rfl
  omega
theorem det_smul {n : Nat} {A : Nat → Nat → Int} {c : Nat} {x : Int} {u : Nat → Int} (hc : c < n) : det n (rc A c (fun r => x * u r)) = x * det n (rc A c u) := by
  have e := det_lin n (A := A) (c := c) (x := x) (u := u) (w := fun _ => 0) hc
  rw [det_zero hc, Int.add_zero] at e
  rw [← e]
  congr 1
  funext r
  show rc A c (fun r => x * u r) r = rc A c (fun r => x * u r + 0) r
  simp only [Int.add_zero]
theorem cramerR {n : Nat} {A : Nat → Nat → Int} {y : Nat → Rat} {b : Nat → Int} {c : Nat} (hc : c < n) (h : ∀ r, r < n → sr (fun j => y j * (A r j : Rat)) n = (b r : Rat)) : ((det n (rc A c b) : Int) : Rat) = y c * ((det n A : Int) : Rat) := by
  obtain ⟨E, h0, Y, hY⟩ := com_den y n
  have hE : (E : Rat) ≠ 0 := by
    intro w
    have w2 : E = 0 := by exact_mod_cast w
    omega
  have hb : ∀ r, r < n → sm (fun j => Y j * A r j) n = E * b r := fun r hr => by
    have e : ((sm (fun j => Y j * A r j) n : Int) : Rat) = ((E * b r : Int) : Rat) := by
      rw [sm_cast, Rat.intCast_mul, ← h r hr, ← sr_mul]
      refine sr_congr n (fun j hj => ?_)
      rw [Rat.intCast_mul, ← hY j hj]
      grind
    exact_mod_cast e
  have e := cramer hc hb
  rw [det_smul hc] at e
  have e2 : ((E * det n (rc A c b) : Int) : Rat) = ((Y c * det n A : Int) : Rat) := by rw [e]
  rw [Rat.intCast_mul, Rat.intCast_mul, ← hY c hc] at e2
  have e3 := Rat.inv_mul_cancel _ hE
  generalize ((det n (rc A c b) : Int) : Rat) = P at *
  generalize ((det n A : Int) : Rat) = Q at *
  have e4 : (E : Rat)⁻¹ * ((E : Rat) * P) = (E : Rat)⁻¹ * (y c * (E : Rat) * Q) := by rw [e2]
  grind
/-- the rows in whole numbers -/
def bm (N : Nat → Nat → Int) (D : Nat → Int) : Nat → Nat → Int := fun r c => (if r = c then D r else 0) - N r c
theorem sr_pick {r : Nat} {x : Rat} {y : Nat → Rat} : ∀ (n : Nat), sr (fun c => if r = c then x * y c else 0) n = if r < n then x * y r else 0
  | 0 => by show (0 : Rat) = _; rw [if_neg (by omega)]
  | n + 1 => by
    rw [sr, sr_pick n]
    by_cases q : r = n
    · subst q
      rw [if_neg (by omega), if_pos rfl, if_pos (by omega)]
      grind
    · rw [if_neg q]
      by_cases z : r < n
      · rw [if_pos z, if_pos (by omega)]
        grind
      · rw [if_neg z, if_neg (by omega)]
        grind
theorem bm_row {N : Nat → Nat → Int} {D : Nat → Int} {p : Nat → Nat → Rat} {y : Nat → Rat} {r n : Nat} (hp : ∀ c, c < n → (D r : Rat) * p r c = (N r c : Rat)) : sr (fun c => y c * (bm N D r c : Rat)) n = (if r < n then (D r : Rat) * y r else 0) - (D r : Rat) * sr (fun c => p r c * y c) n := by
  have e : sr (fun c => y c * (bm N D r c : Rat)) n = sr (fun c => (if r = c then (D r : Rat) * y c else 0) + (- (D r : Rat)) * (p r c * y c)) n := by
    refine sr_congr n (fun c hc => ?_)
    unfold bm
    have h1 := hp c hc
    by_cases q : r = c
    · rw [if_pos q, if_pos q, Rat.intCast_sub, ← h1]
      grind
    · rw [if_neg q, if_neg q, Rat.intCast_sub, ← h1]
      have : ((0 : Int) : Rat) = 0 := rfl
      grind
  rw [e, sr_add, sr_pick, sr_mul]
  grind
end
section
/-! Elimination of states: the divisor is a determinant, positive and small. -/
section DV
variable {m : Nat} {p : Nat → Nat → Rat} {h : Nat → Rat} {N : Nat → Nat → Int} {D : Nat → Int}
theorem gq_solves (g : gok m 0 p h) (hp : ∀ r c, r < m → c ≤ m → (D r : Rat) * p r c = (N r c : Rat)) {k j r : Nat} (hk : k ≤ m) (hj : j ≤ m) (hr : r < k) : sr (fun c => gq p k c j * (bm N D r c : Rat)) k = (N r j : Rat) := by
  rw [bm_row (p := p) (fun c hc => hp r c (by omega) (by omega)), if_pos hr, ← hp r j (by omega) hj]
  have e := gq_eq g k hk r j
  generalize sr (fun c => p r c * gq p k c j) k = X at *
  grind
theorem det_step (g : gok m 0 p h) (hp : ∀ r c, r < m → c ≤ m → (D r : Rat) * p r c = (N r c : Rat)) {k : Nat} (hk : k < m) : ((det (k + 1) (bm N D) : Int) : Rat) = (1 - gq p k k k) * (D k : Rat) * ((det k (bm N D) : Int) : Rat) := by
  have hpv := gok_pivot (gok_all g k (by omega)) hk
  have hw1 : (1 - gq p k k k) * (1 - gq p k k k)⁻¹ = 1 := Rat.mul_inv_cancel _ (by grind)
  have hb : ∀ r, r < k + 1 → sr (fun c => (if c = k then (1 - gq p k k k)⁻¹ else (1 - gq p k k k)⁻¹ * gq p k c k) * (bm N D r c : Rat)) (k + 1) = (((D k) * (if r = k then 1 else 0) : Int) : Rat) := by
    intro r hr
    rw [bm_row (p := p) (fun c hc => hp r c (by omega) (by omega)), if_pos hr, sr, if_pos rfl]
    have e0 : sr (fun c => p r c * (if c = k then (1 - gq p k k k)⁻¹ else (1 - gq p k k k)⁻¹ * gq p k c k)) k = (1 - gq p k k k)⁻¹ * sr (fun c => p r c * gq p k c k) k := by
      rw [← sr_mul]
      refine sr_congr k (fun c hc => ?_)
      rw [if_neg (by omega)]
      grind
    rw [e0]
    have e1 := gq_eq g k (by omega) r k
    by_cases q : r = k
    · subst q
      rw [if_pos rfl, if_pos rfl, Int.mul_one]
      generalize sr (fun c => p r c * gq p r c r) r = X at *
      generalize hw : (1 - gq p r r r)⁻¹ = w at *
      grind
    · rw [if_neg q, if_neg q, Int.mul_zero]
      have z : ((0 : Int) : Rat) = 0 := rfl
      rw [z]
      generalize sr (fun c => p r c * gq p k c k) k = X at *
      generalize (1 - gq p k k k)⁻¹ = w at *
      grind
  have e := cramerR (n := k + 1) (A := bm N D) (c := k) (by omega) hb
  rw [det_smul (by omega), det_last k (fun r hr => by unfold rc; rw [if_pos rfl]), det_congr k (B := bm N D) (fun r c hr hc => by unfold rc; rw [if_neg (by omega)]), if_pos rfl, Rat.intCast_mul] at e
  generalize ((det (k + 1) (bm N D) : Int) : Rat) = P at *
  generalize ((det k (bm N D) : Int) : Rat) = Q at *
  generalize (1 - gq p k k k)⁻¹ = w at *
  generalize gq p k k k = a at *
  clear hb
  grind
theorem det_pos (g : gok m 0 p h) (hp : ∀ r c, r < m → c ≤ m → (D r : Rat) * p r c = (N r c : Rat)) (hD : ∀ r, r < m → 0 < D r) : ∀ k, k ≤ m → 0 < det k (bm N D)
  | 0, _ => Int.zero_lt_one
  | k + 1, hk => by
    have ih := det_pos g hp hD k (by omega)
    have e := det_step g hp (k := k) (by omega)
    have hpv := gok_pivot (gok_all g k (by omega)) (by omega)
    have h1 : 0 < ((det (k + 1) (bm N D) : Int) : Rat) := by
      rw [e]
      exact Rat.mul_pos (Rat.mul_pos hpv (Rat.intCast_pos.2 (hD k (by omega)))) (Rat.intCast_pos.2 ih)
    exact Rat.intCast_pos.1 h1
/-- the divisor makes whole numbers of what is taken out -/
theorem gq_int (g : gok m 0 p h) (hp : ∀ r c, r < m → c ≤ m → (D r : Rat) * p r c = (N r c : Rat)) {k j i : Nat} (hk : k ≤ m) (hj : j ≤ m) (hi : i < k) : ∃ z : Int, gq p k i j * ((det k (bm N D) : Int) : Rat) = (z : Rat) :=
  ⟨_, (cramerR (A := bm N D) (y := fun c => gq p k c j) (b := fun r => N r j) hi (fun r hr => gq_solves g hp hk hj hr)).symm⟩
theorem sr_int {f : Nat → Rat} : ∀ (n : Nat), (∀ c, c < n → ∃ z : Int, f c = (z : Rat)) → ∃ z : Int, sr f n = (z : Rat)
  | 0, _ => ⟨0, rfl⟩
  | n + 1, h => by
    obtain ⟨a, ha⟩ := sr_int n (fun c hc => h c (by omega))
    obtain ⟨b, hb⟩ := h n (by omega)
    exact ⟨a + b, by rw [sr, ha, hb, Rat.intCast_add]⟩
theorem gq_int2 (g : gok m 0 p h) (hp : ∀ r c, r < m → c ≤ m → (D r : Rat) * p r c = (N r c : Rat)) {k j i : Nat} (hk : k ≤ m) (hj : j ≤ m) (hi : i < m) : ∃ z : Int, gq p k i j * (((D i) * det k (bm N D) : Int) : Rat) = (z : Rat) := by
  have e := gq_eq g k hk i j
  obtain ⟨z, hz⟩ := sr_int (f := fun c => (N i c : Rat) * (gq p k c j * ((det k (bm N D) : Int) : Rat))) k (fun c hc => by
    obtain ⟨z, hz⟩ := gq_int g hp hk hj hc
    exact ⟨N i c * z, by rw [hz, Rat.intCast_mul]⟩)
  refine ⟨N i j * det k (bm N D) + z, ?_⟩
  have e2 : sr (fun c => (N i c : Rat) * (gq p k c j * ((det k (bm N D) : Int) : Rat))) k = ((D i : Rat) * ((det k (bm N D) : Int) : Rat)) * sr (fun c => p i c * gq p k c j) k := by
    rw [← sr_mul]
    refine sr_congr k (fun c hc => ?_)
    rw [← hp i c hi (by omega)]
    grind
  rw [Rat.intCast_add, Rat.intCast_mul, Rat.intCast_mul, ← hz, e2, ← hp i j hi hj]
  generalize sr (fun c => p i c * gq p k c j) k = X at *
  generalize ((det k (bm N D) : Int) : Rat) = Q at *
  grind
theorem sm_pickI {r : Nat} {x : Int} : ∀ (n : Nat), sm (fun c => if r = c then x else 0) n = if r < n then x else 0
  | 0 => by rw [if_neg (by omega)]; rfl
  | n + 1 => by
    rw [sm, sm_pickI n]
    by_cases q : r = n
    · subst q
      rw [if_neg (by omega), if_pos rfl, if_pos (by omega)]
      omega
    · rw [if_neg q]
      by_cases z : r < n
      · rw [if_pos z, if_pos (by omega)]; omega
      · rw [if_neg z, if_neg (by omega)]; rfl
theorem det_small {k : Nat} (hN : ∀ r c, r < k → c < k → 0 ≤ N r c) (hD : ∀ r, r < k → 0 ≤ D r ∧ sm (fun c => N r c) k ≤ D r) : ((det k (bm N D)).natAbs : Int) ≤ pr (fun r => 2 * D r) k := by
  refine det_abs k (fun r hr => ?_)
  have h1 : sm (fun c => ((bm N D r c).natAbs : Int)) k ≤ sm (fun c => (if r = c then D r else 0) + N r c) k := by
    refine sm_le k (fun c hc => ?_)
    have a := hN r c hr hc
    have b := (hD r hr).1
    unfold bm
    split <;> omega
  rw [sm_add, sm_pickI, if_pos hr] at h1
  have h2 : sm (N r) k ≤ D r := (hD r hr).2
  have h3 : sm (fun c => N r c) k = sm (N r) k := rfl
  omega
end DV
end
section
/-! Elimination of states: why each state loses something, and that a bound follows. -/
def pw (t : Rat) : Nat → Rat
  | 0 => 1
  | n + 1 => pw t n * t
theorem pw_pos {t : Rat} (h : 0 < t) : ∀ n, 0 < pw t n
  | 0 => by show (0 : Rat) < 1; grind
  | n + 1 => Rat.mul_pos (pw_pos h n) h
theorem pw_step {t : Rat} (h : 0 < t) (h1 : t ≤ 1) (n : Nat) : pw t (n + 1) ≤ pw t n := by
  have a : 0 ≤ pw t n * (1 - t) := Rat.mul_nonneg (Rat.le_of_lt (pw_pos h n)) (by grind)
  have e : pw t (n + 1) = pw t n * t := rfl
  grind
theorem pw_anti {t : Rat} (h : 0 < t) (h1 : t ≤ 1) {a : Nat} : ∀ (k : Nat), pw t (a + k) ≤ pw t a
  | 0 => by show pw t a ≤ pw t a; grind
  | k + 1 => by
    have h2 := pw_step h h1 (a + k)
    have h3 := pw_anti h h1 (a := a) k
    rw [show a + (k + 1) = a + k + 1 by omega]
    grind
theorem sr_one {f : Nat → Rat} {j : Nat} : ∀ (n : Nat), j < n → (∀ c, c < n → 0 ≤ f c) → f j ≤ sr f n
  | 0, hj, _ => by omega
  | n + 1, hj, h => by
    rw [sr]
    by_cases q : j = n
    · subst q
      have := sr_nonneg j (fun c hc => h c (by omega))
      grind
    · have h1 := sr_one (j := j) n (by omega) (fun c hc => h c (by omega))
      have h2 := h n (by omega)
      grind
theorem alg2 {c z w H : Rat} (e : w * H = 1) (d : 0 ≤ (c - z * w) * H) : z ≤ c * H := by
  have f : (c - z * w) * H = c * H - z * (w * H) := by grind
  rw [f, e] at d
  grind
section CE
variable {m : Nat} {p : Nat → Nat → Rat}
theorem gok0 {h : Nat → Rat} (h0 : ∀ i j, i < m → j ≤ m → 0 ≤ p i j) (h1 : ∀ i, i < m → sr (p i) (m + 1) ≤ 1) (h2 : ∀ i, i < m → 0 < h i) (h3 : ∀ i, i < m → sr (fun j => p i j * h j) m < h i) : gok m 0 p h := by
  refine ⟨fun i j hi _ hj => h0 i j hi hj, fun i hi => ?_, h2, fun i hi => ?_⟩
  · rw [sr_congr (g := p i) _ (fun t ht => by rw [Nat.zero_add])]
    exact h1 i hi
  · rw [sr_congr (g := fun j => p i j * h j) _ (fun t ht => by rw [Nat.zero_add])]
    exact h3 i hi
theorem gok0_h {h : Nat → Rat} (g : gok m 0 p h) {i : Nat} (hi : i < m) : sr (fun j => p i j * h j) m < h i := by
  have a := g.2.2.2 i hi
  rw [sr_congr (g := fun j => p i j * h j) _ (fun t ht => by rw [Nat.zero_add])] at a
  exact a
theorem cert {ρ : Nat → Nat} {u : Rat} (hu : 0 < u) (hu1 : u ≤ 1) (h0 : ∀ i j, i < m → j ≤ m → 0 ≤ p i j) (h1 : ∀ i, i < m → sr (p i) (m + 1) ≤ 1) (hr : ∀ i, i < m → sr (p i) m ≤ 1 - u ∨ ∃ j, j < m ∧ ρ j < ρ i ∧ u ≤ p i j) : ∃ h, gok m 0 p h := by
  have ht : 0 < u / 2 := by grind
  have ht1 : u / 2 ≤ 1 := by grind
  have htu : u / 2 < u := by grind
  generalize u / 2 = t at *
  have hs0 : ∀ n, 0 < pw t n := pw_pos ht
  have hs1 : ∀ n, pw t (n + 1) ≤ t := fun n => by
    have a := pw_anti ht ht1 (a := 1) n
    have e : pw t 1 = 1 * t := rfl
    rw [show 1 + n = n + 1 by omega] at a
    grind
  refine ⟨fun i => 1 - pw t (ρ i + 1), gok0 h0 h1 (fun i hi => ?_) (fun i hi => ?_)⟩
  · have := hs1 (ρ i)
    grind
  · have e : sr (fun j => p i j * (1 - pw t (ρ j + 1))) m = sr (p i) m - sr (fun j => p i j * pw t (ρ j + 1)) m := by
      have e1 : sr (fun j => p i j * (1 - pw t (ρ j + 1))) m = sr (fun j => p i j + (-1) * (p i j * pw t (ρ j + 1))) m := sr_congr m (fun j hj => by grind)
      rw [e1, sr_add, sr_mul]
      have e2 : sr (fun j => p i j) m = sr (p i) m := rfl
      grind
    have hn : ∀ c, c < m → 0 ≤ p i c * pw t (ρ c + 1) := fun c hc => Rat.mul_nonneg (h0 i c hi (by omega)) (Rat.le_of_lt (hs0 _))
    have hsm : sr (p i) m ≤ 1 := by
      have a := h1 i hi
      have b := h0 i m hi (by omega)
      rw [sr] at a
      grind
    show sr (fun j => p i j * (1 - pw t (ρ j + 1))) m < 1 - pw t (ρ i + 1)
    rw [e]
    rcases hr i hi with q | ⟨j, hj, q1, q2⟩
    · have a := sr_nonneg m hn
      have b := hs1 (ρ i)
      grind
    · have a := sr_one m hj hn
      have b : pw t (ρ i + 1) ≤ pw t (ρ j + 1) * t := by
        have c := pw_anti ht ht1 (a := ρ j + 2) (ρ i - ρ j - 1)
        rw [show ρ j + 2 + (ρ i - ρ j - 1) = ρ i + 1 by omega] at c
        exact c
      have c : 0 ≤ (p i j - u) * pw t (ρ j + 1) := Rat.mul_nonneg (by grind) (Rat.le_of_lt (hs0 _))
      have d : 0 < (u - t) * pw t (ρ j + 1) := Rat.mul_pos (by grind) (hs0 _)
      generalize pw t (ρ j + 1) = S at *
      generalize pw t (ρ i + 1) = R at *
      grind
theorem argmax (f : Nat → Rat) : ∀ n, 0 < n → ∃ i, i < n ∧ ∀ j, j < n → f j ≤ f i
  | 0, h => by omega
  | 1, _ => ⟨0, by omega, fun j hj => by rw [show j = 0 by omega]; exact Rat.le_refl⟩
  | n + 2, _ => by
    obtain ⟨i, hi, h⟩ := argmax f (n + 1) (by omega)
    by_cases q : f i ≤ f (n + 1)
    · refine ⟨n + 1, by omega, fun j hj => ?_⟩
      by_cases z : j = n + 1
      · rw [z]; exact Rat.le_refl
      · have := h j (by omega)
        grind
    · refine ⟨i, by omega, fun j hj => ?_⟩
      by_cases z : j = n + 1
      · rw [z]; grind
      · exact h j (by omega)
theorem maxp {h : Nat → Rat} (g : gok m 0 p h) {z : Nat → Rat} (hz : ∀ i, i < m → z i ≤ sr (fun j => p i j * z j) m) : ∀ i, i < m → z i ≤ 0 := by
  intro i0 hi0
  obtain ⟨i, hi, hm⟩ := argmax (fun i => z i * (h i)⁻¹) m (by omega)
  have hh := g.2.2.1
  have hc : ∀ j, j < m → z j ≤ (z i * (h i)⁻¹) * h j := fun j hj => by
    have a := hm j hj
    have b := hh j hj
    have c : (h j)⁻¹ * h j = 1 := Rat.inv_mul_cancel _ (by grind)
    have d : 0 ≤ (z i * (h i)⁻¹ - z j * (h j)⁻¹) * h j := Rat.mul_nonneg (by grind) (Rat.le_of_lt b)
    exact alg2 c d
  have hi1 : (z i * (h i)⁻¹) * h i = z i := by
    have b := hh i hi
    have c : (h i)⁻¹ * h i = 1 := Rat.inv_mul_cancel _ (by grind)
    grind
  generalize hcc : z i * (h i)⁻¹ = c at *
  by_cases q : c ≤ 0
  · have a := hc i0 hi0
    have b := Rat.mul_nonneg (a := -c) (b := h i0) (by grind) (Rat.le_of_lt (hh i0 hi0))
    grind
  · exfalso
    have a := gok0_h g hi
    have b : sr (fun j => p i j * z j) m ≤ sr (fun j => c * (p i j * h j)) m := sr_le m (fun j hj => by
      have x := hc j hj
      have y := Rat.mul_nonneg (a := p i j) (b := c * h j - z j) (g.1 i j hi (by omega) (by omega)) (by grind)
      grind)
    rw [sr_mul] at b
    have d := hz i hi
    have e : 0 < c * (h i - sr (fun j => p i j * h j) m) := Rat.mul_pos (by grind) (by grind)
    grind
end CE
end
section
/-! The value of a fraction of the reference. -/
def fv (M : mM) (f : Nat) : Rat := (sn M f : Rat) * (sd M f : Rat)⁻¹
theorem ic_ne {x : Int} (h : 0 < x) : (x : Rat) ≠ 0 := fun w => by
  have w2 : x = 0 := by exact_mod_cast w
  omega
theorem fv_of {X Y N D : Int} (hY : 0 < Y) (hD : (D : Rat) ≠ 0) (e : X * D = N * Y) : (X : Rat) * (Y : Rat)⁻¹ = (N : Rat) * (D : Rat)⁻¹ := by
  have e1 : (X : Rat) * (D : Rat) = (N : Rat) * (Y : Rat) := by rw [← Rat.intCast_mul, ← Rat.intCast_mul, e]
  have e2 := Rat.mul_inv_cancel _ (ic_ne hY)
  have e3 := Rat.mul_inv_cancel _ hD
  generalize (Y : Rat)⁻¹ = y at *
  generalize (D : Rat)⁻¹ = d at *
  generalize (X : Rat) = x at *
  generalize (N : Rat) = n at *
  generalize (Y : Rat) = Y at *
  generalize (D : Rat) = D at *
  have e4 : x * y * (D * d) = n * d * (Y * y) := by grind
  rw [e3, e2] at e4
  grind
section FV
variable {M M' : mM} {u a b ra rb : Nat}
theorem fv_mul (hA : Fq M a ra) (hB : Fq M b rb) (h : suQ M u (sn M a * sn M b) (sd M a * sd M b) M') : fv M' (u + 1) = fv M a * fv M b := by
  have p1 : 0 < sd M a := hA.2.2.2.2
  have p2 : 0 < sd M b := hB.2.2.2.2
  have p3 : 0 < sd M' (u + 1) := h.2.2.2.1.2.2.2.2
  have e := fv_of p3 (ic_ne (Int.mul_pos p1 p2)) h.2.2.2.2.2
  unfold fv
  rw [e, Rat.intCast_mul, Rat.intCast_mul]
  have e2 := Rat.mul_inv_cancel _ (ic_ne p1)
  have e3 := Rat.mul_inv_cancel _ (ic_ne p2)
  have e4 : ((sd M a : Rat) * (sd M b : Rat))⁻¹ = (sd M a : Rat)⁻¹ * (sd M b : Rat)⁻¹ := by grind
  rw [e4]
  grind
theorem fv_add {m : Int} (hm : m = 0 ∨ m = 1) (hA : Fq M a ra) (hB : Fq M b rb) (h : suQ M u (sn M a * sd M b + (if m = 1 then - (sn M b * sd M a) else sn M b * sd M a)) (sd M a * sd M b) M') : fv M' (u + 1) = if m = 1 then fv M a - fv M b else fv M a + fv M b := by
  have p1 : 0 < sd M a := hA.2.2.2.2
  have p2 : 0 < sd M b := hB.2.2.2.2
  have p3 : 0 < sd M' (u + 1) := h.2.2.2.1.2.2.2.2
  have e := fv_of p3 (ic_ne (Int.mul_pos p1 p2)) h.2.2.2.2.2
  have e2 := Rat.mul_inv_cancel _ (ic_ne p1)
  have e3 := Rat.mul_inv_cancel _ (ic_ne p2)
  have e4 : ((sd M a : Rat) * (sd M b : Rat))⁻¹ = (sd M a : Rat)⁻¹ * (sd M b : Rat)⁻¹ := by grind
  unfold fv
  rw [e, Rat.intCast_mul (sd M a), e4, Rat.intCast_add, Rat.intCast_mul]
  generalize hx : (sd M a : Rat)⁻¹ = x at *
  generalize hy : (sd M b : Rat)⁻¹ = y at *
  rcases hm with q | q
  · rw [if_neg (by omega), if_neg (by omega), Rat.intCast_mul]
    grind
  · rw [if_pos q, if_pos q, Rat.intCast_neg, Rat.intCast_mul]
    grind
theorem fv_set {M : mM} {f : Nat} {j k : Int} (h1 : sn M f = j) (h2 : sd M f = k) : fv M f = (j : Rat) * (k : Rat)⁻¹ := by
  unfold fv
  rw [h1, h2]
/-- in lowest terms: what makes the value whole is a multiple of the bottom -/
theorem fc_dvd {M : mM} {f r : Nat} {E z : Int} (hF : Fq M f r) (hC : Fc M f) (h : fv M f * (E : Rat) = (z : Rat)) : sd M f ∣ E := by
  have p : 0 < sd M f := hF.2.2.2.2
  have e : sn M f * E = z * sd M f := by
    have e1 : ((sn M f * E : Int) : Rat) = ((z * sd M f : Int) : Rat) := by
      rw [Rat.intCast_mul, Rat.intCast_mul, ← h]
      unfold fv
      have e2 := Rat.mul_inv_cancel _ (ic_ne p)
      grind
    exact_mod_cast e1
  have hn := hF.2.1.nonneg
  have e3 : (sn M f).natAbs = xn M (f + 1) := by
    unfold sn xn
    split <;> omega
  have e4 : (sd M f).natAbs = xn M (f + 3) := by
    have : sd M f = wv M (f + 3) := rfl
    unfold xn
    omega
  have hc : Nat.Coprime (sd M f).natAbs (sn M f).natAbs := by
    unfold Nat.Coprime
    rw [e3, e4, Nat.gcd_comm]
    exact hC.1
  have hd : (sd M f).natAbs ∣ (sn M f).natAbs * E.natAbs := by
    rw [← Int.natAbs_mul, e, Int.natAbs_mul]
    exact Nat.dvd_mul_left _ _
  exact Int.natAbs_dvd_natAbs.1 (hc.dvd_of_dvd_mul_left hd)
end FV
end
section
/-! Values: quotients and sizes; the solver's cells. -/
section FV
variable {M M' : mM} {u a b ra rb : Nat}
theorem fv_div (hA : Fq M a ra) (hB : Fq M b rb) (hb : sn M b ≠ 0) (h : suQ M u (sn M a * sd M b) (sd M a * sn M b) M') : fv M' (u + 1) * fv M b = fv M a := by
  have p1 : 0 < sd M a := hA.2.2.2.2
  have p2 : 0 < sd M b := hB.2.2.2.2
  have p3 : 0 < sd M' (u + 1) := h.2.2.2.1.2.2.2.2
  have hbr : (sn M b : Rat) ≠ 0 := fun w => hb (by exact_mod_cast w)
  have hn : ((sd M a * sn M b : Int) : Rat) ≠ 0 := fun w => by
    have w2 : sd M a * sn M b = 0 := by exact_mod_cast w
    rcases Int.mul_eq_zero.1 w2 with q | q
    · omega
    · exact hb q
  have e := fv_of p3 hn h.2.2.2.2.2
  have e2 := Rat.mul_inv_cancel _ (ic_ne p1)
  have e3 := Rat.mul_inv_cancel _ (ic_ne p2)
  have e5 := Rat.mul_inv_cancel _ hbr
  unfold fv
  rw [e, Rat.intCast_mul, Rat.intCast_mul]
  have e4 : ((sd M a : Rat) * (sn M b : Rat))⁻¹ = (sd M a : Rat)⁻¹ * (sn M b : Rat)⁻¹ := by grind
  rw [e4]
  grind
/-- how many parts a fraction in lowest terms takes -/
theorem fc_size {M : mM} {f r k : Nat} {E z : Int} (hF : Fq M f r) (hC : Fc M f) (h : fv M f * (E : Rat) = (z : Rat)) (hE0 : 0 < E) (hE : E < 16777216 ^ k) (hv : sn M f ≤ sd M f) (hv2 : - sd M f ≤ sn M f) : mI M (f + 1) 1 ≤ k ∧ mI M (f + 3) 1 ≤ k := by
  have hd := Int.le_of_dvd hE0 (fc_dvd hF hC h)
  have e1 : sd M f = wv M (f + 3) := rfl
  have hn := hF.2.1.nonneg
  have e2 : wv M (f + 1) ≤ sd M f := by
    unfold sn at hv hv2
    split at hv <;> omega
  exact ⟨hF.2.1.size (by omega), hF.2.2.1.size (by omega)⟩
end FV
/-- the cell of row i, column j -/
abbrev cel (s i j : Nat) : Nat := s + 12868 + 5 * (41 * i + j)
section VS
variable {G : mG} {d s : Nat} {M : mM}
theorem s_MS_cell {i j : Nat} (hi : i < 40) (hj : j < 41) (hO : mOk M) (hV : Vk M s) : Cr G y_MS_cell d [vr s, vi i, vi j] M (fun x M' => M' = M ∧ x = cel s i j) := by
  refine k_MS_cell hO ⟨by omega, by omega⟩ ⟨by omega, by omega⟩ ?_
  rw [hV.r25, hV.n41, show (41 * (i : Int) + (j : Int)).toNat = 41 * i + j by omega, hV.f41 _ (by omega)]
  exact ⟨hV.k0, hV.k41, by omega, rfl, rfl⟩
end VS
end
section
/-! The solver's table of fractions. -/
/-- a value that 56 parts hold -/
def Sml (x : Rat) : Prop := ∃ E z : Int, 0 < E ∧ E < 16777216 ^ 56 ∧ x * (E : Rat) = (z : Rat) ∧ x ≤ 1 ∧ -1 ≤ x
theorem fv_sd {M : mM} {f r : Nat} (hF : Fq M f r) : fv M f * (sd M f : Rat) = (sn M f : Rat) := by
  have p : 0 < sd M f := hF.2.2.2.2
  have e := Rat.mul_inv_cancel _ (ic_ne p)
  unfold fv
  grind
theorem ic_le {x y : Int} (h : (x : Rat) ≤ (y : Rat)) : x ≤ y := by exact_mod_cast h
theorem sml_size {M : mM} {f r : Nat} (hF : Fq M f r) (hC : Fc M f) (h : Sml (fv M f)) : mI M (f + 1) 1 ≤ 56 ∧ mI M (f + 3) 1 ≤ 56 := by
  obtain ⟨E, z, h0, h1, h2, h3, h4⟩ := h
  have p : 0 < sd M f := hF.2.2.2.2
  have pr : (0 : Rat) ≤ (sd M f : Rat) := Rat.le_of_lt (Rat.intCast_pos.2 p)
  have e := fv_sd hF
  have a1 : 0 ≤ (1 - fv M f) * (sd M f : Rat) := Rat.mul_nonneg (by grind) pr
  have a2 : 0 ≤ (1 + fv M f) * (sd M f : Rat) := Rat.mul_nonneg (by grind) pr
  have b1 : sn M f ≤ sd M f := ic_le (by grind)
  have b2 : - sd M f ≤ sn M f := ic_le (by rw [Rat.intCast_neg]; grind)
  exact fc_size hF hC h2 h0 h1 b1 b2
/-- m rows hold A -/
def Tb (M : mM) (s m : Nat) (A : Nat → Nat → Rat) : Prop := ∀ i j, i < m → j ≤ m → Fq M (cel s i j) 56 ∧ Fc M (cel s i j) ∧ fv M (cel s i j) = A i j
theorem fv_out {S : Nat → Prop} {M M' : mM} {f r : Nat} (h : Fq M f r) (k : FI S M M') (hs : ∀ x, S x → x < f ∨ f + 4 < x) : fv M' f = fv M f := by
  have e := h.out k hs
  unfold fv
  rw [e.2.1, e.2.2.1]
theorem Tb.out {S : Nat → Prop} {M M' : mM} {s m : Nat} {A : Nat → Nat → Rat} (h : Tb M s m A) (k : FI S M M') (hs : ∀ x, S x → x < s + 12868) : Tb M' s m A := by
  intro i j hi hj
  obtain ⟨h1, h2, h3⟩ := h i j hi hj
  have hs' : ∀ x, S x → x < cel s i j ∨ cel s i j + 4 < x := fun x q => Or.inl (by have := hs x q; unfold cel; omega)
  exact ⟨(h1.out k hs').1, h2.out h1 k hs', by rw [fv_out h1 k hs', h3]⟩
/-- one cell is written anew -/
theorem Tb.put {M M' : mM} {s m i j : Nat} {A : Nat → Nat → Rat} {v : Rat} (h : Tb M s m A) (hm : m ≤ 40) (hi : i < m) (hj : j ≤ m) (k : FI (fS (cel s i j)) M M') (h1 : Fq M' (cel s i j) 56) (h2 : Fc M' (cel s i j)) (h3 : fv M' (cel s i j) = v) : Tb M' s m (fun a b => if a = i ∧ b = j then v else A a b) := by
  intro a b ha hb
  by_cases q : a = i ∧ b = j
  · obtain ⟨q1, q2⟩ := q
    subst q1 q2
    exact ⟨h1, h2, h3.trans (if_pos ⟨rfl, rfl⟩).symm⟩
  · obtain ⟨g1, g2, g3⟩ := h a b ha hb
    have hs' : ∀ x, fS (cel s i j) x → x < cel s a b ∨ cel s a b + 4 < x := fun x w => by
      have w' : cel s i j ≤ x ∧ x ≤ cel s i j + 4 := w
      unfold cel at w' ⊢
      by_cases z : a = i
      · subst z
        have : b ≠ j := fun y => q ⟨rfl, y⟩
        omega
      · omega
    refine ⟨(g1.out k hs').1, g2.out g1 k hs', ?_⟩
    rw [fv_out g1 k hs', g3]
    exact (if_neg q).symm
/-- the solver's other fractions have room -/
def Wk (M : mM) (s : Nat) : Prop := Sz M (s + 1) ∧ Ft M (s + 42) 8 ∧ Ft M (s + 47) 56 ∧ Ft M (s + 52) 900 ∧ Ft M (s + 57) 900 ∧ Ft M (s + 62) 900
theorem fc_copy {M M' : mM} {a b : Nat} (hC : Fc M b) (e1 : wv M' (a + 1) = wv M (b + 1)) (e2 : wv M' (a + 3) = wv M (b + 3)) (e3 : mI M' a 2 = mI M b 2) : Fc M' a ∧ fv M' a = fv M b := by
  refine ⟨?_, ?_⟩
  · unfold Fc xn at hC ⊢
    rw [e1, e2, e3]
    exact hC
  · unfold fv sn sd
    rw [e1, e2, e3]
end
section
/-! The solver: one row is cleared of a column. -/
abbrev cR (s m : Nat) : Nat → Prop := fun x => s + 12868 ≤ x ∧ x < s + 12868 + 205 * m ∧ (x - (s + 12868)) % 205 < 5 * m + 5
abbrev cS (s m : Nat) : Nat → Prop := fun x => (s + 2 ≤ x ∧ x ≤ s + 21) ∨ (s + 47 ≤ x ∧ x ≤ s + 51) ∨ (s + 57 ≤ x ∧ x ≤ s + 61) ∨ cR s m x
theorem fv_abs {M : mM} {f r : Nat} (hF : Fq M f r) (h1 : fv M f ≤ 1) (h2 : -1 ≤ fv M f) : sn M f ≤ sd M f ∧ - sd M f ≤ sn M f := by
  have p : 0 < sd M f := hF.2.2.2.2
  have pr : (0 : Rat) ≤ (sd M f : Rat) := Rat.le_of_lt (Rat.intCast_pos.2 p)
  have e := fv_sd hF
  have a1 : 0 ≤ (1 - fv M f) * (sd M f : Rat) := Rat.mul_nonneg (by grind) pr
  have a2 : 0 ≤ (1 + fv M f) * (sd M f : Rat) := Rat.mul_nonneg (by grind) pr
  exact ⟨ic_le (by grind), ic_le (by rw [Rat.intCast_neg]; grind)⟩
theorem abs_mul1 {x y : Rat} (h1 : x ≤ 1) (h2 : -1 ≤ x) (h3 : y ≤ 1) (h4 : -1 ≤ y) : x * y ≤ 1 ∧ -1 ≤ x * y := by
  have a := Rat.mul_nonneg (a := 1 - x) (b := 1 + y) (by grind) (by grind)
  have b := Rat.mul_nonneg (a := 1 + x) (b := 1 - y) (by grind) (by grind)
  have c := Rat.mul_nonneg (a := 1 - x) (b := 1 - y) (by grind) (by grind)
  have d := Rat.mul_nonneg (a := 1 + x) (b := 1 + y) (by grind) (by grind)
  constructor <;> grind
theorem Wk.out {S : Nat → Prop} {M M' : mM} {s : Nat} (h : Wk M s) (k : FI S M M') (hz : Sz M' (s + 1)) (hs : ∀ x, S x → x < s + 42 ∨ s + 66 < x) : Wk M' s :=
  ⟨hz, h.2.1.out k (fun x q => by have := hs x q; omega), h.2.2.1.out k (fun x q => by have := hs x q; omega), h.2.2.2.1.out k (fun x q => by have := hs x q; omega), h.2.2.2.2.1.out k (fun x q => by have := hs x q; omega), h.2.2.2.2.2.out k (fun x q => by have := hs x q; omega)⟩
theorem Sz.far {S : Nat → Prop} {M M' : mM} {u : Nat} (h : Sz M u) (k : FI S M M') (hs : ∀ x, S x → x < u ∨ u + 20 < x) : Sz M' u :=
  ⟨h.1.fi k, h.2.1.fi k, h.2.2.1.fi k, fun e he => (h.wh e he).out k (fun q => by
    have h1 : ∀ e ∈ szL, 1 ≤ e ∧ e ≤ 20 := by decide
    have h2 := h1 e he
    have := hs _ q
    omega)⟩
section VS
variable {G : mG} {d s m : Nat} {M : mM} {A : Nat → Nat → Rat}
/-- a product of two small ones takes at most 112 parts -/
theorem mul_size {M M' : mM} {u a b : Nat} (hA : Fq M a 56) (hB : Fq M b 56) (h : suQ M u (sn M a * sn M b) (sd M a * sd M b) M') (x1 : fv M a ≤ 1) (x2 : -1 ≤ fv M a) (y1 : fv M b ≤ 1) (y2 : -1 ≤ fv M b) : mI M' (u + 1 + 1) 1 ≤ 112 ∧ mI M' (u + 1 + 3) 1 ≤ 112 := by
  have e := fv_mul hA hB h
  have p1 : 0 < sd M a := hA.2.2.2.2
  have p2 : 0 < sd M b := hB.2.2.2.2
  have hF := h.2.2.2.1
  have b1 := abs_mul1 x1 x2 y1 y2
  rw [← e] at b1
  have b2 := fv_abs hF b1.1 b1.2
  have l1 : sd M a < 16777216 ^ 56 := Int.lt_of_lt_of_le hA.2.2.1.lt (pow_mono (by have := hA.2.2.1.1.2.2.2.2.2.2; omega))
  have l2 : sd M b < 16777216 ^ 56 := Int.lt_of_lt_of_le hB.2.2.1.lt (pow_mono (by have := hB.2.2.1.1.2.2.2.2.2.2; omega))
  have l3 : sd M a * sd M b < 16777216 ^ 112 := by
    rw [show (16777216 : Int) ^ 112 = 16777216 ^ 56 * 16777216 ^ 56 from Int.pow_add 16777216 56 56]
    exact mul_lt_B l1 l2 (by omega) (by omega)
  refine fc_size hF h.2.2.2.2.1 (E := sd M a * sd M b) (z := sn M a * sn M b) ?_ (Int.mul_pos p1 p2) l3 b2.1 b2.2
  rw [e, Rat.intCast_mul, Rat.intCast_mul, ← fv_sd hA, ← fv_sd hB]
  grind
end VS
end
section
/-! The solver: one row is cleared of a column, the loop. -/
section VS
variable {G : mG} {d s m : Nat} {M : mM} {A : Nat → Nat → Rat}
abbrev ccA (A : Nat → Nat → Rat) (i k j : Nat) : Nat → Nat → Rat := fun a b => if a = i ∧ k ≤ b ∧ b < j then A i b - A i k * A k b else A a b
theorem ccA_step {A : Nat → Nat → Rat} {i k j : Nat} (hj : k ≤ j) : (fun a b => if a = i ∧ b = j then A i j - A i k * A k j else ccA A i k j a b) = ccA A i k (j + 1) := by
  funext a b
  by_cases q : a = i ∧ b = j
  · show (if a = i ∧ b = j then A i j - A i k * A k j else _) = if a = i ∧ k ≤ b ∧ b < j + 1 then A i b - A i k * A k b else A a b
    rw [if_pos q, if_pos ⟨q.1, by omega, by omega⟩, q.2]
  · show (if a = i ∧ b = j then A i j - A i k * A k j else (if a = i ∧ k ≤ b ∧ b < j then A i b - A i k * A k b else A a b)) = if a = i ∧ k ≤ b ∧ b < j + 1 then A i b - A i k * A k b else A a b
    rw [if_neg q]
    by_cases z : a = i ∧ k ≤ b ∧ b < j
    · rw [if_pos z, if_pos ⟨z.1, z.2.1, by omega⟩]
    · rw [if_neg z, if_neg (fun w => z ⟨w.1, w.2.1, by have : b ≠ j := fun y => q ⟨w.1, y⟩; omega⟩)]
theorem s_MS_clearColumn {i k : Nat} (hm : m ≤ 40) (hi : i < m) (hk : k < m) (hik : i ≠ k) (hO : mOk M) (hV : Vk M s) (h24 : mI M s 24 = m) (hW : Wk M s) (hT : Tb M s m A) (hA : ∀ a b, a < m → b ≤ m → A a b ≤ 1 ∧ -1 ≤ A a b) (hS : ∀ b, k ≤ b → b ≤ m → Sml (A i b - A i k * A k b)) :
    Cv G y_MS_clearColumn (d + 5) [vr s, vi i, vi k] M (fun M' => mOk M' ∧ FI (cS s m) M M' ∧ Wk M' s ∧ Tb M' s m (ccA A i k (m + 1))) := by
  have hik0 := hT i k hi (by omega)
  refine k_MS_clearColumn hO ⟨by omega, by omega⟩ ⟨by omega, by omega⟩ ⟨hV.k0, (s_MS_cell (by omega) (by omega) hO hV).mono (fun x M1 h1 => ?_)⟩
  obtain ⟨e1, hx⟩ := h1
  subst e1 hx
  rw [hV.r27]
  refine ⟨hO, hW.2.2.1.1.1, (s_MF_copy hO hW.2.2.1 hik0.1 (by unfold cel; omega) hik0.1.2.1.1.2.2.2.2.2.2 hik0.1.2.2.1.1.2.2.2.2.2.2).mono (fun M2 h2 => ?_)⟩
  obtain ⟨g1, g2, g3, g4, g5, g6⟩ := h2
  have hf := fc_copy hik0.2.1 g4 g5 g6
  refine ⟨g1, ?_⟩
  suffices H : ∀ (n j : Nat) (M2 : mM), j + n = m + 1 → k ≤ j → mOk M2 → FI (cS s m) M1 M2 → Wk M2 s → Fq M2 (s + 47) 56 → fv M2 (s + 47) = A i k → Tb M2 s m (ccA A i k j) → h_MS_clearColumn_15 G (d + 4) s i k j M2 (fun M' => mOk M' ∧ FI (cS s m) M1 M' ∧ Wk M' s ∧ Tb M' s m (ccA A i k (m + 1))) by
    refine H (m + 1 - k) k M2 (by omega) (by omega) g1 (g2.mono (fun x q => by have : s + 47 ≤ x ∧ x ≤ s + 47 + 4 := q; omega)) ⟨hW.1.far g2 (fun x q => by have : s + 47 ≤ x ∧ x ≤ s + 47 + 4 := q; omega), hW.2.1.out g2 (fun x q => by have : s + 47 ≤ x ∧ x ≤ s + 47 + 4 := q; omega), g3.ft, hW.2.2.2.1.out g2 (fun x q => by have : s + 47 ≤ x ∧ x ≤ s + 47 + 4 := q; omega), hW.2.2.2.2.1.out g2 (fun x q => by have : s + 47 ≤ x ∧ x ≤ s + 47 + 4 := q; omega), hW.2.2.2.2.2.out g2 (fun x q => by have : s + 47 ≤ x ∧ x ≤ s + 47 + 4 := q; omega)⟩ g3 (hf.2.trans hik0.2.2) ?_
    have hT2 := hT.out g2 (fun x q => by have : s + 47 ≤ x ∧ x ≤ s + 47 + 4 := q; omega)
    intro a b ha hb
    obtain ⟨t1, t2, t3⟩ := hT2 a b ha hb
    refine ⟨t1, t2, t3.trans ?_⟩
    show A a b = if a = i ∧ k ≤ b ∧ b < k then _ else A a b
    rw [if_neg (by omega)]
  clear hf g6 g5 g4 g3 g2 g1 M2
  intro n
  induction n with
  | zero =>
    intro j M2 hn hkj o2 f2 W2 F2 v2 T2
    have es : mI M2 s = mI M1 s := f2.2.2.2.2.2.2 s (by omega)
    refine k_MS_clearColumn_15 o2 ⟨by omega, by omega⟩ ⟨by omega, by omega⟩ ⟨by omega, by omega⟩ ?_
    rw [es, h24]
    have ej : j = m + 1 := by omega
    rw [ej] at T2
    exact ⟨(hV.fi f2).k0, fun _ => ⟨o2, f2, W2, T2⟩, fun c => by omega⟩
  | succ n ih =>
    intro j M2 hn hkj o2 f2 W2 F2 v2 T2
    have hV2 := hV.fi f2
    have es : mI M2 s = mI M1 s := f2.2.2.2.2.2.2 s (by omega)
    have ck := T2 k j hk (by omega)
    have ci := T2 i j hi (by omega)
    have vk : fv M2 (cel s k j) = A k j := ck.2.2.trans (if_neg (by omega))
    have vi' : fv M2 (cel s i j) = A i j := ci.2.2.trans (if_neg (by omega))
    refine k_MS_clearColumn_15 o2 ⟨by omega, by omega⟩ ⟨by omega, by omega⟩ ⟨by omega, by omega⟩ ?_
    rw [es, h24]
    refine ⟨hV2.k0, fun c => by omega, fun _ => (s_MS_cell (by omega) (by omega) o2 hV2).mono (fun x M3 h3 => ?_)⟩
    obtain ⟨e3, hx⟩ := h3
    subst e3 hx
    refine ⟨o2, ck.1.1.1, (s_MF_isZero o2 ck.1).mono (fun y M4 h4 => ?_)⟩
    obtain ⟨e4, hy⟩ := h4
    subst e4
    refine ⟨⟨by split at hy <;> omega, by split at hy <;> omega⟩, o2, fun c => ⟨hV2.k0, (s_MS_cell (by omega) (by omega) o2 hV2).mono (fun x M5 h5 => ?_)⟩, fun c => ?_⟩
    · obtain ⟨e5, hx⟩ := h5
      subst e5 hx
      rw [hV2.r0, hV2.r27]
      have ak := hA i k hi (by omega)
      have akj := hA k j hk (by omega)
      have z1 := F2.2.1.1.2.2.2.2.2.2
      have z2 := F2.2.2.1.1.2.2.2.2.2.2
      have z3 := ck.1.2.1.1.2.2.2.2.2.2
      have z4 := ck.1.2.2.1.1.2.2.2.2.2.2
      refine ⟨o2, W2.1.1.1, (s_MU_multiply (d := d) o2 W2.1 F2 ck.1 (by omega) (by unfold suO cel; omega) (by omega) (by omega)).mono (fun M6 h6 => ?_)⟩
      have hsz := mul_size F2 ck.1 h6 (by rw [v2]; exact ak.1) (by rw [v2]; exact ak.2) (by rw [vk]; exact akj.1) (by rw [vk]; exact akj.2)
      have hv6 := fv_mul F2 ck.1 h6
      rw [v2, vk] at hv6
      obtain ⟨q1, q2, q3, q4, q5, -⟩ := h6
      have q2' : FI (fun x => s + 2 ≤ x ∧ x ≤ s + 21) M5 M6 := q2.mono (fun x q => by omega)
      have V6 := hV2.fi q2
      have W6 : Wk M6 s := W2.out q2' q3 (fun x q => by omega)
      have F6 := (F2.out q2' (fun x q => by omega)).1
      have v6 : fv M6 (s + 47) = A i k := (fv_out F2 q2' (fun x q => by omega)).trans v2
      have T6 := T2.out q2' (fun x q => by omega)
      refine ⟨q1, V6.k0, ?_⟩
      rw [V6.r0, V6.r29, q3.1.2.1]
      refine ⟨q3.1.1, W6.2.2.2.2.1.1.1, (s_MF_copy q1 W6.2.2.2.2.1 q4 (by omega) (by omega) (by omega)).mono (fun M7 h7 => ?_)⟩
      obtain ⟨r1, r2, r3, r4, r5, r6⟩ := h7
      have hf7 := fc_copy q5 r4 r5 r6
      have r2' : FI (fun x => s + 57 ≤ x ∧ x ≤ s + 61) M6 M7 := r2
      have V7 := V6.fi r2
      have Z7 := q3.far r2' (fun x q => by omega)
      have W7 : Wk M7 s := ⟨Z7, W6.2.1.out r2' (fun x q => by omega), W6.2.2.1.out r2' (fun x q => by omega), W6.2.2.2.1.out r2' (fun x q => by omega), r3.ft, W6.2.2.2.2.2.out r2' (fun x q => by omega)⟩
      have F7 := (F6.out r2' (fun x q => by omega)).1
      have v7 : fv M7 (s + 47) = A i k := (fv_out F6 r2' (fun x q => by omega)).trans v6
      have T7 := T6.out r2' (fun x q => by omega)
      have ci7 := T7 i j hi (by omega)
      have vi7 : fv M7 (cel s i j) = A i j := ci7.2.2.trans (if_neg (by omega))
      have s57 : mI M7 (s + 57 + 1) 1 ≤ 112 := Int.le_trans (r3.2.1.le q4.2.1 (by rw [r4]; omega)) hsz.1
      have s573 : mI M7 (s + 57 + 3) 1 ≤ 112 := Int.le_trans (r3.2.2.1.le q4.2.2.1 (by rw [r5]; omega)) hsz.2
      have z5 := ci7.1.2.1.1.2.2.2.2.2.2
      have z6 := ci7.1.2.2.1.1.2.2.2.2.2.2
      refine ⟨r1, V7.k0, (s_MS_cell (by omega) (by omega) r1 V7).mono (fun x M8 h8 => ?_)⟩
      obtain ⟨e8, hx⟩ := h8
      subst e8 hx
      rw [V7.r0, V7.r29]
      refine ⟨r1, V7.k0, Z7.1.1, (s_MU_add (d := d) (Or.inr rfl) r1 Z7 ci7.1 r3 (by unfold suO cel; omega) (by omega) (by omega) (by omega) (by omega)).mono (fun M9 h9 => ?_)⟩
      have hv9 := fv_add (Or.inr rfl) ci7.1 r3 h9
      rw [if_pos rfl, vi7, hf7.2, hv6] at hv9
      obtain ⟨t1, t2, t3, t4, t5, -⟩ := h9
      have t2' : FI (fun x => s + 2 ≤ x ∧ x ≤ s + 21) M8 M9 := t2.mono (fun x q => by omega)
      have V9 := V7.fi t2
      have W9 : Wk M9 s := W7.out t2' t3 (fun x q => by omega)
      have F9 := (F7.out t2' (fun x q => by omega)).1
      have v9 : fv M9 (s + 47) = A i k := (fv_out F7 t2' (fun x q => by omega)).trans v7
      have T9 := T7.out t2' (fun x q => by omega)
      have ci9 := T9 i j hi (by omega)
      have hsm := sml_size t4 t5 (by rw [hv9]; exact hS j hkj (by omega))
      refine ⟨t1, V9.k0, (s_MS_cell (by omega) (by omega) t1 V9).mono (fun x M10 h10 => ?_)⟩
      obtain ⟨e10, hx⟩ := h10
      subst e10 hx
      rw [V9.r0, t3.1.2.1]
      refine ⟨t1, V9.k0, t3.1.1, ci9.1.1.1, (s_MF_copy t1 ci9.1.ft t4 (by unfold cel; omega) hsm.1 hsm.2).mono (fun M11 h11 => ?_)⟩
      obtain ⟨w1, w2, w3, w4, w5, w6⟩ := h11
      have hf11 := fc_copy t5 w4 w5 w6
      have w2' : FI (cR s m) M10 M11 := w2.mono (fun x q => by have q' : cel s i j ≤ x ∧ x ≤ cel s i j + 4 := q; unfold cel at q'; omega)
      have T11 := T9.put hm hi (by omega) w2 w3 hf11.1 (hf11.2.trans hv9)
      rw [ccA_step hkj] at T11
      have fin := ih (j + 1) M11 (by omega) (by omega) w1 ((((f2.trans (q2'.mono (fun x q => by omega))).trans (r2'.mono (fun x q => by omega))).trans (t2'.mono (fun x q => by omega))).trans (w2'.mono (fun x q => by omega))) (W9.out w2' (t3.far w2' (fun x q => by omega)) (fun x q => by omega)) ((F9.out w2' (fun x q => by omega)).1) ((fv_out F9 w2' (fun x q => by omega)).trans v9) T11
      exact ⟨w1, fin⟩
    · have hz : sn M4 (cel s k j) = 0 := by
        by_cases q : sn M4 (cel s k j) = 0
        · exact q
        · rw [if_neg q] at hy; omega
      have hz2 : A k j = 0 := by
        rw [← vk]
        unfold fv
        rw [hz]
        have : ((0 : Int) : Rat) = 0 := rfl
        grind
      refine ih (j + 1) M4 (by omega) (by omega) o2 f2 W2 F2 v2 ?_
      intro a b ha hb
      obtain ⟨t1, t2, t3⟩ := T2 a b ha hb
      refine ⟨t1, t2, t3.trans ?_⟩
      rw [← ccA_step hkj]
      show _ = if a = i ∧ b = j then A i j - A i k * A k j else ccA A i k j a b
      by_cases q : a = i ∧ b = j
      · rw [if_pos q, hz2]
        obtain ⟨q1, q2⟩ := q
        subst q1 q2
        show (if a = a ∧ k ≤ b ∧ b < b then _ else A a b) = _
        rw [if_neg (by omega)]
        grind
      · rw [if_neg q]
end VS
end
section
/-! The solver: a row is divided by its pivot. -/
section VS
variable {G : mG} {d s m : Nat} {M : mM} {A : Nat → Nat → Rat}
abbrev dvA (A : Nat → Nat → Rat) (k : Nat) (j : Int) : Nat → Nat → Rat := fun a b => if a = k ∧ j < (b : Int) then A k b * (A k k)⁻¹ else A a b
theorem dvA_step {A : Nat → Nat → Rat} {k j : Nat} : (fun a b => if a = k ∧ b = j then A k j * (A k k)⁻¹ else dvA A k j a b) = dvA A k ((j : Int) + (-1)) := by
  funext a b
  show (if a = k ∧ b = j then A k j * (A k k)⁻¹ else (if a = k ∧ (j : Int) < (b : Int) then A k b * (A k k)⁻¹ else A a b)) = if a = k ∧ (j : Int) + (-1) < (b : Int) then A k b * (A k k)⁻¹ else A a b
  by_cases q : a = k ∧ b = j
  · rw [if_pos q, if_pos ⟨q.1, by omega⟩, q.2]
  · rw [if_neg q]
    by_cases z : a = k ∧ (j : Int) < (b : Int)
    · rw [if_pos z, if_pos ⟨z.1, by omega⟩]
    · rw [if_neg z, if_neg (fun w => z ⟨w.1, by have : b ≠ j := fun y => q ⟨w.1, y⟩; omega⟩)]
theorem s_row {k : Nat} {Q : mM → Prop} (hm : m ≤ 40) (hk : k < m) (hO : mOk M) (hV : Vk M s) (hW : Wk M s) (hT : Tb M s m A) (hp : A k k ≠ 0) (hS : ∀ b, k ≤ b → b ≤ m → Sml (A k b * (A k k)⁻¹))
    (hQ : ∀ M', mOk M' → FI (cS s m) M M' → Wk M' s → Tb M' s m (dvA A k ((k : Int) + (-1))) → h_MS_solveRows_63 G (d + 4) s k 0 M' Q) : h_MS_solveRows_15 G (d + 4) s k m M Q := by
  have hT0 : Tb M s m (dvA A k (m : Int)) := by
    intro a b ha hb
    obtain ⟨t1, t2, t3⟩ := hT a b ha hb
    refine ⟨t1, t2, t3.trans ?_⟩
    show A a b = if a = k ∧ (m : Int) < (b : Int) then _ else A a b
    rw [if_neg (by omega)]
  suffices H : ∀ (n : Nat) (j : Int) (M2 : mM), j + 1 = k + n → j ≤ m → mOk M2 → FI (cS s m) M M2 → Wk M2 s → Tb M2 s m (dvA A k j) → h_MS_solveRows_15 G (d + 4) s k j M2 Q from
    H (m + 1 - k) m M (by omega) (by omega) hO FI.refl hW hT0
  intro n
  induction n with
  | zero =>
    intro j M2 hn hj o2 f2 W2 T2
    have ej : j = (k : Int) + (-1) := by omega
    rw [ej] at T2
    exact k_MS_solveRows_15 o2 ⟨by omega, by omega⟩ ⟨by omega, by omega⟩ ⟨fun _ => hQ M2 o2 f2 W2 T2, fun c => by omega⟩
  | succ n ih =>
    intro j0 M2 hn hj o2 f2 W2 T2
    obtain ⟨j, ej⟩ : ∃ j : Nat, j0 = j := ⟨j0.toNat, by omega⟩
    subst ej
    have hV2 := hV.fi f2
    have cj := T2 k j hk (by omega)
    have ck := T2 k k hk (by omega)
    have vj : fv M2 (cel s k j) = A k j := cj.2.2.trans (if_neg (by omega))
    have vk : fv M2 (cel s k k) = A k k := ck.2.2.trans (if_neg (by omega))
    have hnz : sn M2 (cel s k k) ≠ 0 := fun q => hp (by
      rw [← vk]
      unfold fv
      rw [q]
      have : ((0 : Int) : Rat) = 0 := rfl
      grind)
    have z1 := cj.1.2.1.1.2.2.2.2.2.2
    have z2 := cj.1.2.2.1.1.2.2.2.2.2.2
    have z3 := ck.1.2.1.1.2.2.2.2.2.2
    have z4 := ck.1.2.2.1.1.2.2.2.2.2.2
    refine k_MS_solveRows_15 o2 ⟨by omega, by omega⟩ ⟨by omega, by omega⟩ ⟨fun c => by omega, fun _ => ⟨hV2.k0, (s_MS_cell (by omega) (by omega) o2 hV2).mono (fun x M3 h3 => ?_)⟩⟩
    obtain ⟨e3, hx⟩ := h3
    subst e3 hx
    refine ⟨o2, hV2.k0, (s_MS_cell (by omega) (by omega) o2 hV2).mono (fun x M4 h4 => ?_)⟩
    obtain ⟨e4, hx⟩ := h4
    subst e4 hx
    rw [hV2.r0]
    refine ⟨o2, W2.1.1.1, (s_MU_divide1 (d := d) o2 W2.1 cj.1 ck.1 (by unfold suO cel; omega) (by unfold suO cel; omega) hnz (by omega) (by omega)).mono (fun M5 h5 => ?_)⟩
    have hv5 := fv_div cj.1 ck.1 hnz h5
    rw [vj, vk] at hv5
    have hv6 : fv M5 (s + 1 + 1) = A k j * (A k k)⁻¹ := by
      have e := Rat.mul_inv_cancel _ hp
      rw [← hv5]
      grind
    obtain ⟨t1, t2, t3, t4, t5, -⟩ := h5
    have t2' : FI (fun x => s + 2 ≤ x ∧ x ≤ s + 21) M4 M5 := t2.mono (fun x q => by omega)
    have V5 := hV2.fi t2
    have W5 : Wk M5 s := W2.out t2' t3 (fun x q => by omega)
    have T5 := T2.out t2' (fun x q => by omega)
    have cj5 := T5 k j hk (by omega)
    have hsm := sml_size t4 t5 (by rw [hv6]; exact hS j (by omega) (by omega))
    refine ⟨t1, V5.k0, (s_MS_cell (by omega) (by omega) t1 V5).mono (fun x M6 h6 => ?_)⟩
    obtain ⟨e6, hx⟩ := h6
    subst e6 hx
    rw [V5.r0, t3.1.2.1]
    refine ⟨t1, V5.k0, t3.1.1, cj5.1.1.1, (s_MF_copy t1 cj5.1.ft t4 (by unfold cel; omega) hsm.1 hsm.2).mono (fun M7 h7 => ?_)⟩
    obtain ⟨w1, w2, w3, w4, w5, w6⟩ := h7
    have hf7 := fc_copy t5 w4 w5 w6
    have w2' : FI (cR s m) M6 M7 := w2.mono (fun x q => by have q' : cel s k j ≤ x ∧ x ≤ cel s k j + 4 := q; unfold cel at q'; omega)
    have T7 := T5.put hm hk (by omega) w2 w3 hf7.1 (hf7.2.trans hv6)
    rw [dvA_step] at T7
    exact ⟨w1, ih ((j : Int) + (-1)) M7 (by omega) (by omega) w1 ((f2.trans (t2'.mono (fun x q => by omega))).trans (w2'.mono (fun x q => by omega))) (W5.out w2' (t3.far w2' (fun x q => by omega)) (fun x q => by omega)) T7⟩
end VS
end
section
/-! The solver: all other rows are cleared of a column. -/
theorem Tb.congr {M : mM} {s m : Nat} {A B : Nat → Nat → Rat} (h : Tb M s m A) (e : ∀ a b, a < m → b ≤ m → A a b = B a b) : Tb M s m B := by
  intro a b ha hb
  obtain ⟨t1, t2, t3⟩ := h a b ha hb
  exact ⟨t1, t2, t3.trans (e a b ha hb)⟩
section VS
variable {G : mG} {d s m : Nat} {M : mM} {B : Nat → Nat → Rat}
abbrev elA (B : Nat → Nat → Rat) (k i : Nat) : Nat → Nat → Rat := fun a b => if a < i ∧ a ≠ k ∧ k ≤ b then B a b - B a k * B k b else B a b
theorem s_clear {k : Nat} {Q : mM → Prop} (hm : m ≤ 40) (hk : k < m) (hO : mOk M) (hV : Vk M s) (h24 : mI M s 24 = m) (hW : Wk M s) (hT : Tb M s m B) (hB : ∀ a b, a < m → b ≤ m → B a b ≤ 1 ∧ -1 ≤ B a b) (hS : ∀ a b, a < m → a ≠ k → k ≤ b → b ≤ m → Sml (B a b - B a k * B k b))
    (hQ : ∀ M', mOk M' → FI (cS s m) M M' → Wk M' s → Tb M' s m (elA B k m) → h_MS_solveRows_2 G (d + 5) s ((k : Int) + 1) M' Q) : h_MS_solveRows_63 G (d + 5) s k 0 M Q := by
  have hT0 : Tb M s m (elA B k 0) := hT.congr (fun a b ha hb => by
    show B a b = if a < 0 ∧ a ≠ k ∧ k ≤ b then _ else B a b
    rw [if_neg (by omega)])
  suffices H : ∀ (n i : Nat) (M2 : mM), i + n = m → mOk M2 → FI (cS s m) M M2 → Wk M2 s → Tb M2 s m (elA B k i) → h_MS_solveRows_63 G (d + 5) s k i M2 Q from
    H m 0 M (by omega) hO FI.refl hW hT0
  intro n
  induction n with
  | zero =>
    intro i M2 hn o2 f2 W2 T2
    have es : mI M2 s = mI M s := f2.2.2.2.2.2.2 s (by omega)
    have ei : i = m := by omega
    subst ei
    refine k_MS_solveRows_63 o2 ⟨by omega, by omega⟩ ⟨by omega, by omega⟩ ?_
    rw [es, h24]
    exact ⟨(hV.fi f2).k0, fun _ => hQ M2 o2 f2 W2 T2, fun c => by omega⟩
  | succ n ih =>
    intro i M2 hn o2 f2 W2 T2
    have hV2 := hV.fi f2
    have es : mI M2 s = mI M s := f2.2.2.2.2.2.2 s (by omega)
    have hi : i < m := by omega
    have c1 : ∀ b, elA B k i i b = B i b := fun b => if_neg (by omega)
    have c2 : ∀ b, elA B k i k b = B k b := fun b => if_neg (fun w => w.2.1 rfl)
    refine k_MS_solveRows_63 o2 ⟨by omega, by omega⟩ ⟨by omega, by omega⟩ ?_
    rw [es, h24]
    refine ⟨hV2.k0, fun c => by omega, fun _ => ⟨fun c => ih (i + 1) M2 (by omega) o2 f2 W2 (T2.congr (fun a b ha hb => ?_)), fun c => (s_MS_cell (by omega) (by omega) o2 hV2).mono (fun x M3 h3 => ?_)⟩⟩
    · show (if a < i ∧ a ≠ k ∧ k ≤ b then B a b - B a k * B k b else B a b) = if a < i + 1 ∧ a ≠ k ∧ k ≤ b then B a b - B a k * B k b else B a b
      by_cases q : a < i ∧ a ≠ k ∧ k ≤ b
      · rw [if_pos q, if_pos ⟨by omega, q.2⟩]
      · rw [if_neg q, if_neg (by omega)]
    · obtain ⟨e3, hx⟩ := h3
      subst e3 hx
      have hik : i ≠ k := by omega
      have ck := T2 i k hi (by omega)
      refine ⟨o2, ck.1.1.1, (s_MF_isZero o2 ck.1).mono (fun y M4 h4 => ?_)⟩
      obtain ⟨e4, hy⟩ := h4
      subst e4
      have hcc : ∀ a b, a < m → b ≤ m → elA B k i a b ≤ 1 ∧ -1 ≤ elA B k i a b := fun a b ha hb => by
        show (if a < i ∧ a ≠ k ∧ k ≤ b then B a b - B a k * B k b else B a b) ≤ 1 ∧ -1 ≤ (if a < i ∧ a ≠ k ∧ k ≤ b then B a b - B a k * B k b else B a b)
        by_cases q : a < i ∧ a ≠ k ∧ k ≤ b
        · rw [if_pos q]
          obtain ⟨E, z, _, _, _, h5, h6⟩ := hS a b ha q.2.1 q.2.2 hb
          exact ⟨h5, h6⟩
        · rw [if_neg q]
          exact hB a b ha hb
      refine ⟨⟨by split at hy <;> omega, by split at hy <;> omega⟩, o2, fun q => ⟨hV2.k0, ?_⟩, fun q => ?_⟩
      · refine (s_MS_clearColumn (d := d) hm hi hk hik o2 hV2 (by rw [es]; exact h24) W2 T2 hcc (fun b h1 h2 => by rw [c1, c1, c2]; exact hS i b hi hik h1 h2)).mono (fun M5 h5 => ?_)
        obtain ⟨w1, w2, w3, w4⟩ := h5
        refine ⟨w1, ih (i + 1) M5 (by omega) w1 (f2.trans w2) w3 (w4.congr (fun a b ha hb => ?_))⟩
        show (if a = i ∧ k ≤ b ∧ b < m + 1 then elA B k i i b - elA B k i i k * elA B k i k b else elA B k i a b) = if a < i + 1 ∧ a ≠ k ∧ k ≤ b then B a b - B a k * B k b else B a b
        rw [c1, c1, c2]
        by_cases z : a = i ∧ k ≤ b ∧ b < m + 1
        · rw [if_pos z, if_pos (by omega), z.1]
        · rw [if_neg z]
          show (if a < i ∧ a ≠ k ∧ k ≤ b then B a b - B a k * B k b else B a b) = _
          by_cases y : a < i ∧ a ≠ k ∧ k ≤ b
          · rw [if_pos y, if_pos (by omega)]
          · rw [if_neg y, if_neg (by omega)]
      · have hz : B i k = 0 := by
          have hs : sn M4 (cel s i k) = 0 := by
            by_cases w : sn M4 (cel s i k) = 0
            · exact w
            · rw [if_neg w] at hy; omega
          have e := ck.2.2
          rw [c1] at e
          rw [← e]
          unfold fv
          rw [hs]
          have : ((0 : Int) : Rat) = 0 := rfl
          grind
        refine ih (i + 1) M4 (by omega) o2 f2 W2 (T2.congr (fun a b ha hb => ?_))
        show (if a < i ∧ a ≠ k ∧ k ≤ b then B a b - B a k * B k b else B a b) = if a < i + 1 ∧ a ≠ k ∧ k ≤ b then B a b - B a k * B k b else B a b
        by_cases y : a < i ∧ a ≠ k ∧ k ≤ b
        · rw [if_pos y, if_pos (by omega)]
        · rw [if_neg y]
          by_cases z : a < i + 1 ∧ a ≠ k ∧ k ≤ b
          · have : a = i := by omega
            subst this
            rw [if_pos z, hz]
            grind
          · rw [if_neg z]
end VS
end
section
/-! The solver: all pivots. -/
/-- the table after k pivots -/
def tA (p : Nat → Nat → Rat) (m k : Nat) : Nat → Nat → Rat := fun i j => if j = m then gq p k i j else if j < k then (if i = j then 1 else 0) else (if i = j then 1 else 0) - gq p k i j
/-- m equations in m unknowns whose numbers stay small -/
def Sy (m : Nat) (p : Nat → Nat → Rat) (N : Nat → Nat → Int) (D : Nat → Int) : Prop := (∃ h, gok m 0 p h) ∧ (∀ r c, r < m → c ≤ m → (D r : Rat) * p r c = (N r c : Rat)) ∧ (∀ r, r < m → 0 < D r) ∧ (∀ i k, i < m → k ≤ m → D i * det k (bm N D) < 16777216 ^ 56 ∧ det k (bm N D) < 16777216 ^ 21)
section SY
variable {m : Nat} {p : Nat → Nat → Rat} {N : Nat → Nat → Int} {D : Nat → Int}
theorem sml_of {x : Rat} {i k : Nat} (h : Sy m p N D) (hi : i < m) (hk : k ≤ m) (he : ∃ z : Int, x * ((D i * det k (bm N D) : Int) : Rat) = (z : Rat)) (h1 : x ≤ 1) (h2 : -1 ≤ x) : Sml x := by
  obtain ⟨⟨h, g⟩, hp, hD, hE⟩ := h
  obtain ⟨z, hz⟩ := he
  exact ⟨_, z, Int.mul_pos (hD i hi) (det_pos g hp hD k hk), (hE i k hi hk).1, hz, h1, h2⟩
theorem Sy.q01 (h : Sy m p N D) {i j k : Nat} (hi : i < m) (hk : k ≤ j) (hj : j ≤ m) : 0 ≤ gq p k i j ∧ gq p k i j ≤ 1 := by
  obtain ⟨⟨h, g⟩, -⟩ := h
  have g2 := gok_all g k (by omega)
  refine ⟨g2.1 i j hi hk hj, ?_⟩
  have a := g2.2.1 i hi
  have b := sr_one (f := fun t => gq p k i (k + t)) (j := j - k) (m + 1 - k) (by omega) (fun c hc => g2.1 i _ hi (by omega) (by omega))
  have e : gq p k i (k + (j - k)) = gq p k i j := by rw [show k + (j - k) = j by omega]
  have b2 : gq p k i (k + (j - k)) ≤ sr (fun t => gq p k i (k + t)) (m + 1 - k) := b
  rw [e] at b2
  exact Rat.le_trans b2 a
theorem sml_one : Sml 1 := ⟨1, 1, by omega, by decide, by grind, by grind, by grind⟩
theorem sml_zero : Sml 0 := ⟨1, 0, by omega, by decide, by grind, by grind, by grind⟩
theorem tA_sml (h : Sy m p N D) {i j k : Nat} (hi : i < m) (hk : k ≤ m) (hj : j ≤ m) : Sml (tA p m k i j) := by
  unfold tA
  by_cases q : j = m
  · rw [if_pos q]
    have a := h.q01 hi (k := k) (by omega) hj
    obtain ⟨⟨h', g⟩, hp, -⟩ := id h
    exact sml_of h hi hk (gq_int2 g hp hk hj hi) a.2 (by grind)
  · rw [if_neg q]
    by_cases w : j < k
    · rw [if_pos w]
      by_cases e : i = j
      · rw [if_pos e]; exact sml_one
      · rw [if_neg e]; exact sml_zero
    · rw [if_neg w]
      have a := h.q01 hi (k := k) (by omega) hj
      obtain ⟨⟨h', g⟩, hp, -⟩ := id h
      obtain ⟨z, hz⟩ := gq_int2 g hp hk hj hi
      by_cases e : i = j
      · rw [if_pos e]
        refine sml_of h hi hk ⟨D i * det k (bm N D) - z, ?_⟩ (by grind) (by grind)
        rw [Rat.intCast_sub, ← hz]
        grind
      · rw [if_neg e]
        refine sml_of h hi hk ⟨- z, ?_⟩ (by grind) (by grind)
        rw [Rat.intCast_neg, ← hz]
        grind
theorem tA_m {k i : Nat} : tA p m k i m = gq p k i m := if_pos rfl
theorem tA_lt {k i j : Nat} (h : j < k) (h2 : j ≠ m) : tA p m k i j = if i = j then 1 else 0 := by
  unfold tA
  rw [if_neg h2, if_pos h]
theorem tA_ge {k i j : Nat} (h : k ≤ j) (h2 : j ≠ m) : tA p m k i j = (if i = j then 1 else 0) - gq p k i j := by
  unfold tA
  rw [if_neg h2, if_neg (by omega)]
theorem tA_row (h : Sy m p N D) {k b : Nat} (hk : k < m) (h1 : k ≤ b) (h2 : b ≤ m) : tA p m k k b * (tA p m k k k)⁻¹ = tA p m (k + 1) k b := by
  obtain ⟨⟨h', g⟩, -⟩ := h
  have hp := gok_pivot (gok_all g k (by omega)) hk
  have hw1 : (1 - gq p k k k) * (1 - gq p k k k)⁻¹ = 1 := Rat.mul_inv_cancel _ (by grind)
  have e0 : tA p m k k k = 1 - gq p k k k := by rw [tA_ge (by omega) (by omega), if_pos rfl]
  have hg : gq p (k + 1) k b = gq p k k b + gq p k k k * ((1 - gq p k k k)⁻¹ * gq p k k b) := rfl
  rw [e0]
  by_cases q : b = m
  · subst q
    rw [tA_m, tA_m, hg]
    generalize (1 - gq p k k k)⁻¹ = w at *
    grind
  · by_cases z : b = k
    · subst z
      rw [e0, tA_lt (by omega) q, if_pos rfl]
      exact hw1
    · rw [tA_ge (by omega) q, tA_ge (by omega) q, hg, if_neg (by omega)]
      generalize (1 - gq p k k k)⁻¹ = w at *
      grind
theorem tA_el (h : Sy m p N D) {k a b : Nat} (hk : k < m) (ha : a ≠ k) (h1 : k ≤ b) (h2 : b ≤ m) : tA p m k a b - tA p m k a k * tA p m (k + 1) k b = tA p m (k + 1) a b := by
  obtain ⟨⟨h', g⟩, -⟩ := h
  have hp := gok_pivot (gok_all g k (by omega)) hk
  have hw1 : (1 - gq p k k k) * (1 - gq p k k k)⁻¹ = 1 := Rat.mul_inv_cancel _ (by grind)
  have e0 : tA p m k a k = 0 - gq p k a k := by rw [tA_ge (by omega) (by omega), if_neg ha]
  have hg : ∀ i, gq p (k + 1) i b = gq p k i b + gq p k i k * ((1 - gq p k k k)⁻¹ * gq p k k b) := fun i => rfl
  rw [e0]
  by_cases q : b = m
  · subst q
    rw [tA_m, tA_m, tA_m, hg, hg]
    generalize (1 - gq p k k k)⁻¹ = w at *
    grind
  · by_cases z : b = k
    · subst z
      rw [e0, tA_lt (by omega) q, tA_lt (by omega) q, if_pos rfl, if_neg ha]
      grind
    · rw [tA_ge (by omega) q, tA_ge (by omega) q, tA_ge (by omega) q, hg, hg, if_neg (show ¬ k = b by omega)]
      generalize (1 - gq p k k k)⁻¹ = w at *
      by_cases y : a = b
      · rw [if_pos y]
        grind
      · rw [if_neg y]
        grind
theorem sml_b {x : Rat} (h : Sml x) : x ≤ 1 ∧ -1 ≤ x := by
  obtain ⟨E, z, -, -, -, h1, h2⟩ := h
  exact ⟨h1, h2⟩
end SY
section VS
variable {G : mG} {d s m : Nat} {M : mM} {p : Nat → Nat → Rat} {N : Nat → Nat → Int} {D : Nat → Int}
theorem s_MS_solveRows (hm : m ≤ 40) (hO : mOk M) (hV : Vk M s) (h24 : mI M s 24 = m) (hW : Wk M s) (h : Sy m p N D) (hT : Tb M s m (tA p m 0)) :
    Cv G y_MS_solveRows (d + 6) [vr s] M (fun M' => mOk M' ∧ FI (cS s m) M M' ∧ Wk M' s ∧ Tb M' s m (tA p m m)) := by
  refine k_MS_solveRows hO ?_
  suffices H : ∀ (n k : Nat) (M2 : mM), k + n = m → mOk M2 → FI (cS s m) M M2 → Wk M2 s → Tb M2 s m (tA p m k) → h_MS_solveRows_2 G (d + 5) s k M2 (fun M' => mOk M' ∧ FI (cS s m) M M' ∧ Wk M' s ∧ Tb M' s m (tA p m m)) from
    H m 0 M (by omega) hO FI.refl hW hT
  intro n
  induction n with
  | zero =>
    intro k M2 hn o2 f2 W2 T2
    have es : mI M2 s = mI M s := f2.2.2.2.2.2.2 s (by omega)
    have ek : k = m := by omega
    subst ek
    refine k_MS_solveRows_2 o2 ⟨by omega, by omega⟩ ?_
    rw [es, h24]
    exact ⟨(hV.fi f2).k0, fun _ => ⟨o2, f2, W2, T2⟩, fun c => by omega⟩
  | succ n ih =>
    intro k M2 hn o2 f2 W2 T2
    have hV2 := hV.fi f2
    have es : mI M2 s = mI M s := f2.2.2.2.2.2.2 s (by omega)
    have hk : k < m := by omega
    refine k_MS_solveRows_2 o2 ⟨by omega, by omega⟩ ?_
    rw [es, h24]
    refine ⟨hV2.k0, fun c => by omega, fun _ => ?_⟩
    have hpv : tA p m k k k ≠ 0 := by
      obtain ⟨⟨h', g⟩, -⟩ := h
      have hp := gok_pivot (gok_all g k (by omega)) hk
      have e0 : tA p m k k k = 1 - gq p k k k := by
        unfold tA
        rw [if_neg (by omega), if_neg (by omega), if_pos rfl]
      rw [e0]
      grind
    refine s_row (d := d + 1) hm hk o2 hV2 W2 T2 hpv (fun b h1 h2 => by rw [tA_row h hk h1 h2]; exact tA_sml h hk (by omega) h2) (fun M3 o3 f3 W3 T3 => ?_)
    have hB : ∀ a b, a < m → b ≤ m → dvA (tA p m k) k ((k : Int) + (-1)) a b = if a = k then tA p m (k + 1) k b else tA p m k a b := by
      intro a b ha hb
      show (if a = k ∧ (k : Int) + (-1) < (b : Int) then tA p m k k b * (tA p m k k k)⁻¹ else tA p m k a b) = _
      by_cases q : a = k
      · rw [if_pos q]
        by_cases z : k ≤ b
        · rw [if_pos ⟨q, by omega⟩, tA_row h hk z hb]
        · rw [if_neg (by omega), q]
          rw [tA_lt (by omega) (by omega), tA_lt (by omega) (by omega)]
      · rw [if_neg q, if_neg (by omega)]
    have T3' := T3.congr hB
    have es3 : mI M3 s = mI M2 s := f3.2.2.2.2.2.2 s (by omega)
    refine s_clear (d := d) hm hk o3 (hV2.fi f3) (by rw [es3, es, h24]) W3 T3' (fun a b ha hb => ?_) (fun a b ha hak h1 h2 => ?_) (fun M4 o4 f4 W4 T4 => ?_)
    · by_cases q : a = k
      · rw [if_pos q]; exact sml_b (tA_sml h hk (by omega) hb)
      · rw [if_neg q]; exact sml_b (tA_sml h ha (by omega) hb)
    · rw [if_neg hak, if_neg hak, if_pos rfl, tA_el h hk hak h1 h2]
      exact tA_sml h ha (by omega) h2
    · refine ih (k + 1) M4 (by omega) o4 ((f2.trans f3).trans f4) W4 (T4.congr (fun a b ha hb => ?_))
      show (if a < m ∧ a ≠ k ∧ k ≤ b then (if a = k then tA p m (k + 1) k b else tA p m k a b) - (if a = k then tA p m (k + 1) k k else tA p m k a k) * (if k = k then tA p m (k + 1) k b else tA p m k k b) else (if a = k then tA p m (k + 1) k b else tA p m k a b)) = tA p m (k + 1) a b
      by_cases q : a = k
      · rw [if_neg (by omega), if_pos q, q]
      · rw [if_neg q, if_neg q, if_pos rfl]
        by_cases z : k ≤ b
        · rw [if_pos ⟨ha, q, z⟩, tA_el h hk q z hb]
        · rw [if_neg (by omega)]
          rw [tA_lt (by omega) (by omega), tA_lt (by omega) (by omega)]
end VS
end
section
/-! What a command is worth: a sum over its branches. -/
theorem sr_lt {f g : Nat → Rat} : ∀ (n : Nat), (∀ j, j < n → f j ≤ g j) → (∃ j, j < n ∧ f j < g j) → sr f n < sr g n
  | 0, _, h => by obtain ⟨j, h, _⟩ := h; omega
  | n + 1, h, h2 => by
    obtain ⟨j, h3, h4⟩ := h2
    rw [sr, sr]
    by_cases q : j = n
    · subst q
      have a := sr_le j (fun i hi => h i (by omega))
      grind
    · have a := sr_lt n (fun i hi => h i (by omega)) ⟨j, by omega, h4⟩
      have b := h n (by omega)
      grind
/-- the chance of branch b -/
def chq (M : mM) (s b : Nat) : Rat := (mI M (s + 27) b : Rat) * (mI M (s + 28) b : Rat)⁻¹
/-- where the branches of command c begin, how many they are, where branch b leads -/
def bg (M : mM) (s c : Nat) : Nat := (mI M (s + 25) c).toNat
def nb (M : mM) (s c : Nat) : Nat := (mI M (s + 25) (c + 1) - mI M (s + 25) c).toNat
def tg (M : mM) (s b : Nat) : Nat := (mI M (s + 26) b).toNat
def cx (M : mM) (s k i : Nat) : Nat := (mI M (s + 23) k).toNat + i
def cw (M : mM) (s c : Nat) (f : Nat → Rat) : Rat := sr (fun b => chq M s (bg M s c + b) * f (tg M s (bg M s c + b))) (nb M s c)
/-- the chances of each command are sound -/
def GB (M : mM) (s : Nat) : Prop := ∀ c : Nat, (c : Int) < mI M s 2 → (1 ≤ mI M (s + 24) c ∧ mI M (s + 24) c < 1000000000 ∧ nb M s c ≤ 8) ∧ (∀ b, b < nb M s c → 0 < mI M (s + 27) (bg M s c + b) ∧ 0 < mI M (s + 28) (bg M s c + b) ∧ mI M (s + 28) (bg M s c + b) ∣ mI M (s + 24) c) ∧ sm (fun b => mI M (s + 27) (bg M s c + b) * (mI M (s + 24) c / mI M (s + 28) (bg M s c + b))) (nb M s c) = mI M (s + 24) c
/-- nothing of the game has changed -/
def sameG (M M' : mM) (s : Nat) : Prop := mI M' s 1 = mI M s 1 ∧ mI M' s 2 = mI M s 2 ∧ mI M' s 3 = mI M s 3 ∧ ∀ x, s + 22 ≤ x → x ≤ s + 28 → mI M' x = mI M x
theorem sameG.of {S : Nat → Prop} {M M' : mM} {s : Nat} (f : FI S M M') (h0 : ¬ S s) (h1 : ∀ x, s + 22 ≤ x → x ≤ s + 28 → ¬ S x) : sameG M M' s := by
  have f := f.2.2.2.2.2.2
  exact ⟨by rw [f s h0], by rw [f s h0], by rw [f s h0], fun x a b => f x (h1 x a b)⟩
theorem sameG.trans {M M' M'' : mM} {s : Nat} (h : sameG M M' s) (h' : sameG M' M'' s) : sameG M M'' s :=
  ⟨h'.1.trans h.1, h'.2.1.trans h.2.1, h'.2.2.1.trans h.2.2.1, fun x a b => (h'.2.2.2 x a b).trans (h.2.2.2 x a b)⟩
theorem sameG.refl {M : mM} {s : Nat} : sameG M M s := ⟨rfl, rfl, rfl, fun _ _ _ => rfl⟩
section SG
variable {M M' : mM} {s : Nat}
theorem sameG.gw (h : sameG M M' s) (g : GW M s) : GW M' s := by
  unfold GW at g ⊢
  rw [h.1, h.2.1, h.2.2.1, h.2.2.2 (s + 23) (by omega) (by omega), h.2.2.2 (s + 25) (by omega) (by omega), h.2.2.2 (s + 26) (by omega) (by omega)]
  exact g
theorem sameG.hq (h : sameG M M' s) : chq M' s = chq M s := by
  funext b
  unfold chq
  rw [h.2.2.2 (s + 27) (by omega) (by omega), h.2.2.2 (s + 28) (by omega) (by omega)]
theorem sameG.hb (h : sameG M M' s) : bg M' s = bg M s := by
  funext c
  unfold bg
  rw [h.2.2.2 (s + 25) (by omega) (by omega)]
theorem sameG.hn (h : sameG M M' s) : nb M' s = nb M s := by
  funext c
  unfold nb
  rw [h.2.2.2 (s + 25) (by omega) (by omega)]
theorem sameG.ht (h : sameG M M' s) : tg M' s = tg M s := by
  funext c
  unfold tg
  rw [h.2.2.2 (s + 26) (by omega) (by omega)]
theorem sameG.hx (h : sameG M M' s) : cx M' s = cx M s := by
  funext k i
  unfold cx
  rw [h.2.2.2 (s + 23) (by omega) (by omega)]
theorem sameG.hw (h : sameG M M' s) : cw M' s = cw M s := by
  funext c f
  unfold cw
  rw [h.hq, h.hb, h.hn, h.ht]
theorem sameG.gb (h : sameG M M' s) (g : GB M s) : GB M' s := by
  unfold GB at g ⊢
  rw [h.2.1, h.hn, h.hb, h.2.2.2 (s + 24) (by omega) (by omega), h.2.2.2 (s + 27) (by omega) (by omega), h.2.2.2 (s + 28) (by omega) (by omega)]
  exact g
theorem sameG.hm (h : sameG M M' s) : mny M' s = mny M s := by
  funext k
  unfold mny
  rw [h.2.2.2 (s + 23) (by omega) (by omega)]
end SG
section CW
variable {M : mM} {s c : Nat}
theorem GB.chq_pos (h : GB M s) (hc : (c : Int) < mI M s 2) {b : Nat} (hb : b < nb M s c) : 0 < chq M s (bg M s c + b) := by
  obtain ⟨h1, h2, -⟩ := (h c hc).2.1 b hb
  exact Rat.mul_pos (Rat.intCast_pos.2 h1) (Rat.inv_pos.2 (Rat.intCast_pos.2 h2))
theorem GB.chq_int (h : GB M s) (hc : (c : Int) < mI M s 2) {b : Nat} (hb : b < nb M s c) : (mI M (s + 24) c : Rat) * chq M s (bg M s c + b) = ((mI M (s + 27) (bg M s c + b) * (mI M (s + 24) c / mI M (s + 28) (bg M s c + b)) : Int) : Rat) := by
  obtain ⟨h1, h2, h3⟩ := (h c hc).2.1 b hb
  have e := Int.mul_ediv_cancel' h3
  have e2 : (mI M (s + 24) c : Rat) = (mI M (s + 28) (bg M s c + b) : Rat) * ((mI M (s + 24) c / mI M (s + 28) (bg M s c + b) : Int) : Rat) := by rw [← Rat.intCast_mul, e]
  have e3 := Rat.mul_inv_cancel _ (ic_ne h2)
  unfold chq
  rw [Rat.intCast_mul]
  generalize ((mI M (s + 24) c / mI M (s + 28) (bg M s c + b) : Int) : Rat) = z at *
  generalize (mI M (s + 28) (bg M s c + b) : Rat)⁻¹ = w at *
  generalize (mI M (s + 28) (bg M s c + b) : Rat) = v at *
  generalize (mI M (s + 27) (bg M s c + b) : Rat) = y at *
  rw [e2]
  grind
theorem cw_le (h : GB M s) (hc : (c : Int) < mI M s 2) {f g : Nat → Rat} (hf : ∀ b, b < nb M s c → f (tg M s (bg M s c + b)) ≤ g (tg M s (bg M s c + b))) : cw M s c f ≤ cw M s c g := by
  refine sr_le _ (fun b hb => ?_)
  have a := Rat.mul_nonneg (Rat.le_of_lt (h.chq_pos hc hb)) (b := g (tg M s (bg M s c + b)) - f (tg M s (bg M s c + b))) (by have := hf b hb; grind)
  grind
theorem cw_lt (h : GB M s) (hc : (c : Int) < mI M s 2) {f g : Nat → Rat} (hf : ∀ b, b < nb M s c → f (tg M s (bg M s c + b)) ≤ g (tg M s (bg M s c + b))) (hl : ∃ b, b < nb M s c ∧ f (tg M s (bg M s c + b)) < g (tg M s (bg M s c + b))) : cw M s c f < cw M s c g := by
  refine sr_lt _ (fun b hb => ?_) ?_
  · have a := Rat.mul_nonneg (Rat.le_of_lt (h.chq_pos hc hb)) (b := g (tg M s (bg M s c + b)) - f (tg M s (bg M s c + b))) (by have := hf b hb; grind)
    grind
  · obtain ⟨b, hb, hl⟩ := hl
    have a := Rat.mul_pos (h.chq_pos hc hb) (b := g (tg M s (bg M s c + b)) - f (tg M s (bg M s c + b))) (by grind)
    exact ⟨b, hb, by grind⟩
theorem cw_congr {f g : Nat → Rat} (hf : ∀ b, b < nb M s c → f (tg M s (bg M s c + b)) = g (tg M s (bg M s c + b))) : cw M s c f = cw M s c g := by
  refine sr_congr _ (fun b hb => ?_)
  rw [hf b hb]
theorem cw_add {f g : Nat → Rat} : cw M s c (fun k => f k + g k) = cw M s c f + cw M s c g := by
  unfold cw
  rw [← sr_add]
  exact sr_congr _ (fun b hb => by grind)
theorem cw_mul {x : Rat} {f : Nat → Rat} : cw M s c (fun k => x * f k) = x * cw M s c f := by
  unfold cw
  rw [← sr_mul]
  exact sr_congr _ (fun b hb => by grind)
theorem cw_int (h : GB M s) (hc : (c : Int) < mI M s 2) {f : Nat → Int} : (mI M (s + 24) c : Rat) * cw M s c (fun k => (f k : Rat)) = ((sm (fun b => mI M (s + 27) (bg M s c + b) * (mI M (s + 24) c / mI M (s + 28) (bg M s c + b)) * f (tg M s (bg M s c + b))) (nb M s c) : Int) : Rat) := by
  unfold cw
  rw [sm_cast, ← sr_mul]
  refine sr_congr _ (fun b hb => ?_)
  have e := h.chq_int hc hb
  rw [Rat.intCast_mul, ← e]
  grind
theorem cw_one (h : GB M s) (hc : (c : Int) < mI M s 2) : cw M s c (fun _ => 1) = 1 := by
  have e := cw_int h hc (f := fun _ => 1)
  have e2 : sm (fun b => mI M (s + 27) (bg M s c + b) * (mI M (s + 24) c / mI M (s + 28) (bg M s c + b)) * 1) (nb M s c) = mI M (s + 24) c := by
    rw [sm_congr (g := fun b => mI M (s + 27) (bg M s c + b) * (mI M (s + 24) c / mI M (s + 28) (bg M s c + b))) _ (fun b hb => by omega)]
    exact (h c hc).2.2
  have e1 : cw M s c (fun _ => 1) = cw M s c (fun k => (((fun _ => 1) k : Int) : Rat)) := rfl
  rw [e2] at e
  rw [e1]
  have hp := (h c hc).1.1
  have e3 := Rat.inv_mul_cancel _ (ic_ne (x := mI M (s + 24) c) (by omega))
  generalize (mI M (s + 24) c : Rat) = v at *
  generalize cw M s c (fun k => (((fun _ => 1) k : Int) : Rat)) = w at *
  have e4 : v⁻¹ * (v * w) = v⁻¹ * v := by rw [e]
  grind
theorem cw_const (h : GB M s) (hc : (c : Int) < mI M s 2) {x : Rat} : cw M s c (fun _ => x) = x := by
  have e := cw_mul (M := M) (s := s) (c := c) (x := x) (f := fun _ => 1)
  rw [cw_one h hc] at e
  have e1 : cw M s c (fun _ => x) = cw M s c (fun _ => x * 1) := cw_congr (fun b hb => by grind)
  rw [e1, e]
  grind
end CW
/-- a value that k parts hold -/
def Smp (k : Nat) (x : Rat) : Prop := ∃ E z : Int, 0 < E ∧ E < 16777216 ^ k ∧ x * (E : Rat) = (z : Rat) ∧ x ≤ 1 ∧ -1 ≤ x
theorem smp_size {M : mM} {f r k : Nat} (hF : Fq M f r) (hC : Fc M f) (h : Smp k (fv M f)) : mI M (f + 1) 1 ≤ k ∧ mI M (f + 3) 1 ≤ k := by
  obtain ⟨E, z, h0, h1, h2, h3, h4⟩ := h
  have b := fv_abs hF h3 h4
  exact fc_size hF hC h2 h0 h1 b.1 b.2
theorem smp_fq {M : mM} {f : Nat} (hF : Fq M f 56) (h1 : fv M f ≤ 1) (h2 : -1 ≤ fv M f) : Smp 56 (fv M f) := by
  have p : 0 < sd M f := hF.2.2.2.2
  refine ⟨sd M f, sn M f, p, ?_, fv_sd hF, h1, h2⟩
  exact Int.lt_of_lt_of_le hF.2.2.1.lt (pow_mono (by have := hF.2.2.1.1.2.2.2.2.2.2; omega))
theorem smp_mul {x : Rat} {k : Nat} {u v : Int} (h : Smp k x) (h1 : 0 ≤ u) (h2 : u ≤ v) (h3 : 0 < v) (h4 : v < 1000000000) : Smp (k + 2) ((u : Rat) * (v : Rat)⁻¹ * x) := by
  obtain ⟨E, z, e0, e1, e2, e3, e4⟩ := h
  have hv : (0 : Rat) < (v : Rat) := Rat.intCast_pos.2 h3
  have hi := Rat.mul_inv_cancel _ (ic_ne h3)
  have hi0 : (0 : Rat) < (v : Rat)⁻¹ := Rat.inv_pos.2 hv
  have c0 : (0 : Rat) ≤ (u : Rat) := by exact_mod_cast h1
  have c1 : (u : Rat) ≤ (v : Rat) := by exact_mod_cast h2
  have b1 : (u : Rat) * (v : Rat)⁻¹ ≤ 1 := by
    have a := Rat.mul_nonneg (a := (v : Rat) - (u : Rat)) (by grind) (Rat.le_of_lt hi0)
    grind
  have b2 : 0 ≤ (u : Rat) * (v : Rat)⁻¹ := Rat.mul_nonneg c0 (Rat.le_of_lt hi0)
  have b3 := abs_mul1 b1 (by grind) e3 e4
  refine ⟨v * E, u * z, Int.mul_pos h3 e0, ?_, ?_, b3.1, b3.2⟩
  · rw [show (16777216 : Int) ^ (k + 2) = 16777216 ^ 2 * 16777216 ^ k by rw [Int.pow_add, Int.mul_comm]]
    exact mul_lt_B (by omega) e1 (by omega) (by omega)
  · rw [Rat.intCast_mul, Rat.intCast_mul, ← e2]
    grind
theorem smp_add {x y : Rat} {k l : Nat} (h : Smp k x) (h' : Smp l y) (h1 : x + y ≤ 1) (h2 : -1 ≤ x + y) : Smp (k + l) (x + y) := by
  obtain ⟨E, z, e0, e1, e2, e3, e4⟩ := h
  obtain ⟨E', z', e0', e1', e2', e3', e4'⟩ := h'
  refine ⟨E * E', z * E' + z' * E, Int.mul_pos e0 e0', ?_, ?_, h1, h2⟩
  · rw [Int.pow_add]
    exact mul_lt_B e1 e1' (by omega) (by omega)
  · rw [Rat.intCast_mul, Rat.intCast_add, Rat.intCast_mul, Rat.intCast_mul, ← e2, ← e2']
    grind
end
section
/-! The solver: what a command is worth. -/
theorem sr_part {f : Nat → Rat} {a : Nat} : ∀ (n : Nat), (∀ c, c < a + n → 0 ≤ f c) → sr f a ≤ sr f (a + n)
  | 0, _ => Rat.le_refl
  | n + 1, h => by
    have h1 := sr_part (f := f) (a := a) n (fun c hc => h c (by omega))
    have h2 := h (a + n) (by omega)
    have e : sr f (a + (n + 1)) = sr f (a + n) + f (a + n) := rfl
    grind
theorem fc_one {M : mM} {f r : Nat} (hF : Fq M f r) (h1 : sd M f = 1) (h2 : sn M f = 0 → mI M f 2 = 0) : Fc M f := by
  have e4 : xn M (f + 3) = 1 := by
    have : sd M f = wv M (f + 3) := rfl
    unfold xn
    omega
  refine ⟨by rw [e4]; exact Nat.gcd_one_right _, fun q => h2 ?_⟩
  unfold sn
  rw [q]
  split <;> rfl
theorem alg_ud {U V y : Rat} (q : V * y = 1) (w : 0 ≤ (1 - U * y) * V) : U ≤ V := by
  have e : (1 - U * y) * V = V - U * (V * y) := by grind
  rw [e, q] at w
  grind
theorem ud_le {u v : Int} (h : 0 < v) (h2 : (u : Rat) * (v : Rat)⁻¹ ≤ 1) : u ≤ v := by
  have p : (0 : Rat) < (v : Rat) := Rat.intCast_pos.2 h
  have q := Rat.mul_inv_cancel _ (ic_ne h)
  have w := Rat.mul_nonneg (a := 1 - (u : Rat) * (v : Rat)⁻¹) (by grind) (Rat.le_of_lt p)
  exact ic_le (alg_ud q w)
/-- n fractions hold x -/
def Xt (M : mM) (s e n : Nat) (x : Nat → Rat) : Prop := ∀ k, k < n → Fq M (s + e + 25 * k) 56 ∧ Fc M (s + e + 25 * k) ∧ fv M (s + e + 25 * k) = x k
theorem Xt.out {S : Nat → Prop} {M M' : mM} {s e n : Nat} {x : Nat → Rat} (h : Xt M s e n x) (k : FI S M M') (hs : ∀ y, S y → y < s + e ∨ s + e + 25 * n ≤ y) : Xt M' s e n x := by
  intro i hi
  obtain ⟨h1, h2, h3⟩ := h i hi
  have hs' : ∀ y, S y → y < s + e + 25 * i ∨ s + e + 25 * i + 4 < y := fun y q => by have := hs y q; omega
  exact ⟨(h1.out k hs').1, h2.out h1 k hs', by rw [fv_out h1 k hs', h3]⟩
abbrev wS (s : Nat) : Nat → Prop := fun x => (s + 2 ≤ x ∧ x ≤ s + 21) ∨ (s + 42 ≤ x ∧ x ≤ s + 46) ∨ (s + 52 ≤ x ∧ x ≤ s + 61)
theorem Wk.far {S : Nat → Prop} {M M' : mM} {s : Nat} (h : Wk M s) (k : FI S M M') (hs : ∀ x, S x → s + 22 ≤ x ∧ x < s + 42 ∨ s + 66 < x ∨ x ≤ s) : Wk M' s :=
  h.out k (h.1.far k (fun x q => by have := hs x q; omega)) (fun x q => by have := hs x q; omega)
/-- one of the solver's fractions is written -/
theorem Wk.put {M M' : mM} {s a r : Nat} (h : Wk M s) (k : FI (fS a) M M') (hf : Ft M' a r) (ha : (a = s + 42 ∧ r = 8) ∨ (a = s + 47 ∧ r = 56) ∨ ((a = s + 52 ∨ a = s + 57 ∨ a = s + 62) ∧ r = 900)) : Wk M' s := by
  have hk : ∀ y, fS a y → a ≤ y ∧ y ≤ a + 4 := fun y q => q
  have h0 := h.1.far k (fun x q => by have := hk x q; omega)
  obtain ⟨-, h1, h2, h3, h4, h5⟩ := h
  rcases ha with ⟨ha, hr⟩ | ⟨ha, hr⟩ | ⟨ha | ha | ha, hr⟩ <;> subst ha hr
  · exact ⟨h0, hf, h2.out k (fun x q => by have := hk x q; omega), h3.out k (fun x q => by have := hk x q; omega), h4.out k (fun x q => by have := hk x q; omega), h5.out k (fun x q => by have := hk x q; omega)⟩
  · exact ⟨h0, h1.out k (fun x q => by have := hk x q; omega), hf, h3.out k (fun x q => by have := hk x q; omega), h4.out k (fun x q => by have := hk x q; omega), h5.out k (fun x q => by have := hk x q; omega)⟩
  · exact ⟨h0, h1.out k (fun x q => by have := hk x q; omega), h2.out k (fun x q => by have := hk x q; omega), hf, h4.out k (fun x q => by have := hk x q; omega), h5.out k (fun x q => by have := hk x q; omega)⟩
  · exact ⟨h0, h1.out k (fun x q => by have := hk x q; omega), h2.out k (fun x q => by have := hk x q; omega), h3.out k (fun x q => by have := hk x q; omega), hf, h5.out k (fun x q => by have := hk x q; omega)⟩
  · exact ⟨h0, h1.out k (fun x q => by have := hk x q; omega), h2.out k (fun x q => by have := hk x q; omega), h3.out k (fun x q => by have := hk x q; omega), h4.out k (fun x q => by have := hk x q; omega), hf⟩
/-- what worthOf leaves behind -/
def woG (p : Nat) (M : mM) (s c : Nat) (x : Nat → Rat) (M' : mM) : Prop := mOk M' ∧ FI (wS s) M M' ∧ Wk M' s ∧ Fq M' (s + 52) 900 ∧ Fc M' (s + 52) ∧ fv M' (s + 52) = cw M s c x ∧ Smp ((p + 2) * 8 + 1) (cw M s c x)
abbrev woQ (M : mM) (s c : Nat) (x : Nat → Rat) : mM → Prop := woG 56 M s c x
section VS
variable {G : mG} {d s n : Nat} {M : mM} {x : Nat → Rat}
theorem s_worthG {k i B st e p : Nat} (hp : p ≤ 56) (hxs : ∀ t, t < n → Smp p (x t)) (hB : (B = s + 38 ∧ st = 1 ∧ e = 88) ∨ (B = s + 29 ∧ st = 3 ∧ e = 68)) (hO : mOk M) (hV : Vk M s) (hG : GW M s) (hC : GB M s) (hn : mI M s 1 = n) (hk : (k : Int) < mI M s 1) (hi : (i : Int) < mny M s k) (hW : Wk M s) (hX : Xt M s e n x) (h01 : ∀ t, t < n → 0 ≤ x t ∧ x t ≤ 1) :
    Cv G y_MS_worthOf (d + 5) [vr s, vi k, vi i, vr B, vi 0, vi st] M (woG p M s (cx M s k i) x) := by
  have hc := hG.cmd hk
  have hi' := hi
  unfold mny at hi'
  have hcx : (cx M s k i : Int) = mI M (s + 23) k + i := by unfold cx; omega
  have hc2 : (cx M s k i : Int) < mI M s 2 := by omega
  have hb := hG.brn hc2
  have h2 := hG.2.1
  have h3 := hG.2.2.1
  have h4 := hG.2.2.2.1
  have ht := hG.2.2.2.2.2.2.2.2.2.2
  have ebg : (bg M s (cx M s k i) : Int) = mI M (s + 25) (cx M s k i) := by unfold bg; omega
  have enb : (nb M s (cx M s k i) : Int) = mI M (s + 25) (cx M s k i + 1) - mI M (s + 25) (cx M s k i) := by unfold nb; omega
  have hn8 := (hC _ hc2).1.2.2
  have hm := (hC _ hc2).1.2.1
  have hm1 := (hC _ hc2).1.1
  have hbr := (hC _ hc2).2.1
  generalize hcc : cx M s k i = c at *
  have htg : ∀ b, b < nb M s c → tg M s (bg M s c + b) < n ∧ (tg M s (bg M s c + b) : Int) = mI M (s + 26) (bg M s c + b) := fun b hb => by
    have := ht (bg M s c + b) (by omega)
    unfold tg
    omega
  have hle : cw M s c x ≤ 1 := by
    have a := cw_le hC hc2 (f := x) (g := fun _ => 1) (fun b hb => (h01 _ (htg b hb).1).2)
    rw [cw_one hC hc2] at a
    exact a
  have hnn : ∀ b, b < nb M s c → 0 ≤ chq M s (bg M s c + b) * x (tg M s (bg M s c + b)) := fun b hb => Rat.mul_nonneg (Rat.le_of_lt (hC.chq_pos hc2 hb)) (h01 _ (htg b hb).1).1
  have hpart : ∀ b, b ≤ nb M s c → 0 ≤ sr (fun b => chq M s (bg M s c + b) * x (tg M s (bg M s c + b))) b ∧ sr (fun b => chq M s (bg M s c + b) * x (tg M s (bg M s c + b))) b ≤ 1 := fun b hb => by
    refine ⟨sr_nonneg b (fun j hj => hnn j (by omega)), ?_⟩
    have a := sr_part (f := fun b => chq M s (bg M s c + b) * x (tg M s (bg M s c + b))) (a := b) (nb M s c - b) (fun j hj => hnn j (by omega))
    rw [show b + (nb M s c - b) = nb M s c by omega] at a
    exact Rat.le_trans a hle
  refine k_MS_worthOf hO ⟨by omega, by omega⟩ ⟨by omega, by omega⟩ ⟨by omega, by omega⟩ ⟨by omega, by omega⟩ ?_
  rw [hV.r5, hV.n23, hV.r28, Int.toNat_natCast, ← hcx]
  refine ⟨hV.k0, hV.k23, by omega, hW.2.2.2.1.1.1, (s_MF_set ⟨by omega, by omega⟩ (by omega) ⟨by omega, by omega⟩ (by omega) hO hW.2.2.2.1 (by omega)).mono (fun M1 h1 => ?_)⟩
  obtain ⟨o1, f1, F1, v1, v2, v3⟩ := h1
  have f1' : FI (wS s) M M1 := f1.mono (fun y q => by have : s + 52 ≤ y ∧ y ≤ s + 52 + 4 := q; omega)
  have V1 := hV.fi f1
  have G1 : sameG M M1 s := sameG.of f1' (by omega) (fun y _ _ => by omega)
  have W1 : Wk M1 s := hW.put f1 F1.ft (by omega)
  have C1 := fc_one F1 v2 (fun _ => v3 rfl)
  have e1 : fv M1 (s + 52) = 0 := by
    rw [fv_set v1 v2]
    have : ((0 : Int) : Rat) = 0 := rfl
    grind
  rw [V1.r7, V1.n25, Int.toNat_natCast, G1.2.2.2 (s + 25) (by omega) (by omega)]
  refine ⟨o1, V1.k0, V1.k25, by omega, ?_⟩
  have X1 := hX.out f1' (fun y q => by omega)
  suffices H : ∀ (r b : Nat) (M2 : mM), b + r = nb M s c → mOk M2 → FI (wS s) M M2 → Wk M2 s → Fq M2 (s + 52) 900 → Fc M2 (s + 52) → fv M2 (s + 52) = sr (fun b => chq M s (bg M s c + b) * x (tg M s (bg M s c + b))) b → Smp ((p + 2) * b + 1) (fv M2 (s + 52)) → h_MS_worthOf_28 G (d + 4) s B 0 st c (mI M (s + 25) c + b) M2 (woG p M s c x) by
    have a := H (nb M s c) 0 M1 (by omega) o1 f1' W1 F1 C1 e1 ⟨1, 0, by omega, by rw [Nat.mul_zero]; decide, by rw [e1]; grind, by rw [e1]; decide, by rw [e1]; decide⟩
    rw [show mI M (s + 25) c + ((0 : Nat) : Int) = mI M (s + 25) c by omega] at a
    exact a
  clear e1 C1 W1 G1 V1 f1' v3 v2 v1 F1 f1 o1 X1 M1
  intro r
  induction r with
  | zero =>
    intro b M2 hr o2 f2 W2 F2 C2 e2 S2
    have V2 := hV.fi f2
    have G2 : sameG M M2 s := sameG.of f2 (by omega) (fun y _ _ => by omega)
    have eb : b = nb M s c := by omega
    subst eb
    refine k_MS_worthOf_28 o2 ⟨by omega, by omega⟩ ⟨by omega, by omega⟩ ⟨by omega, by omega⟩ ⟨by omega, by omega⟩ ?_
    rw [V2.r7, V2.n25, G2.2.2.2 (s + 25) (by omega) (by omega), show ((c : Int) + 1).toNat = c + 1 by omega]
    refine ⟨V2.k0, V2.k25, by omega, fun _ => ⟨o2, f2, W2, F2, C2, e2, ?_⟩, fun q => by omega⟩
    have e3 : fv M2 (s + 52) = cw M s c x := e2
    rw [e3] at S2
    obtain ⟨E, z, a0, a1, a2⟩ := S2
    exact ⟨E, z, a0, Int.lt_of_lt_of_le a1 (pow_mono (Nat.add_le_add_right (Nat.mul_le_mul_left _ hn8) 1)), a2⟩
  | succ r ih =>
    intro b M2 hr o2 f2 W2 F2 C2 e2 S2
    have hbn : b < nb M s c := by omega
    have V2 := hV.fi f2
    have G2 : sameG M M2 s := sameG.of f2 (by omega) (fun y _ _ => by omega)
    have X2 := hX.out f2 (fun y q => by omega)
    obtain ⟨u0, u1, u2⟩ := hbr b hbn
    have u3 : mI M (s + 28) (bg M s c + b) ≤ mI M (s + 24) c := Int.le_of_dvd (by omega) u2
    have u4 : mI M (s + 27) (bg M s c + b) ≤ mI M (s + 28) (bg M s c + b) := by
      have a := sr_one (f := fun b => chq M s (bg M s c + b) * (fun _ => 1) (tg M s (bg M s c + b))) (nb M s c) hbn (fun j hj => Rat.mul_nonneg (Rat.le_of_lt (hC.chq_pos hc2 hj)) (by grind))
      have a1 := cw_one hC hc2
      unfold cw at a1
      rw [a1] at a
      have a2 : chq M s (bg M s c + b) ≤ 1 := by
        have a3 : chq M s (bg M s c + b) * 1 ≤ 1 := a
        rw [Rat.mul_one] at a3
        exact a3
      exact ud_le u1 a2
    have ebb : (mI M (s + 25) c + (b : Int)).toNat = bg M s c + b := by omega
    obtain ⟨t1, t2⟩ := htg b hbn
    refine k_MS_worthOf_28 o2 ⟨by omega, by omega⟩ ⟨by omega, by omega⟩ ⟨by omega, by omega⟩ ⟨by omega, by omega⟩ ?_
    rw [V2.r7, V2.r9, V2.r10, V2.r26, V2.n25, V2.n27, V2.n28, G2.2.2.2 (s + 25) (by omega) (by omega), G2.2.2.2 (s + 27) (by omega) (by omega), G2.2.2.2 (s + 28) (by omega) (by omega), show ((c : Int) + 1).toNat = c + 1 by omega, ebb]
    refine ⟨V2.k0, V2.k25, by omega, fun q => by omega, fun _ => ⟨V2.k27, by omega, V2.k28, by omega, W2.2.1.1.1, (s_MF_set ⟨by omega, by omega⟩ (by omega) ⟨by omega, by omega⟩ (by omega) o2 W2.2.1 (by omega)).mono (fun M3 h3 => ?_)⟩⟩
    obtain ⟨o3, f3, F3, v1, v2, -⟩ := h3
    have f3' : FI (wS s) M2 M3 := f3.mono (fun y q => by have : s + 42 ≤ y ∧ y ≤ s + 42 + 4 := q; omega)
    have V3 := V2.fi f3
    have G3 : sameG M M3 s := sameG.of (f2.trans f3') (by omega) (fun y _ _ => by omega)
    have W3' : Wk M3 s := W2.put f3 F3.ft (by omega)
    have X3 := X2.out f3' (fun y q => by omega)
    have x3 := X3 _ t1
    have hBk : mK M3 B = 36 ∧ ((0 : Int) ≤ (st : Int) * mI M (s + 26) (bg M s c + b) + 0 ∧ (st : Int) * mI M (s + 26) (bg M s c + b) + 0 < (mN M3 B : Int)) ∧ mR M3 B ((st : Int) * mI M (s + 26) (bg M s c + b) + 0).toNat = s + e + 25 * tg M s (bg M s c + b) := by
      rw [← t2]
      rcases hB with ⟨b1, b2, b3⟩ | ⟨b1, b2, b3⟩ <;> subst b1 b2 b3
      · rw [show ((((1 : Nat) : Int)) * (tg M s (bg M s c + b) : Int) + 0).toNat = tg M s (bg M s c + b) by omega, V3.f38 _ (by omega), V3.n38]
        exact ⟨V3.k38, by omega, rfl⟩
      · rw [show ((((3 : Nat) : Int)) * (tg M s (bg M s c + b) : Int) + 0).toNat = 3 * tg M s (bg M s c + b) + 0 by omega, V3.f29 _ 0 (by omega) (by omega), V3.n29]
        exact ⟨V3.k29, by omega, by omega⟩
    rw [V3.r8, V3.r0, V3.r26, V3.n26, G3.2.2.2 (s + 26) (by omega) (by omega), hBk.2.2]
    have z1 := F3.2.1.1.2.2.2.2.2.2
    have z2 := F3.2.2.1.1.2.2.2.2.2.2
    have z3 := x3.1.2.1.1.2.2.2.2.2.2
    have z4 := x3.1.2.2.1.1.2.2.2.2.2.2
    refine ⟨o3, V3.k0, V3.k26, by omega, hBk.1, hBk.2.1, W3'.1.1.1, (s_MU_multiply (d := d) o3 W3'.1 F3 x3.1 (by unfold suO; omega) (by unfold suO; omega) (by omega) (by omega)).mono (fun M4 h4 => ?_)⟩
    have v4 := fv_mul F3 x3.1 h4
    rw [x3.2.2, fv_set v1 v2] at v4
    have hs4 : Smp (p + 2) (fv M4 (s + 1 + 1)) := by
      rw [v4]
      exact smp_mul (hxs _ t1) (by omega) (by omega) (by omega) (by omega)
    have hpb : (p + 2) * b ≤ 464 := Nat.le_trans (Nat.mul_le_mul_left _ (show b ≤ 8 by omega)) (by omega)
    have hpb1 : (p + 2) * (b + 1) = (p + 2) * b + (p + 2) := Nat.mul_succ _ _
    obtain ⟨o4, f4, Z4, F4, C4, -⟩ := h4
    have f4' : FI (fun y => s + 2 ≤ y ∧ y ≤ s + 21) M3 M4 := f4.mono (fun y q => by omega)
    have V4 := V3.fi f4
    have W4 : Wk M4 s := W3'.out f4' Z4 (fun y q => by omega)
    have sz4 := smp_size F4 C4 hs4
    rw [V4.r0, V4.r29, Z4.1.2.1]
    refine ⟨o4, V4.k0, Z4.1.1, W4.2.2.2.2.1.1.1, (s_MF_copy o4 W4.2.2.2.2.1 F4 (by omega) (by omega) (by omega)).mono (fun M5 h5 => ?_)⟩
    obtain ⟨o5, f5, F5, w4, w5, w6⟩ := h5
    have f5' : FI (fun y => s + 57 ≤ y ∧ y ≤ s + 61) M4 M5 := f5.mono (fun y q => by have : s + 57 ≤ y ∧ y ≤ s + 57 + 4 := q; omega)
    have C5 := fc_copy C4 w4 w5 w6
    have V5 := V4.fi f5
    have W5 : Wk M5 s := W4.put f5 F5.ft (by omega)
    have k52 : ∀ y, fS (s + 42) y → y < s + 52 ∨ s + 52 + 4 < y := fun y q => by have : s + 42 ≤ y ∧ y ≤ s + 42 + 4 := q; omega
    have a1 := F2.out f3 k52
    have a2 := C2.out F2 f3 k52
    have a3 := fv_out F2 f3 k52
    have b1 := a1.1.out f4' (fun y q => by omega)
    have b2 := a2.out a1.1 f4' (fun y q => by omega)
    have b3 := fv_out a1.1 f4' (fun y q => by omega)
    have c1 := b1.1.out f5' (fun y q => by omega)
    have c2 := b2.out b1.1 f5' (fun y q => by omega)
    have c3 := fv_out b1.1 f5' (fun y q => by omega)
    have e5 : fv M5 (s + 52) = fv M2 (s + 52) := by rw [c3, b3, a3]
    rw [← e5] at S2 e2
    have sz5 := smp_size c1.1 c2 S2
    have sz6 := smp_size F5 C5.1 (by rw [C5.2]; exact hs4)
    rw [V5.r0, V5.r28, V5.r29]
    refine ⟨o5, V5.k0, W5.1.1.1, (s_MU_add (d := d) (Or.inl rfl) o5 W5.1 c1.1 F5 (by unfold suO; omega) (by unfold suO; omega) (by omega) (by omega) (by omega)).mono (fun M6 h6 => ?_)⟩
    have v6 := fv_add (Or.inl rfl) c1.1 F5 h6
    rw [if_neg (by omega), C5.2, v4] at v6
    have hv6 : fv M6 (s + 1 + 1) = sr (fun b => chq M s (bg M s c + b) * x (tg M s (bg M s c + b))) (b + 1) := by
      rw [v6, e2, sr]
      rfl
    have hs6 : Smp ((p + 2) * (b + 1) + 1) (fv M6 (s + 1 + 1)) := by
      have a := hpart (b + 1) (by omega)
      have b' := smp_add S2 (by rw [v4] at hs4; exact hs4) (by rw [← v6, hv6]; exact a.2) (by rw [← v6, hv6]; grind)
      rw [v6]
      obtain ⟨E, z, q0, q1, q2⟩ := b'
      exact ⟨E, z, q0, Int.lt_of_lt_of_le q1 (pow_mono (by omega)), q2⟩
    obtain ⟨o6, f6, Z6, F6, C6, -⟩ := h6
    have f6' : FI (fun y => s + 2 ≤ y ∧ y ≤ s + 21) M5 M6 := f6.mono (fun y q => by omega)
    have V6 := V5.fi f6
    have W6 : Wk M6 s := W5.out f6' Z6 (fun y q => by omega)
    have sz7 := smp_size F6 C6 hs6
    rw [V6.r0, V6.r28, Z6.1.2.1]
    refine ⟨o6, V6.k0, Z6.1.1, W6.2.2.2.1.1.1, (s_MF_copy o6 W6.2.2.2.1 F6 (by omega) (by omega) (by omega)).mono (fun M7 h7 => ?_)⟩
    obtain ⟨o7, f7, F7, y4, y5, y6⟩ := h7
    have f7' : FI (fun y => s + 52 ≤ y ∧ y ≤ s + 56) M6 M7 := f7.mono (fun y q => by have : s + 52 ≤ y ∧ y ≤ s + 52 + 4 := q; omega)
    have C7 := fc_copy C6 y4 y5 y6
    have ff : FI (wS s) M2 M7 := (((f3'.trans (f4'.mono (fun y q => by omega))).trans (f5'.mono (fun y q => by omega))).trans (f6'.mono (fun y q => by omega))).trans (f7'.mono (fun y q => by omega))
    have hlast := ih (b + 1) M7 (by omega) o7 (f2.trans ff) (W6.put f7 F7.ft (by omega)) F7 C7.1 (by rw [C7.2, hv6]) (by rw [C7.2]; exact hs6)
    rw [show mI M (s + 25) c + ((b + 1 : Nat) : Int) = mI M (s + 25) c + (b : Int) + 1 by omega] at hlast
    exact ⟨o7, hlast⟩
theorem s_MS_worthOf {k i B st e : Nat} (hB : (B = s + 38 ∧ st = 1 ∧ e = 88) ∨ (B = s + 29 ∧ st = 3 ∧ e = 68)) (hO : mOk M) (hV : Vk M s) (hG : GW M s) (hC : GB M s) (hn : mI M s 1 = n) (hk : (k : Int) < mI M s 1) (hi : (i : Int) < mny M s k) (hW : Wk M s) (hX : Xt M s e n x) (h01 : ∀ t, t < n → 0 ≤ x t ∧ x t ≤ 1) :
    Cv G y_MS_worthOf (d + 5) [vr s, vi k, vi i, vr B, vi 0, vi st] M (woQ M s (cx M s k i) x) := by
  refine s_worthG (p := 56) (by omega) (fun t ht => ?_) hB hO hV hG hC hn hk hi hW hX h01
  obtain ⟨x1, x2, x3⟩ := hX t ht
  have a := h01 t ht
  have b := smp_fq x1 (by rw [x3]; exact a.2) (by rw [x3]; grind)
  rw [x3] at b
  exact b
end VS
end
section
/-! The reference's look answers what the least closed set says. -/
section RSV
variable {T : xt9} {J : Nat → Prop} {x : Int × List sc9} {k s : Nat} {M M' : mM} {r : Int}
/-- the solver's tables are those of T -/
def SvT (M : mM) (s : Nat) (T : xt9) : Prop := mI M s 1 = ((T.length : Nat) : Int) ∧ ∀ (k : Nat) (x : Int × List sc9), T[k]? = some x → mI M (s + 22) k = x.1 ∧ mny M s k = ((x.2.length : Nat) : Int) ∧ ∀ (i : Nat) (c : sc9), x.2[i]? = some c → mI M (s + 24) ((mI M (s + 23) k).toNat + i) = c.2.1 ∧ (∀ J : Nat → Prop, leadQ J M s k i ↔ ldA9 J c) ∧ (∀ b, b ∈ c.2.2 → b.1 < T.length) ∧ ∀ f : Nat → Rat, cw M s (cx M s k i) f = wr9 f c
theorem SvT.sv (h : SvT M s T) (e1 : mI M' s 1 = mI M s 1) (e : ∀ i, 22 ≤ i → i ≤ 28 → mI M' (s + i) = mI M (s + i)) : SvT M' s T := by
  refine ⟨by rw [e1]; exact h.1, fun k x hx => ?_⟩
  obtain ⟨h1, h2, h3⟩ := h.2 k x hx
  have ew : ∀ (c : Nat) (f : Nat → Rat), cw M' s c f = cw M s c f := fun c f => by
    unfold cw chq bg nb tg
    rw [e 25 (by decide) (by decide), e 26 (by decide) (by decide), e 27 (by decide) (by decide), e 28 (by decide) (by decide)]
  have ex : cx M' s = cx M s := by
    funext a b
    unfold cx
    rw [e 23 (by decide) (by decide)]
  unfold mny leadQ at *
  rw [e 22 (by decide) (by decide), e 23 (by decide) (by decide), e 24 (by decide) (by decide), e 25 (by decide) (by decide), e 26 (by decide) (by decide)]
  refine ⟨h1, h2, fun i c hc => ?_⟩
  obtain ⟨g1, g2, g3, g4⟩ := h3 i c hc
  exact ⟨g1, g2, g3, fun f => by rw [ew, ex]; exact g4 f⟩
theorem lt_some {α : Type} {l : List α} {i : Nat} {a : α} (h : l[i]? = some a) : i < l.length := (List.getElem?_eq_some_iff.mp h).1
theorem co_iff (h : SvT M s T) (k0 : mI M s 17 = 0) (hx : T[k]? = some x) : comesQ J M s k 0 ↔ coA9 J x := by
  obtain ⟨a1, a2, a3⟩ := h.2 k x hx
  have use : x.1 ≠ 0 → ∀ i, useP M s k i 0 := fun n i => Or.inl ⟨Or.inr rfl, Or.inl (by rw [k0, a1]; exact fun u => n u.symm)⟩
  unfold comesQ coA9
  rw [a1, a2]
  constructor
  · intro u
    rcases u with ⟨u1, i, u2, -, u3⟩ | ⟨u1, u2, u3⟩
    · have hi := List.getElem?_eq_getElem (l := x.2) (i := i) (by omega)
      exact Or.inl ⟨u1, _, List.mem_of_getElem? hi, ((a3 i _ hi).2.1 J).mp u3⟩
    · refine Or.inr ⟨u1, fun e => by rw [e] at u2; exact absurd u2 (by decide), fun c hc => ?_⟩
      obtain ⟨i, hi⟩ := List.getElem?_of_mem hc
      have lt := lt_some hi
      exact ((a3 i c hi).2.1 J).mp (u3 i (by omega) (use (by rw [u1]; decide) i))
  · intro u
    rcases u with ⟨u1, c, hc, u2⟩ | ⟨u1, u2, u3⟩
    · obtain ⟨i, hi⟩ := List.getElem?_of_mem hc
      have lt := lt_some hi
      exact Or.inl ⟨u1, i, by omega, use (by rw [u1]; decide) i, ((a3 i c hi).2.1 J).mpr u2⟩
    · refine Or.inr ⟨u1, ?_, fun i hi _ => ?_⟩
      · have : x.2.length ≠ 0 := fun e => u2 (List.length_eq_zero_iff.mp e)
        omega
      · have g := List.getElem?_eq_getElem (l := x.2) (i := i) (by omega)
        exact ((a3 i _ g).2.1 J).mpr (u3 _ (List.mem_of_getElem? g))
theorem ref_sv (hS : SvT M s T) (hG : GW M s) (k0 : mI M s 17 = 0) (hk : ∀ (k : Nat) (x : Int × List sc9), T[k]? = some x → x.1 = 0 → x.2 = []) (hg : gvQ M s 0 M') (hl : lokX M' s r) : svA9 T r := by
  obtain ⟨⟨ρ, t, o, f, g3⟩, g4⟩ := hg
  obtain ⟨e, w, hw, hr⟩ := hl
  have nS : ∀ y, y ≠ s + 36 → mI M' y = mI M y := fun y hy => f.2.2.2.2.2.2 y hy
  have es : mI M' s = mI M s := nS s (by omega)
  have e22 : mI M' (s + 22) = mI M (s + 22) := nS _ (by omega)
  have e23 : mI M' (s + 23) = mI M (s + 23) := nS _ (by omega)
  have e24 : mI M' (s + 24) = mI M (s + 24) := nS _ (by omega)
  have e32 : mI M' (s + 32) = mI M (s + 32) := nS _ (by omega)
  have len : (mI M' s 1).toNat = T.length := by rw [es, hS.1]; exact Int.toNat_natCast _
  rw [len] at hr
  have lt : ∀ (k : Nat) (x : Int × List sc9), T[k]? = some x → (k : Int) < mI M s 1 := fun k x hx => by
    have := lt_some hx
    rw [hS.1]
    omega
  have at9 : ∀ k : Nat, (k : Int) < mI M s 1 → ∃ x, T[k]? = some x := fun k hk => ⟨_, List.getElem?_eq_getElem (by rw [hS.1] at hk; omega)⟩
  have L : lsA9 T (fun k => (k : Int) < mI M s 1 ∧ mI M' (s + 36) k = 1) := by
    refine ⟨fun k x hx u => ⟨lt k x hx, ?_⟩, fun J' hc => rk_in ρ (fun k hJ => ?_) hc⟩
    · obtain ⟨b1, b2, b3⟩ := g3 k (lt k x hx)
      rcases b1 with y | y
      · exfalso
        rcases u with u | u
        · have := b2 (by rw [(hS.2 k x hx).1]; exact u)
          omega
        · refine g4 k (lt k x hx) y ((co_iff hS k0 hx).mpr (u.mono (fun j hj => ?_)))
          show mI M' (s + 36) j ≠ 0
          rw [hj.2]
          decide
      · exact y
    · obtain ⟨x, hx⟩ := at9 k hJ.1
      obtain ⟨b1, b2, b3⟩ := g3 k hJ.1
      refine ⟨x, hx, ?_⟩
      rcases (b3 hJ.2).2 with u | u
      · exact Or.inl (by rw [← (hS.2 k x hx).1]; exact u)
      · refine Or.inr ((co_iff hS k0 hx).mp (u.mono hG hJ.1 (fun j hj v => ⟨⟨hj, ?_⟩, v.2⟩)))
        have v1 : mI M' (s + 36) j ≠ 0 := v.1
        rcases (g3 j hj).1 with y | y
        · exact absurd y v1
        · exact y
  have uk : ∀ (k : Nat) (x : Int × List sc9), T[k]? = some x → (unk M' s k ↔ (((k : Int) < mI M s 1 ∧ mI M' (s + 36) k = 1) ∧ x.1 ≠ 3)) := fun k x hx => by
    have l := lt k x hx
    have b := (g3 k l).1
    unfold unk
    rw [e22, (hS.2 k x hx).1]
    constructor
    · intro u
      refine ⟨⟨l, ?_⟩, u.2⟩
      rcases b with y | y
      · exact absurd y u.1
      · exact y
    · intro u
      exact ⟨by rw [u.1.2]; decide, u.2⟩
  have U : unA9 T (fun k => (k : Int) < mI M s 1 ∧ mI M' (s + 36) k = 1) e := fun k x hx => by
    obtain ⟨c1, c2⟩ := hw k (by rw [es]; exact lt k x hx)
    exact ⟨fun u => (c1 ((uk k x hx).mpr u)).1, fun u => (c2 (fun v => u ((uk k x hx).mp v))).1⟩
  have Wt : ∀ (k : Nat) (x : Int × List sc9), T[k]? = some x → (e k = 1 → weA9 x (w k)) ∧ (e k = 0 → w k = 0) := fun k x hx => by
    obtain ⟨c1, c2⟩ := hw k (by rw [es]; exact lt k x hx)
    by_cases u : unk M' s k
    · obtain ⟨d1, D, v, d2, d3, d4, d5, d6⟩ := c1 u
      refine ⟨fun _ => ⟨D, v, ⟨d2, fun c hc => ?_, ?_⟩, d5, d6⟩, fun z => by omega⟩
      · obtain ⟨i, hi⟩ := List.getElem?_of_mem hc
        have li := lt_some hi
        obtain ⟨a1, a2, a3⟩ := hS.2 k x hx
        have q := d3 i (by unfold mny; rw [e23]; show (i : Int) < mny M s k; rw [a2]; omega) (Or.inl (by rw [es, k0, e22, a1]; exact fun z => absurd hc (by rw [hk k x hx z.symm]; exact List.not_mem_nil)))
        rw [e24, e23, (a3 i c hi).1] at q
        exact q
      · rcases d4 with y | ⟨i, y1, -, y2⟩
        · exact Or.inl y
        · obtain ⟨a1, a2, a3⟩ := hS.2 k x hx
          have y1' : (i : Int) < mny M s k := by unfold mny at y1; rw [e23] at y1; exact y1
          rw [a2] at y1'
          have g := List.getElem?_eq_getElem (l := x.2) (i := i) (by omega)
          refine Or.inr ⟨_, List.mem_of_getElem? g, ?_⟩
          rw [← (a3 i _ g).1, ← e24, ← e23]
          exact y2
    · obtain ⟨d1, d2⟩ := c2 u
      exact ⟨fun z => by omega, fun _ => d2⟩
  refine ⟨_, e, L, U, ?_⟩
  rcases hr with ⟨y1, y2⟩ | ⟨y1, y2, y3⟩ | ⟨y1, y2, y3⟩
  · exact Or.inl ⟨y1, y2⟩
  · exact Or.inr ⟨y1, w, Wt, Or.inl ⟨y2, y3⟩⟩
  · exact Or.inr ⟨y1, w, Wt, Or.inr ⟨y2, y3⟩⟩
end RSV
end
