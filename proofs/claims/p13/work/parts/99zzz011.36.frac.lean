/-! The reference's fractions. -/
def Ft (M : mM) (f r : Nat) : Prop := Fk M f ∧ Wh M (f + 1) r ∧ Wh M (f + 3) r
abbrev fS (f : Nat) : Nat → Prop := fun x => f ≤ x ∧ x ≤ f + 4
theorem Fq.ft {M : mM} {f r : Nat} (h : Fq M f r) : Ft M f r := ⟨h.1, h.2.1.1, h.2.2.1.1⟩
theorem Ft.out {S : Nat → Prop} {M M' : mM} {f r : Nat} (h : Ft M f r) (k : FI S M M') (hs : ∀ x, S x → x < f ∨ f + 4 < x) : Ft M' f r :=
  ⟨h.1.fi k, h.2.1.out k (fun q => by have := hs _ q; omega), h.2.2.out k (fun q => by have := hs _ q; omega)⟩
theorem Fc.out {S : Nat → Prop} {M M' : mM} {f r : Nat} (c : Fc M f) (h : Fq M f r) (k : FI S M M') (hs : ∀ x, S x → x < f ∨ f + 4 < x) : Fc M' f := by
  have e := h.out k hs
  unfold Fc xn at c ⊢
  rw [e.2.2.2.1, e.2.2.2.2.1, e.2.2.2.2.2]
  exact c
theorem sn_zero {M : mM} {f : Nat} : sn M f = 0 ↔ wv M (f + 1) = 0 := by
  unfold sn
  split <;> omega
section FS
variable {G : mG} {d a b r rb : Nat} {M : mM}
theorem s_MF_isZero (hO : mOk M) (hA : Fq M a r) : Ci G y_MF_isZero (d + 1) [vr a] M (fun x M' => M' = M ∧ x = if sn M a = 0 then 1 else 0) := by
  refine k_MF_isZero hO ?_
  rw [hA.1.2.1]
  refine ⟨hA.1.1, hA.2.1.1.1, (s_MW_isZero hO hA.2.1.1).mono (fun x M1 h1 => ?_)⟩
  obtain ⟨e1, hx⟩ := h1
  subst e1
  have hz := hA.2.1.zero
  have hx' : x = if sn M1 a = 0 then 1 else 0 := by
    rw [hx]
    by_cases q : mI M1 (a + 1) 1 = 0
    · rw [if_pos q, if_pos (sn_zero.2 (hz.1 q))]
    · rw [if_neg q, if_neg (fun w => q (hz.2 (sn_zero.1 w)))]
  have h01 : x = 0 ∨ x = 1 := by split at hx' <;> omega
  exact ⟨⟨by omega, by omega⟩, hO, h01, rfl, hx'⟩
theorem s_MF_set {j k : Int} (hj : i64 j) (hj2 : -9223372036854775808 < j) (hk : i64 k) (hk0 : 0 < k) (hO : mOk M) (hA : Ft M a r) (hr : 3 ≤ r) : Cv G y_MF_set (d + 1) [vr a, vl j, vl k] M (fun M' => mOk M' ∧ FI (fS a) M M' ∧ Fq M' a r ∧ sn M' a = j ∧ sd M' a = k ∧ (j = 0 → mI M' a 2 = 0)) := by
  unfold i64 at hj hk
  refine k_MF_set hO hj hk (fun v hv => ⟨hA.1.1, fun M1 e1 w hw => ?_⟩)
  have hv' : v = if 0 ≤ j then 0 else 1 := by
    rw [hv]; unfold cmpL
    by_cases q : 0 ≤ j
    · rw [if_pos q, if_pos]; split <;> (try split) <;> omega
    · rw [if_neg q, if_neg]; split <;> (try split) <;> omega
  have hw' : w = if 0 ≤ j then j else -j := by
    rw [hw]; unfold cmpL
    by_cases q : 0 ≤ j
    · rw [if_pos q, if_pos]; split <;> (try split) <;> omega
    · rw [if_neg q, if_neg]; split <;> (try split) <;> omega
  have h01 : v = 0 ∨ v = 1 := by split at hv' <;> omega
  have f1 : FI (fun x => x = a) M M1 := by rw [e1]; exact FI.ui rfl
  have o1 : mOk M1 := by rw [e1]; exact mOk_UI hO ⟨by omega, by omega⟩
  have v1 : mI M1 a 2 = v := by rw [e1, mI_UI, if_pos ⟨rfl, rfl⟩]
  have A1 : Fk M1 a := hA.1.fi f1
  have t1 := hA.2.1.out f1 (by omega)
  have b1 := hA.2.2.out f1 (by omega)
  rw [A1.2.1]
  refine ⟨t1.1, (s_MW_set (by split at hw' <;> omega) (by split at hw' <;> omega) ⟨by split at hw' <;> omega, by split at hw' <;> omega⟩ o1 t1 hr).mono (fun M2 h2 => ?_)⟩
  obtain ⟨g1, g2, g3, g4⟩ := h2
  have A2 := A1.fi g2
  have b2 := b1.out g2 (by omega)
  refine ⟨g1, A2.1, ?_⟩
  rw [A2.2.2]
  refine ⟨b2.1, (s_MW_set (by omega) (by omega) hk g1 b2 hr).mono (fun M3 h3 => ?_)⟩
  obtain ⟨k1, k2, k3, k4⟩ := h3
  obtain ⟨t3, vt3⟩ := g3.out k2 (by omega) (by omega)
  have i3 : mI M3 a 2 = v := by rw [k2.2.2.2.2.2.2 a (by omega), g2.2.2.2.2.2.2 a (by omega)]; exact v1
  refine ⟨k1, k1, ((f1.mono (fun x q => by omega)).trans (g2.mono (fun x q => by omega))).trans (k2.mono (fun x q => by omega)), ⟨A2.fi k2, t3, k3, by rw [i3]; exact h01, by omega⟩, ?_, k4, fun q => ?_⟩
  · unfold sn
    rw [i3, vt3, g4, hv', hw']
    by_cases q : 0 ≤ j
    · simp [q]
    · simp [q]
  · rw [i3, hv', if_pos (by omega)]
theorem s_MF_copy (hO : mOk M) (hA : Ft M a r) (hB : Fq M b rb) (hne : a + 4 < b ∨ b + 4 < a) (z1 : mI M (b + 1) 1 ≤ r) (z2 : mI M (b + 3) 1 ≤ r) : Cv G y_MF_copy (d + 1) [vr a, vr b] M (fun M' => mOk M' ∧ FI (fS a) M M' ∧ Fq M' a r ∧ wv M' (a + 1) = wv M (b + 1) ∧ wv M' (a + 3) = wv M (b + 3) ∧ mI M' a 2 = mI M b 2) := by
  refine k_MF_copy hO ⟨hB.1.1, hA.1.1, hB.2.2.2.1, fun M1 e1 => ?_⟩
  have f1 : FI (fun x => x = a) M M1 := by rw [e1]; exact FI.ui rfl
  have h01 := hB.2.2.2.1
  have o1 : mOk M1 := by rw [e1]; exact mOk_UI hO ⟨by omega, by omega⟩
  have v1 : mI M1 a 2 = mI M b 2 := by rw [e1, mI_UI, if_pos ⟨rfl, rfl⟩]
  have A1 : Fk M1 a := hA.1.fi f1
  have B1 := hB.out f1 (fun x q => by omega)
  have t1 := hA.2.1.out f1 (by omega)
  have b1 := hA.2.2.out f1 (by omega)
  have e2 : mI M1 (b + 1) = mI M (b + 1) := f1.2.2.2.2.2.2 _ (by omega)
  have e3 : mI M1 (b + 3) = mI M (b + 3) := f1.2.2.2.2.2.2 _ (by omega)
  rw [A1.2.1, B1.1.1.2.1]
  refine ⟨t1.1, (s_MW_copy o1 t1 B1.1.2.1 (by omega) (by rw [e2]; exact z1)).mono (fun M2 h2 => ?_)⟩
  obtain ⟨g1, g2, g3, g4⟩ := h2
  have A2 := A1.fi g2
  have B2 := B1.1.out g2 (fun x q => by omega)
  have b2 := b1.out g2 (by omega)
  have e4 : mI M2 (b + 3) = mI M1 (b + 3) := g2.2.2.2.2.2.2 _ (by omega)
  refine ⟨g1, A2.1, B2.1.1.1, ?_⟩
  rw [A2.2.2, B2.1.1.2.2]
  refine ⟨b2.1, (s_MW_copy g1 b2 B2.1.2.2.1 (by omega) (by rw [e4, e3]; exact z2)).mono (fun M3 h3 => ?_)⟩
  obtain ⟨k1, k2, k3, k4⟩ := h3
  obtain ⟨t3, vt3⟩ := g3.out k2 (by omega) (by omega)
  have i3 : mI M3 a 2 = mI M b 2 := by rw [k2.2.2.2.2.2.2 a (by omega), g2.2.2.2.2.2.2 a (by omega)]; exact v1
  have eb : wv M3 (a + 3) = wv M (b + 3) := by rw [k4, B2.2.2.2.2.1, B1.2.2.2.2.1]
  refine ⟨k1, k1, ((f1.mono (fun x q => by omega)).trans (g2.mono (fun x q => by omega))).trans (k2.mono (fun x q => by omega)), ⟨A2.fi k2, t3, k3, by rw [i3]; exact h01, by rw [eb]; exact hB.2.2.2.2⟩, by rw [vt3, g4, B1.2.2.2.1], eb, i3⟩
end FS
