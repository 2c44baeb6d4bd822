/-! The reference: a name is known. -/
section KN
variable {G : mG} {d a K : Nat} {M : mM}
abbrev knP (a : Nat) : Nat → Prop := fun x => x = a + 85 ∨ x = a + 87 ∨ x = a + 89
theorem knP_in {q : Nat} (h : knP a q) : q ∈ nums a := by
  rcases h with h | h | h
  · rw [h]; exact n85
  · rw [h]; exact n87
  · rw [h]; exact n89
theorem s_MM_know {u v x : Int} (hu : i32 u) (hv : i32 v) (hx : i32 x) (hO : mOk M) (h : Wd M a) (l1 : ln M (a + 85) = (K : Int)) (l2 : ln M (a + 87) = (K : Int)) (l3 : ln M (a + 89) = (K : Int)) (hK : K ≤ 1000) : Cv G y_MM_know (d + 1) [vr a, vi u, vi v, vi x] M (fun M' => mOk M' ∧ Mv (knP a) (fun _ => False) M a M' ∧ (ln M' (a + 85) = (K + 1 : Nat) ∧ ln M' (a + 87) = (K + 1 : Nat) ∧ ln M' (a + 89) = (K + 1 : Nat)) ∧ (∀ j, j < K → nt M' (a + 85) j = nt M (a + 85) j ∧ nt M' (a + 87) j = nt M (a + 87) j ∧ nt M' (a + 89) j = nt M (a + 89) j) ∧ nt M' (a + 85) K = u ∧ nt M' (a + 87) K = v ∧ nt M' (a + 89) K = x) := by
  have r13 : ∀ {M3 : mM}, Wd M3 a → mR M3 a 13 = a + 85 := fun w => w.1.2.2.2.2.1.1
  have r14 : ∀ {M3 : mM}, Wd M3 a → mR M3 a 14 = a + 87 := fun w => w.1.2.2.2.2.1.2.1
  have r15 : ∀ {M3 : mM}, Wd M3 a → mR M3 a 15 = a + 89 := fun w => w.1.2.2.2.2.1.2.2.1
  have lt : ∀ {M5 : mM}, Wd M5 a → ∀ q, knP a q → q < mZ M5 := fun w q hq => w.lt (knP_in hq)
  refine k_MM_know hO hu hv hx ?_
  rw [r13 h]
  refine ⟨h.1.1, (h.nu n85).1, (s_MN_add hu hO (h.nu n85) (by omega)).mono (fun M1 t => ?_)⟩
  have m1 := mv_add h n85 t
  have w1 := m1.2.1
  obtain ⟨-, -, -, a1, a2, a3, -⟩ := t
  rw [l1] at a1 a2 a3
  rw [Int.toNat_natCast] at a3
  have s17 := m1.lst (n87 (a := a)) (by omega)
  have s19 := m1.lst (n89 (a := a)) (by omega)
  rw [r14 w1]
  refine ⟨m1.1, w1.1.1, (w1.nu n87).1, (s_MN_add hv m1.1 (w1.nu n87) (by rw [s17.1]; omega)).mono (fun M2 t => ?_)⟩
  have m2 := mv_add w1 n87 t
  have w2 := m2.2.1
  obtain ⟨-, -, -, b1, b2, b3, -⟩ := t
  rw [s17.1, l2] at b1 b2 b3
  rw [Int.toNat_natCast] at b3
  have s25 := m2.lst (n85 (a := a)) (by omega)
  have s29 := m2.lst (n89 (a := a)) (by omega)
  rw [r15 w2]
  refine ⟨m2.1, w2.1.1, (w2.nu n89).1, (s_MN_add hx m2.1 (w2.nu n89) (by rw [s29.1, s19.1]; omega)).mono (fun M3 t => ?_)⟩
  have m3 := mv_add w2 n89 t
  obtain ⟨-, -, -, c1, c2, c3, -⟩ := t
  rw [s29.1, s19.1, l3] at c1 c2 c3
  rw [Int.toNat_natCast] at c3
  have s35 := m3.lst (n85 (a := a)) (by omega)
  have s37 := m3.lst (n87 (a := a)) (by omega)
  refine ⟨m3.1, m3.1, ((m1.mono (fun q hq => Or.inl hq) (fun _ z => z) (lt h)).trans (m2.mono (fun q hq => Or.inr (Or.inl hq)) (fun _ z => z) (lt w1))).trans (m3.mono (fun q hq => Or.inr (Or.inr hq)) (fun _ z => z) (lt w2)), ⟨by rw [s35.1, s25.1, a1]; omega, by rw [s37.1, b1]; omega, by rw [c1]; omega⟩, fun j hj => ⟨by rw [s35.2.1, s25.2.1, a2 j (by omega)], by rw [s37.2.1, b2 j (by omega), s17.2.1], by rw [c2 j (by omega), s29.2.1, s19.2.1]⟩, by rw [s35.2.1, s25.2.1]; exact a3, by rw [s37.2.1]; exact b3, c3⟩
end KN
