/-! The reference's solver: its places, and which states come to the end. -/
/-- the places of the solver at s: nothing here changes when ints change -/
def Vk (M : mM) (s : Nat) : Prop := mK M s = 17 ∧ (mR M s 0 = s + 1 ∧ mR M s 4 = s + 22 ∧ mR M s 5 = s + 23 ∧ mR M s 6 = s + 24 ∧ mR M s 7 = s + 25 ∧ mR M s 8 = s + 26 ∧ mR M s 9 = s + 27 ∧ mR M s 10 = s + 28)
  ∧ (mR M s 11 = s + 29 ∧ mR M s 12 = s + 30 ∧ mR M s 13 = s + 31 ∧ mR M s 14 = s + 32 ∧ mR M s 15 = s + 33 ∧ mR M s 16 = s + 34 ∧ mR M s 18 = s + 35 ∧ mR M s 19 = s + 36 ∧ mR M s 20 = s + 37)
  ∧ (mR M s 21 = s + 38 ∧ mR M s 22 = s + 39 ∧ mR M s 23 = s + 40 ∧ mR M s 25 = s + 41 ∧ mR M s 26 = s + 42 ∧ mR M s 27 = s + 47 ∧ mR M s 28 = s + 52 ∧ mR M s 29 = s + 57 ∧ mR M s 30 = s + 62 ∧ mR M s 31 = s + 67)
  ∧ (mK M (s + 22) = 30 ∧ mK M (s + 23) = 30 ∧ mK M (s + 24) = 30 ∧ mK M (s + 25) = 30 ∧ mK M (s + 26) = 30 ∧ mK M (s + 27) = 30 ∧ mK M (s + 28) = 30)
  ∧ (mK M (s + 29) = 36 ∧ mK M (s + 30) = 31 ∧ mK M (s + 31) = 36 ∧ mK M (s + 32) = 30 ∧ mK M (s + 33) = 30 ∧ mK M (s + 34) = 30 ∧ mK M (s + 35) = 30 ∧ mK M (s + 36) = 31 ∧ mK M (s + 37) = 31 ∧ mK M (s + 38) = 36 ∧ mK M (s + 39) = 30 ∧ mK M (s + 40) = 30 ∧ mK M (s + 41) = 36 ∧ mK M (s + 67) = 30)
  ∧ (mN M (s + 22) = 513 ∧ mN M (s + 23) = 514 ∧ mN M (s + 24) = 4200 ∧ mN M (s + 25) = 4201 ∧ mN M (s + 26) = 4096 ∧ mN M (s + 27) = 4096 ∧ mN M (s + 28) = 4096)
  ∧ (mN M (s + 29) = 1536 ∧ mN M (s + 30) = 3 ∧ mN M (s + 31) = 512 ∧ mN M (s + 32) = 512 ∧ mN M (s + 33) = 512 ∧ mN M (s + 34) = 512 ∧ mN M (s + 35) = 512 ∧ mN M (s + 36) = 512 ∧ mN M (s + 37) = 512 ∧ mN M (s + 38) = 512 ∧ mN M (s + 39) = 40 ∧ mN M (s + 40) = 512 ∧ mN M (s + 41) = 1640 ∧ mN M (s + 67) = 400)
  ∧ (∀ i j, i < 512 → j < 3 → mR M (s + 29) (3 * i + j) = s + 68 + 25 * i + 5 * j) ∧ (∀ i, i < 512 → mR M (s + 31) i = s + 83 + 25 * i) ∧ (∀ i, i < 512 → mR M (s + 38) i = s + 88 + 25 * i) ∧ (∀ i, i < 1640 → mR M (s + 41) i = s + 12868 + 5 * i)
theorem Vk.fi {S : Nat → Prop} {M M' : mM} {s : Nat} (h : Vk M s) (f : FI S M M') : Vk M' s := by
  obtain ⟨f1, f2, f3, -⟩ := f
  unfold Vk at h ⊢
  rw [f1, f2, f3]
  exact h
theorem Vk.k0 {M : mM} {s : Nat} (h : Vk M s) : mK M s = 17 := h.1
theorem Vk.r0 {M : mM} {s : Nat} (h : Vk M s) : mR M s 0 = s + 1 := h.2.1.1
theorem Vk.r4 {M : mM} {s : Nat} (h : Vk M s) : mR M s 4 = s + 22 := h.2.1.2.1
theorem Vk.r5 {M : mM} {s : Nat} (h : Vk M s) : mR M s 5 = s + 23 := h.2.1.2.2.1
theorem Vk.r6 {M : mM} {s : Nat} (h : Vk M s) : mR M s 6 = s + 24 := h.2.1.2.2.2.1
theorem Vk.r7 {M : mM} {s : Nat} (h : Vk M s) : mR M s 7 = s + 25 := h.2.1.2.2.2.2.1
theorem Vk.r8 {M : mM} {s : Nat} (h : Vk M s) : mR M s 8 = s + 26 := h.2.1.2.2.2.2.2.1
theorem Vk.r9 {M : mM} {s : Nat} (h : Vk M s) : mR M s 9 = s + 27 := h.2.1.2.2.2.2.2.2.1
theorem Vk.r10 {M : mM} {s : Nat} (h : Vk M s) : mR M s 10 = s + 28 := h.2.1.2.2.2.2.2.2.2
theorem Vk.r11 {M : mM} {s : Nat} (h : Vk M s) : mR M s 11 = s + 29 := h.2.2.1.1
theorem Vk.r12 {M : mM} {s : Nat} (h : Vk M s) : mR M s 12 = s + 30 := h.2.2.1.2.1
theorem Vk.r13 {M : mM} {s : Nat} (h : Vk M s) : mR M s 13 = s + 31 := h.2.2.1.2.2.1
theorem Vk.r14 {M : mM} {s : Nat} (h : Vk M s) : mR M s 14 = s + 32 := h.2.2.1.2.2.2.1
theorem Vk.r15 {M : mM} {s : Nat} (h : Vk M s) : mR M s 15 = s + 33 := h.2.2.1.2.2.2.2.1
theorem Vk.r16 {M : mM} {s : Nat} (h : Vk M s) : mR M s 16 = s + 34 := h.2.2.1.2.2.2.2.2.1
theorem Vk.r18 {M : mM} {s : Nat} (h : Vk M s) : mR M s 18 = s + 35 := h.2.2.1.2.2.2.2.2.2.1
theorem Vk.r19 {M : mM} {s : Nat} (h : Vk M s) : mR M s 19 = s + 36 := h.2.2.1.2.2.2.2.2.2.2.1
theorem Vk.r20 {M : mM} {s : Nat} (h : Vk M s) : mR M s 20 = s + 37 := h.2.2.1.2.2.2.2.2.2.2.2
theorem Vk.r21 {M : mM} {s : Nat} (h : Vk M s) : mR M s 21 = s + 38 := h.2.2.2.1.1
theorem Vk.r22 {M : mM} {s : Nat} (h : Vk M s) : mR M s 22 = s + 39 := h.2.2.2.1.2.1
theorem Vk.r23 {M : mM} {s : Nat} (h : Vk M s) : mR M s 23 = s + 40 := h.2.2.2.1.2.2.1
theorem Vk.r25 {M : mM} {s : Nat} (h : Vk M s) : mR M s 25 = s + 41 := h.2.2.2.1.2.2.2.1
theorem Vk.r26 {M : mM} {s : Nat} (h : Vk M s) : mR M s 26 = s + 42 := h.2.2.2.1.2.2.2.2.1
theorem Vk.r27 {M : mM} {s : Nat} (h : Vk M s) : mR M s 27 = s + 47 := h.2.2.2.1.2.2.2.2.2.1
theorem Vk.r28 {M : mM} {s : Nat} (h : Vk M s) : mR M s 28 = s + 52 := h.2.2.2.1.2.2.2.2.2.2.1
theorem Vk.r29 {M : mM} {s : Nat} (h : Vk M s) : mR M s 29 = s + 57 := h.2.2.2.1.2.2.2.2.2.2.2.1
theorem Vk.r30 {M : mM} {s : Nat} (h : Vk M s) : mR M s 30 = s + 62 := h.2.2.2.1.2.2.2.2.2.2.2.2.1
theorem Vk.r31 {M : mM} {s : Nat} (h : Vk M s) : mR M s 31 = s + 67 := h.2.2.2.1.2.2.2.2.2.2.2.2.2
theorem Vk.k22 {M : mM} {s : Nat} (h : Vk M s) : mK M (s + 22) = 30 := h.2.2.2.2.1.1
theorem Vk.k23 {M : mM} {s : Nat} (h : Vk M s) : mK M (s + 23) = 30 := h.2.2.2.2.1.2.1
theorem Vk.k24 {M : mM} {s : Nat} (h : Vk M s) : mK M (s + 24) = 30 := h.2.2.2.2.1.2.2.1
theorem Vk.k25 {M : mM} {s : Nat} (h : Vk M s) : mK M (s + 25) = 30 := h.2.2.2.2.1.2.2.2.1
theorem Vk.k26 {M : mM} {s : Nat} (h : Vk M s) : mK M (s + 26) = 30 := h.2.2.2.2.1.2.2.2.2.1
theorem Vk.k27 {M : mM} {s : Nat} (h : Vk M s) : mK M (s + 27) = 30 := h.2.2.2.2.1.2.2.2.2.2.1
theorem Vk.k28 {M : mM} {s : Nat} (h : Vk M s) : mK M (s + 28) = 30 := h.2.2.2.2.1.2.2.2.2.2.2
theorem Vk.k29 {M : mM} {s : Nat} (h : Vk M s) : mK M (s + 29) = 36 := h.2.2.2.2.2.1.1
theorem Vk.k30 {M : mM} {s : Nat} (h : Vk M s) : mK M (s + 30) = 31 := h.2.2.2.2.2.1.2.1
theorem Vk.k31 {M : mM} {s : Nat} (h : Vk M s) : mK M (s + 31) = 36 := h.2.2.2.2.2.1.2.2.1
theorem Vk.k32 {M : mM} {s : Nat} (h : Vk M s) : mK M (s + 32) = 30 := h.2.2.2.2.2.1.2.2.2.1
theorem Vk.k33 {M : mM} {s : Nat} (h : Vk M s) : mK M (s + 33) = 30 := h.2.2.2.2.2.1.2.2.2.2.1
theorem Vk.k34 {M : mM} {s : Nat} (h : Vk M s) : mK M (s + 34) = 30 := h.2.2.2.2.2.1.2.2.2.2.2.1
theorem Vk.k35 {M : mM} {s : Nat} (h : Vk M s) : mK M (s + 35) = 30 := h.2.2.2.2.2.1.2.2.2.2.2.2.1
theorem Vk.k36 {M : mM} {s : Nat} (h : Vk M s) : mK M (s + 36) = 31 := h.2.2.2.2.2.1.2.2.2.2.2.2.2.1
theorem Vk.k38 {M : mM} {s : Nat} (h : Vk M s) : mK M (s + 38) = 36 := h.2.2.2.2.2.1.2.2.2.2.2.2.2.2.2.1
theorem Vk.k39 {M : mM} {s : Nat} (h : Vk M s) : mK M (s + 39) = 30 := h.2.2.2.2.2.1.2.2.2.2.2.2.2.2.2.2.1
theorem Vk.k40 {M : mM} {s : Nat} (h : Vk M s) : mK M (s + 40) = 30 := h.2.2.2.2.2.1.2.2.2.2.2.2.2.2.2.2.2.1
theorem Vk.k41 {M : mM} {s : Nat} (h : Vk M s) : mK M (s + 41) = 36 := h.2.2.2.2.2.1.2.2.2.2.2.2.2.2.2.2.2.2.1
theorem Vk.k67 {M : mM} {s : Nat} (h : Vk M s) : mK M (s + 67) = 30 := h.2.2.2.2.2.1.2.2.2.2.2.2.2.2.2.2.2.2.2
theorem Vk.n22 {M : mM} {s : Nat} (h : Vk M s) : mN M (s + 22) = 513 := h.2.2.2.2.2.2.1.1
theorem Vk.n23 {M : mM} {s : Nat} (h : Vk M s) : mN M (s + 23) = 514 := h.2.2.2.2.2.2.1.2.1
theorem Vk.n24 {M : mM} {s : Nat} (h : Vk M s) : mN M (s + 24) = 4200 := h.2.2.2.2.2.2.1.2.2.1
theorem Vk.n25 {M : mM} {s : Nat} (h : Vk M s) : mN M (s + 25) = 4201 := h.2.2.2.2.2.2.1.2.2.2.1
theorem Vk.n26 {M : mM} {s : Nat} (h : Vk M s) : mN M (s + 26) = 4096 := h.2.2.2.2.2.2.1.2.2.2.2.1
theorem Vk.n27 {M : mM} {s : Nat} (h : Vk M s) : mN M (s + 27) = 4096 := h.2.2.2.2.2.2.1.2.2.2.2.2.1
theorem Vk.n28 {M : mM} {s : Nat} (h : Vk M s) : mN M (s + 28) = 4096 := h.2.2.2.2.2.2.1.2.2.2.2.2.2
theorem Vk.n29 {M : mM} {s : Nat} (h : Vk M s) : mN M (s + 29) = 1536 := h.2.2.2.2.2.2.2.1.1
theorem Vk.n30 {M : mM} {s : Nat} (h : Vk M s) : mN M (s + 30) = 3 := h.2.2.2.2.2.2.2.1.2.1
theorem Vk.n31 {M : mM} {s : Nat} (h : Vk M s) : mN M (s + 31) = 512 := h.2.2.2.2.2.2.2.1.2.2.1
theorem Vk.n32 {M : mM} {s : Nat} (h : Vk M s) : mN M (s + 32) = 512 := h.2.2.2.2.2.2.2.1.2.2.2.1
theorem Vk.n33 {M : mM} {s : Nat} (h : Vk M s) : mN M (s + 33) = 512 := h.2.2.2.2.2.2.2.1.2.2.2.2.1
theorem Vk.n34 {M : mM} {s : Nat} (h : Vk M s) : mN M (s + 34) = 512 := h.2.2.2.2.2.2.2.1.2.2.2.2.2.1
theorem Vk.n35 {M : mM} {s : Nat} (h : Vk M s) : mN M (s + 35) = 512 := h.2.2.2.2.2.2.2.1.2.2.2.2.2.2.1
theorem Vk.n36 {M : mM} {s : Nat} (h : Vk M s) : mN M (s + 36) = 512 := h.2.2.2.2.2.2.2.1.2.2.2.2.2.2.2.1
theorem Vk.n37 {M : mM} {s : Nat} (h : Vk M s) : mN M (s + 37) = 512 := h.2.2.2.2.2.2.2.1.2.2.2.2.2.2.2.2.1
theorem Vk.n38 {M : mM} {s : Nat} (h : Vk M s) : mN M (s + 38) = 512 := h.2.2.2.2.2.2.2.1.2.2.2.2.2.2.2.2.2.1
theorem Vk.n39 {M : mM} {s : Nat} (h : Vk M s) : mN M (s + 39) = 40 := h.2.2.2.2.2.2.2.1.2.2.2.2.2.2.2.2.2.2.1
theorem Vk.n40 {M : mM} {s : Nat} (h : Vk M s) : mN M (s + 40) = 512 := h.2.2.2.2.2.2.2.1.2.2.2.2.2.2.2.2.2.2.2.1
theorem Vk.n41 {M : mM} {s : Nat} (h : Vk M s) : mN M (s + 41) = 1640 := h.2.2.2.2.2.2.2.1.2.2.2.2.2.2.2.2.2.2.2.2.1
theorem Vk.n67 {M : mM} {s : Nat} (h : Vk M s) : mN M (s + 67) = 400 := h.2.2.2.2.2.2.2.1.2.2.2.2.2.2.2.2.2.2.2.2.2
theorem Vk.f29 {M : mM} {s : Nat} (h : Vk M s) : ∀ i j, i < 512 → j < 3 → mR M (s + 29) (3 * i + j) = s + 68 + 25 * i + 5 * j := h.2.2.2.2.2.2.2.2.1
theorem Vk.f31 {M : mM} {s : Nat} (h : Vk M s) : ∀ i, i < 512 → mR M (s + 31) i = s + 83 + 25 * i := h.2.2.2.2.2.2.2.2.2.1
theorem Vk.f38 {M : mM} {s : Nat} (h : Vk M s) : ∀ i, i < 512 → mR M (s + 38) i = s + 88 + 25 * i := h.2.2.2.2.2.2.2.2.2.2.1
theorem Vk.f41 {M : mM} {s : Nat} (h : Vk M s) : ∀ i, i < 1640 → mR M (s + 41) i = s + 12868 + 5 * i := h.2.2.2.2.2.2.2.2.2.2.2
/-- the game told to the solver is sound -/
def GW (M : mM) (s : Nat) : Prop := 0 ≤ mI M s 1 ∧ mI M s 1 ≤ 512 ∧ mI M s 2 ≤ 4200 ∧ mI M s 3 ≤ 4096 ∧ mI M (s + 23) 0 = 0 ∧ mI M (s + 25) 0 = 0
  ∧ (∀ i j : Nat, i ≤ j → (j : Int) ≤ mI M s 1 → mI M (s + 23) i ≤ mI M (s + 23) j) ∧ mI M (s + 23) (mI M s 1).toNat = mI M s 2
  ∧ (∀ i j : Nat, i ≤ j → (j : Int) ≤ mI M s 2 → mI M (s + 25) i ≤ mI M (s + 25) j) ∧ mI M (s + 25) (mI M s 2).toNat = mI M s 3
  ∧ (∀ b : Nat, (b : Int) < mI M s 3 → 0 ≤ mI M (s + 26) b ∧ mI M (s + 26) b < mI M s 1)
theorem GW.out {S : Nat → Prop} {M M' : mM} {s : Nat} (h : GW M s) (f : FI S M M') (h0 : ¬ S s) (h1 : ∀ x, s + 23 ≤ x → x ≤ s + 26 → ¬ S x) : GW M' s := by
  obtain ⟨-, -, -, -, -, -, f⟩ := f
  unfold GW at h ⊢
  rw [f s h0, f (s + 23) (h1 _ (by omega) (by omega)), f (s + 25) (h1 _ (by omega) (by omega)), f (s + 26) (h1 _ (by omega) (by omega))]
  exact h
/-- where the commands of state i begin, and end -/
theorem GW.cmd {M : mM} {s : Nat} (h : GW M s) {i : Nat} (hi : (i : Int) < mI M s 1) : 0 ≤ mI M (s + 23) i ∧ mI M (s + 23) i ≤ mI M (s + 23) (i + 1) ∧ mI M (s + 23) (i + 1) ≤ mI M s 2 := by
  obtain ⟨h1, h2, h3, h4, h5, h6, h7, h8, -⟩ := h
  have a1 := h7 0 i (by omega) (by omega)
  have a2 := h7 i (i + 1) (by omega) (by omega)
  have a3 := h7 (i + 1) (mI M s 1).toNat (by omega) (by omega)
  omega
theorem GW.brn {M : mM} {s : Nat} (h : GW M s) {c : Nat} (hc : (c : Int) < mI M s 2) : 0 ≤ mI M (s + 25) c ∧ mI M (s + 25) c ≤ mI M (s + 25) (c + 1) ∧ mI M (s + 25) (c + 1) ≤ mI M s 3 := by
  obtain ⟨h1, h2, h3, h4, h5, h6, h7, h8, h9, h10, -⟩ := h
  have a1 := h9 0 c (by omega) (by omega)
  have a2 := h9 c (c + 1) (by omega) (by omega)
  have a3 := h9 (c + 1) (mI M s 2).toNat (by omega) (by omega)
  omega
/-- how many commands -/
def mny (M : mM) (s i : Nat) : Int := mI M (s + 23) (i + 1) - mI M (s + 23) i
def mayP (M : mM) (s i k : Nat) : Prop := mI M s 17 ≠ mI M (s + 22) i ∨ mI M (s + 32) i = k
def useP (M : mM) (s i k : Nat) (l : Int) : Prop := ((mI M (s + 22) i ≠ 1 ∨ l = 0) ∧ mayP M s i k) ∨ (¬ (mI M (s + 22) i ≠ 1 ∨ l = 0) ∧ mI M (s + 35) i = k)
/-- command k of state i may lead to a state in T -/
def leadQ (T : Nat → Prop) (M : mM) (s i k : Nat) : Prop := ∃ b : Nat, mI M (s + 25) ((mI M (s + 23) i).toNat + k) ≤ b ∧ (b : Int) < mI M (s + 25) ((mI M (s + 23) i).toNat + k + 1) ∧ T (mI M (s + 26) b).toNat
def comesQ (T : Nat → Prop) (M : mM) (s i : Nat) (l : Int) : Prop := (mI M (s + 22) i = 1 ∧ ∃ k : Nat, (k : Int) < mny M s i ∧ useP M s i k l ∧ leadQ T M s i k) ∨ (mI M (s + 22) i = 2 ∧ 0 < mny M s i ∧ ∀ k : Nat, (k : Int) < mny M s i → useP M s i k l → leadQ T M s i k)
abbrev mkd (M : mM) (s : Nat) : Nat → Prop := fun j => mI M (s + 36) j ≠ 0
section VS
variable {G : mG} {d s : Nat} {M : mM}
theorem s_MS_many {i : Nat} (hO : mOk M) (hV : Vk M s) (hG : GW M s) (hi : (i : Int) < mI M s 1) : Ci G y_MS_many d [vr s, vi i] M (fun x M' => M' = M ∧ x = mny M s i) := by
  have h2 := hG.2.1
  refine k_MS_many hO ⟨by omega, by omega⟩ ?_
  rw [hV.r5, hV.n23]
  refine ⟨hV.k0, hV.k23, by omega, by omega, rfl, ?_⟩
  rw [show ((i : Int) + 1).toNat = i + 1 by omega, Int.toNat_natCast]
  rfl
theorem s_MS_may {i k : Nat} (hk : (k : Int) < 100000) (hO : mOk M) (hV : Vk M s) (hG : GW M s) (hi : (i : Int) < mI M s 1) : Ci G y_MS_may d [vr s, vi i, vi k] M (fun x M' => M' = M ∧ (x = 0 ∨ x = 1) ∧ (x ≠ 0 ↔ mayP M s i k)) := by
  have h2 := hG.2.1
  refine k_MS_may hO ⟨by omega, by omega⟩ ⟨by omega, by omega⟩ ?_
  rw [hV.r4, hV.r14, hV.n22, hV.n32, Int.toNat_natCast]
  refine ⟨hV.k0, hV.k22, by omega, fun _ => ⟨hV.k32, by omega⟩, fun v hv => ⟨rfl, by split at hv <;> omega, ?_⟩⟩
  unfold mayP
  by_cases c : ¬ mI M s 17 = mI M (s + 22) i ∨ mI M (s + 32) i = k
  · rw [if_pos c] at hv
    exact ⟨fun _ => c, fun _ => by omega⟩
  · rw [if_neg c] at hv
    exact ⟨fun q => by omega, fun q => absurd q c⟩
theorem s_MS_leadsIn {i k : Nat} (hO : mOk M) (hV : Vk M s) (hG : GW M s) (hi : (i : Int) < mI M s 1) (hk : (k : Int) < mny M s i) : Ci G y_MS_leadsIn d [vr s, vi i, vi k] M (fun x M' => M' = M ∧ (x = 0 ∨ x = 1) ∧ (x ≠ 0 ↔ leadQ (mkd M s) M s i k)) := by
  have hc := hG.cmd hi
  unfold mny at hk
  have hb := hG.brn (c := (mI M (s + 23) i).toNat + k) (by omega)
  have h2 := hG.2.1
  have h3 := hG.2.2.1
  have h4 := hG.2.2.2.1
  have ht := hG.2.2.2.2.2.2.2.2.2.2
  refine k_MS_leadsIn hO ⟨by omega, by omega⟩ ⟨by omega, by omega⟩ ?_
  rw [hV.r5, hV.r7, hV.n23, hV.n25, Int.toNat_natCast]
  have ec : (mI M (s + 23) i + (k : Int)).toNat = (mI M (s + 23) i).toNat + k := by omega
  have ec1 : (mI M (s + 23) i + (k : Int) + 1).toNat = (mI M (s + 23) i).toNat + k + 1 := by omega
  rw [ec]
  refine ⟨hV.k0, hV.k23, by omega, hV.k25, by omega, ?_⟩
  suffices H : ∀ (n : Nat) (f l : Int), mI M (s + 25) ((mI M (s + 23) i).toNat + k + 1) - l = n → mI M (s + 25) ((mI M (s + 23) i).toNat + k) ≤ l → (f = 0 ∨ f = 1) → (f ≠ 0 ↔ ∃ b : Nat, mI M (s + 25) ((mI M (s + 23) i).toNat + k) ≤ b ∧ (b : Int) < l ∧ mkd M s (mI M (s + 26) b).toNat) → h_MS_leadsIn_20 G d s (mI M (s + 23) i + k) f l M (fun x M' => M' = M ∧ (x = 0 ∨ x = 1) ∧ (x ≠ 0 ↔ leadQ (mkd M s) M s i k)) from
    H _ 0 _ (Int.toNat_of_nonneg (by omega)).symm (by omega) (Or.inl rfl) ⟨fun q => absurd rfl q, fun ⟨b, b1, b2, _⟩ => by omega⟩
  intro n
  induction n with
  | zero =>
    intro f l hn hl hf hq
    refine k_MS_leadsIn_20 hO ⟨by omega, by omega⟩ ⟨by omega, by omega⟩ ⟨by omega, by omega⟩ ?_
    rw [hV.r7, hV.n25, ec1]
    refine ⟨hV.k0, hV.k25, by omega, fun _ => ⟨hf, rfl, hf, ?_⟩, fun c => by omega⟩
    rw [hq]
    unfold leadQ
    have e : l = mI M (s + 25) ((mI M (s + 23) i).toNat + k + 1) := by omega
    rw [e]
  | succ n ih =>
    intro f l hn hl hf hq
    have htl := ht l.toNat (by omega)
    refine k_MS_leadsIn_20 hO ⟨by omega, by omega⟩ ⟨by omega, by omega⟩ ⟨by omega, by omega⟩ ?_
    rw [hV.r7, hV.r8, hV.r19, hV.n25, hV.n26, hV.n36, ec1]
    refine ⟨hV.k0, hV.k25, by omega, fun c => by omega, fun _ => ⟨fun _ => ⟨hV.k26, by omega, hV.k36, by omega⟩, fun v hv => ih v (l + 1) (by omega) (by omega) (by split at hv <;> omega) ?_⟩⟩
    by_cases c : f = 0 ∧ mI M (s + 36) (mI M (s + 26) l.toNat).toNat = 0
    · rw [if_pos c] at hv
      refine ⟨fun q => by omega, fun ⟨b, b1, b2, b3⟩ => ?_⟩
      by_cases z : (b : Int) < l
      · exact absurd c.1 (hq.2 ⟨b, b1, z, b3⟩)
      · have : b = l.toNat := by omega
        rw [this] at b3
        exact absurd c.2 b3
    · rw [if_neg c] at hv
      refine ⟨fun _ => ?_, fun _ => by omega⟩
      by_cases z : f = 0
      · exact ⟨l.toNat, by omega, by omega, fun q => c ⟨z, q⟩⟩
      · obtain ⟨b, b1, b2, b3⟩ := hq.1 z
        exact ⟨b, b1, by omega, b3⟩
end VS
