/-! The class's words: reserve, split, same. A frame with growth for the class. -/
section WO3
variable {G : mG} {d w T A B D N C k n : Nat} {M M' M1 M2 : mM} {S R S' R' : Nat → Prop}
/-- old cells keep kind, length and longs; references but in R, ints but in S -/
def FA (S R : Nat → Prop) (M M' : mM) : Prop := (mZ M ≤ mZ M' ∧ mS M ≤ mS M') ∧ ∀ x, x < mZ M → mK M' x = mK M x ∧ mN M' x = mN M x ∧ mL M' x = mL M x ∧ (¬ R x → mR M' x = mR M x) ∧ (¬ S x → mI M' x = mI M x)
theorem FA.refl : FA S R M M := ⟨⟨Nat.le_refl _, Nat.le_refl _⟩, fun _ _ => ⟨rfl, rfl, rfl, fun _ => rfl, fun _ => rfl⟩⟩
theorem FA.trans (h : FA S R M M1) (k : FA S R M1 M2) : FA S R M M2 := by
  obtain ⟨⟨h1, h2⟩, h3⟩ := h
  obtain ⟨⟨k1, k2⟩, k3⟩ := k
  refine ⟨⟨by omega, by omega⟩, fun x hx => ?_⟩
  obtain ⟨a1, a2, a3, a4, a5⟩ := h3 x hx
  obtain ⟨b1, b2, b3, b4, b5⟩ := k3 x (by omega)
  exact ⟨b1.trans a1, b2.trans a2, b3.trans a3, fun z => (b4 z).trans (a4 z), fun z => (b5 z).trans (a5 z)⟩
theorem FA.mono (h : FA S R M M1) (hS : ∀ x, x < mZ M → S x → S' x) (hR : ∀ x, x < mZ M → R x → R' x) : FA S' R' M M1 :=
  ⟨h.1, fun x hx => ⟨(h.2 x hx).1, (h.2 x hx).2.1, (h.2 x hx).2.2.1, fun z => (h.2 x hx).2.2.2.1 (fun y => z (hR x hx y)), fun z => (h.2 x hx).2.2.2.2 (fun y => z (hS x hx y))⟩⟩
/-- a frame of old cells, whatever happens to new ones -/
theorem FA.trans2 (h : FA S R M M1) (k : FA S' R' M1 M2) (hS : ∀ x, x < mZ M → S' x → S x) (hR : ∀ x, x < mZ M → R' x → R x) : FA S R M M2 := by
  obtain ⟨⟨h1, h2⟩, h3⟩ := h
  obtain ⟨⟨k1, k2⟩, k3⟩ := k
  refine ⟨⟨by omega, by omega⟩, fun x hx => ?_⟩
  obtain ⟨a1, a2, a3, a4, a5⟩ := h3 x hx
  obtain ⟨b1, b2, b3, b4, b5⟩ := k3 x (by omega)
  exact ⟨b1.trans a1, b2.trans a2, b3.trans a3, fun z => (b4 (fun y => z (hR x hx y))).trans (a4 z), fun z => (b5 (fun y => z (hS x hx y))).trans (a5 z)⟩
theorem FI.fa (f : FI S M M1) : FA S R M M1 := by
  obtain ⟨f1, f2, f3, f4, f5, f6, f7⟩ := f
  exact ⟨⟨by rw [f5]; exact Nat.le_refl _, by rw [f6]; exact Nat.le_refl _⟩, fun x _ => ⟨by rw [f1], by rw [f2], by rw [f4], fun _ => by rw [f3], fun z => f7 x z⟩⟩
theorem FA.new {k n c : Nat} (e : M1 = mNew M k n c) : FA S R M M1 := by
  subst e
  refine ⟨⟨by rw [mZ_New]; omega, by rw [mS_New]; omega⟩, fun x hx => ?_⟩
  have hne : x ≠ mZ M := by omega
  refine ⟨by rw [mK_New, if_neg hne], by rw [mN_New, if_neg hne], ?_, fun _ => ?_, fun _ => ?_⟩
  · funext j; rw [mL_New, if_neg hne]
  · funext j; rw [mR_New, if_neg hne]
  · funext j; rw [mI_New, if_neg hne]
theorem FA.ur {a j x : Nat} (ha : R a) (e : M1 = mUR M a j x) : FA S R M M1 := by
  subst e
  refine ⟨⟨Nat.le_refl _, Nat.le_refl _⟩, fun b _ => ⟨rfl, rfl, rfl, fun z => ?_, fun _ => rfl⟩⟩
  funext i
  rw [mR_UR, if_neg (fun q => z (by rw [q.1]; exact ha))]
/-- the words' arrays before a split -/
def WB (M : mM) (w A B D C : Nat) : Prop := mK M w = 2 ∧ (mR M w 3 = A ∧ mR M w 4 = B ∧ mR M w 5 = D) ∧ (mK M A = 30 ∧ mK M B = 30 ∧ mK M D = 30) ∧ (mN M A = C ∧ mN M B = C ∧ mN M D = C) ∧ (A ≠ B ∧ A ≠ D ∧ B ≠ D) ∧ (w < mZ M ∧ A < mZ M ∧ B < mZ M ∧ D < mZ M) ∧ 128 ≤ C ∧ C ≤ 40000
/-- how the arrays grew -/
def grw (M : mM) (A B D C : Nat) (M' : mM) (A' B' D' C' : Nat) : Prop := (A' = A ∧ B' = B ∧ D' = D ∧ C' = C ∧ mZ M' = mZ M ∧ mS M' = mS M) ∨ (A' = mZ M ∧ B' = mZ M + 1 ∧ D' = mZ M + 2 ∧ 2 * C ≤ C' ∧ mZ M' = mZ M + 3 ∧ mS M' = mS M + 3 * C')
theorem s_Wo_reserve {q : Nat} (hO : mOk M) (h : WB M w A B D C) (hq : q ≤ 16400) : Cv G y_Wo_reserve d [vr w, vi q] M (fun M' => ∃ A' B' D' C', mOk M' ∧ WB M' w A' B' D' C' ∧ q ≤ C' ∧ C' ≤ C + 2 * q ∧ FA (fun _ => False) (fun x => x = w) M M' ∧ (∀ i, i ≠ 3 → i ≠ 4 → i ≠ 5 → mR M' w i = mR M w i) ∧ grw M A B D C M' A' B' D' C') := by
  obtain ⟨h1, ⟨p3, p4, p5⟩, ⟨k3, k4, k5⟩, ⟨c3, c4, c5⟩, ⟨d1, d2, d3⟩, ⟨z0, z1, z2, z3⟩, b1, b2⟩ := id h
  refine k_Wo_reserve hO ⟨by omega, by omega⟩ ?_
  rw [p3, c3]
  refine ⟨h1, k3, ?_⟩
  have pw : ∀ i, i ≤ 8 → 128 * 2 ^ i ≤ 128 * 2 ^ 8 := by decide
  suffices H : ∀ (t i l : Nat), 8 ≤ i + t → i ≤ 8 → 128 * 2 ^ i ≤ l → ((i = 0 ∧ l = C) ∨ (2 * C ≤ l ∧ l ≤ 2 * q)) → h_Wo_reserve_8 G d w q l i M (fun M' => ∃ A' B' D' C', mOk M' ∧ WB M' w A' B' D' C' ∧ q ≤ C' ∧ C' ≤ C + 2 * q ∧ FA (fun _ => False) (fun x => x = w) M M' ∧ (∀ i, i ≠ 3 → i ≠ 4 → i ≠ 5 → mR M' w i = mR M w i) ∧ grw M A B D C M' A' B' D' C') from H 8 0 C (by omega) (by omega) (by simpa using b1) (Or.inl ⟨rfl, rfl⟩)
  -- the end
  have fin : ∀ {l : Nat}, q ≤ l → (l = C ∨ (2 * C ≤ l ∧ l ≤ 2 * q)) → mK M w = 2 ∧ mK M (mR M w 3) = 30 ∧ i32 (mN M (mR M w 3) : Int) ∧ (((l : Int) ≤ (mN M (mR M w 3) : Int)) → (∃ A' B' D' C', mOk M ∧ WB M w A' B' D' C' ∧ q ≤ C' ∧ C' ≤ C + 2 * q ∧ FA (fun _ => False) (fun x => x = w) M M ∧ (∀ i, i ≠ 3 → i ≠ 4 → i ≠ 5 → mR M w i = mR M w i) ∧ grw M A B D C M A' B' D' C')) ∧ (¬ ((l : Int) ≤ (mN M (mR M w 3) : Int)) → (((0 : Int) ≤ l ∧ (l : Int) ≤ 16777216) ∧ ∀ M16, M16 = mNew M 30 (Int.toNat l) (Int.toNat l) → mK M16 w = 2 ∧ ∀ M19, M19 = mUR M16 w 3 (mZ M) → ((0 : Int) ≤ l ∧ (l : Int) ≤ 16777216) ∧ ∀ M22, M22 = mNew M19 30 (Int.toNat l) (Int.toNat l) → mK M22 w = 2 ∧ ∀ M25, M25 = mUR M22 w 4 (mZ M19) → ((0 : Int) ≤ l ∧ (l : Int) ≤ 16777216) ∧ ∀ M28, M28 = mNew M25 30 (Int.toNat l) (Int.toNat l) → mK M28 w = 2 ∧ ∀ M31, M31 = mUR M28 w 5 (mZ M25) → (∃ A' B' D' C', mOk M31 ∧ WB M31 w A' B' D' C' ∧ q ≤ C' ∧ C' ≤ C + 2 * q ∧ FA (fun _ => False) (fun x => x = w) M M31 ∧ (∀ i, i ≠ 3 → i ≠ 4 → i ≠ 5 → mR M31 w i = mR M w i) ∧ grw M A B D C M31 A' B' D' C'))) := fun {l} hl hd => by
    rw [p3, c3, Int.toNat_natCast]
    refine ⟨h1, k3, ⟨by omega, by omega⟩, fun y => ⟨A, B, D, C, hO, h, by omega, by omega, FA.refl, fun _ _ _ _ => rfl, Or.inl ⟨rfl, rfl, rfl, rfl, rfl, rfl⟩⟩, fun y => ⟨by omega, fun M16 e16 => ?_⟩⟩
    have ew : w ≠ mZ M := by omega
    have g16 : FA (fun _ => False) (fun x => x = w) M M16 := FA.new e16
    have Z16 : mZ M16 = mZ M + 1 := by rw [e16]; rfl
    refine ⟨by rw [(g16.2 w z0).1]; exact h1, fun M19 e19 => ⟨by omega, fun M22 e22 => ?_⟩⟩
    have g19 := g16.trans (FA.ur (S := fun _ => False) (R := fun x => x = w) rfl e19)
    have Z19 : mZ M19 = mZ M + 1 := by rw [e19]; exact Z16
    have g22 := g19.trans (FA.new (S := fun _ => False) (R := fun x => x = w) e22)
    have Z22 : mZ M22 = mZ M + 2 := by rw [e22, mZ_New, Z19]
    refine ⟨by rw [(g22.2 w z0).1]; exact h1, fun M25 e25 => ⟨by omega, fun M28 e28 => ?_⟩⟩
    have g25 := g22.trans (FA.ur (S := fun _ => False) (R := fun x => x = w) rfl e25)
    have Z25 : mZ M25 = mZ M + 2 := by rw [e25]; exact Z22
    have g28 := g25.trans (FA.new (S := fun _ => False) (R := fun x => x = w) e28)
    have Z28 : mZ M28 = mZ M + 3 := by rw [e28, mZ_New, Z25]
    refine ⟨by rw [(g28.2 w z0).1]; exact h1, fun M31 e31 => ?_⟩
    have g31 := g28.trans (FA.ur (S := fun _ => False) (R := fun x => x = w) rfl e31)
    have Z31 : mZ M31 = mZ M + 3 := by rw [e31]; exact Z28
    have S31 : mS M31 = mS M + 3 * l := by
      rw [e31, mS_UR, e28, mS_New, e25, mS_UR, e22, mS_New, e19, mS_UR, e16, mS_New]
      omega
    have K31 : ∀ x, mK M31 x = if x = mZ M + 2 then 30 else if x = mZ M + 1 then 30 else if x = mZ M then 30 else mK M x := fun x => by
      rw [e31, mK_UR, e28, mK_New, Z25, e25, mK_UR, e22, mK_New, Z19, e19, mK_UR, e16, mK_New]
    have N31 : ∀ x, mN M31 x = if x = mZ M + 2 then l else if x = mZ M + 1 then l else if x = mZ M then l else mN M x := fun x => by
      rw [e31, mN_UR, e28, mN_New, Z25, e25, mN_UR, e22, mN_New, Z19, e19, mN_UR, e16, mN_New]
    have R31 : ∀ i, mR M31 w i = if i = 5 then mZ M + 2 else if i = 4 then mZ M + 1 else if i = 3 then mZ M else mR M w i := fun i => by
      rw [e31, mR_UR, Z25]
      by_cases y5 : i = 5
      · rw [if_pos ⟨rfl, y5⟩, if_pos y5]
      · rw [if_neg (fun z => y5 z.2), if_neg y5, e28, mR_New, if_neg (by omega), e25, mR_UR, Z19]
        by_cases y4 : i = 4
        · rw [if_pos ⟨rfl, y4⟩, if_pos y4]
        · rw [if_neg (fun z => y4 z.2), if_neg y4, e22, mR_New, if_neg (by omega), e19, mR_UR]
          by_cases y3 : i = 3
          · rw [if_pos ⟨rfl, y3⟩, if_pos y3]
          · rw [if_neg (fun z => y3 z.2), if_neg y3, e16, mR_New, if_neg ew]
    have o16 : mOk M16 := by rw [e16]; exact mOk_New hO
    have o19 : mOk M19 := by rw [e19]; exact mOk_UR o16
    have o22 : mOk M22 := by rw [e22]; exact mOk_New o19
    have o25 : mOk M25 := by rw [e25]; exact mOk_UR o22
    have o28 : mOk M28 := by rw [e28]; exact mOk_New o25
    have o31 : mOk M31 := by rw [e31]; exact mOk_UR o28
    have l2 : 2 * C ≤ l ∧ l ≤ 2 * q := by omega
    refine ⟨mZ M, mZ M + 1, mZ M + 2, l, o31, ⟨by rw [K31, if_neg (by omega), if_neg (by omega), if_neg ew]; exact h1, ⟨by rw [R31, if_neg (by decide), if_neg (by decide), if_pos rfl], by rw [R31, if_neg (by decide), if_pos rfl], by rw [R31, if_pos rfl]⟩, ⟨by rw [K31, if_neg (by omega), if_neg (by omega), if_pos rfl], by rw [K31, if_neg (by omega), if_pos rfl], by rw [K31, if_pos rfl]⟩, ⟨by rw [N31, if_neg (by omega), if_neg (by omega), if_pos rfl], by rw [N31, if_neg (by omega), if_pos rfl], by rw [N31, if_pos rfl]⟩, ⟨by omega, by omega, by omega⟩, ⟨by omega, by omega, by omega, by omega⟩, by omega, by omega⟩, hl, by omega, g31, fun i i3 i4 i5 => by rw [R31, if_neg i5, if_neg i4, if_neg i3], Or.inr ⟨rfl, rfl, rfl, l2.1, Z31, S31⟩⟩
  intro t
  induction t with
  | zero =>
    intro i l hi hi8 hl hd
    have i8 : i = 8 := by omega
    subst i8
    refine k_Wo_reserve_8 hO ⟨by omega, by omega⟩ ⟨by omega, by omega⟩ ⟨by omega, by omega⟩ ⟨fun y => fin (by omega) (by omega), fun y => absurd (Or.inr (by omega)) y⟩
  | succ t ih =>
    intro i l hi hi8 hl hd
    refine k_Wo_reserve_8 hO ⟨by omega, by omega⟩ ⟨by omega, by omega⟩ ⟨by omega, by omega⟩ ⟨fun y => fin (by omega) (by omega), fun y => ?_⟩
    have y1 : l < q := by omega
    by_cases e8 : i = 8
    · subst e8
      omega
    · have e2 : 128 * 2 ^ (i + 1) = 2 * (128 * 2 ^ i) := by rw [Nat.pow_succ]; omega
      have := ih (i + 1) (l * 2) (by omega) (by omega) (by omega) (Or.inr (by omega))
      rw [show ((l * 2 : Nat) : Int) = (l : Int) * 2 by omega, show ((i + 1 : Nat) : Int) = (i : Int) + 1 by omega] at this
      exact this
end WO3
