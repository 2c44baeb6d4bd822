/-! The reference: rules are worked out in a state. -/
section REA
variable {G : mG} {d a g T R W C Z : Nat} {M M' M2 : mM} {E : Eg9} {tg : Int} {P S : Nat → Prop}
/-- the greatest common divisor -/
theorem s_MM_divisor2 {A B : Int} (hA : -9223372036854775807 ≤ A ∧ A ≤ 9223372036854775807) (hB : 0 < B ∧ i64 B) (hO : mOk M) : Cj G y_MM_divisor d [vl A, vl B] M (fun x M' => M' = M ∧ 1 ≤ x ∧ x ≤ B ∧ x ∣ A ∧ x ∣ B ∧ ∀ z : Int, z ∣ A → z ∣ B → z ∣ x) := by
  refine k_MM_divisor hO ⟨by omega, by omega⟩ hB.2 (fun v hv => ?_)
  have cz : ∀ z : Int, (0 ≤ cmpL z 0 ↔ 0 ≤ z) ∧ (cmpL z 0 ≤ 0 ↔ z ≤ 0) := fun z => by unfold cmpL; split <;> (try split) <;> omega
  have hv' : 0 ≤ v ∧ i64 v ∧ (∀ x : Int, x ∣ v → x ∣ A) ∧ (∀ x : Int, x ∣ A → x ∣ v) := by
    by_cases q : 0 ≤ A
    · rw [if_pos ((cz A).1.2 q)] at hv
      subst hv
      exact ⟨q, ⟨by omega, by omega⟩, fun x hx => hx, fun x hx => hx⟩
    · rw [if_neg (fun w => q ((cz A).1.1 w))] at hv
      subst hv
      exact ⟨by omega, ⟨by omega, by omega⟩, fun x hx => Int.dvd_neg.1 hx, fun x hx => Int.dvd_neg.2 hx⟩
  suffices H : ∀ (c : Nat) (x y : Int), y ≤ c → 0 ≤ y → 0 ≤ x → 0 < x + y → i64 x → i64 y → (y = 0 → x ≤ B) → y ≤ B → (∀ z : Int, z ∣ x → z ∣ y → z ∣ A ∧ z ∣ B) → (∀ z : Int, z ∣ A → z ∣ B → z ∣ x ∧ z ∣ y) → h_MM_divisor_17 G d x y M (fun x M' => M' = M ∧ 1 ≤ x ∧ x ≤ B ∧ x ∣ A ∧ x ∣ B ∧ ∀ z : Int, z ∣ A → z ∣ B → z ∣ x) from
    H B.toNat v B (by omega) (by omega) hv'.1 (by omega) hv'.2.1 hB.2 (by omega) (by omega) (fun z z1 z2 => ⟨hv'.2.2.1 z z1, z2⟩) (fun z z1 z2 => ⟨hv'.2.2.2 z z1, z2⟩)
  intro c
  induction c with
  | zero =>
    intro x y h1 h2 h3 h4 h5 h6 h7 h8 h9 h10
    have y0 : y = 0 := by omega
    refine k_MM_divisor_17 hO h5 h6 ⟨fun _ => ⟨rfl, by omega, h7 y0, ?_⟩, fun q => absurd ((cz y).2.2 (by omega)) q⟩
    have := h9 x (Int.dvd_refl x) (by rw [y0]; exact Int.dvd_zero x)
    exact ⟨this.1, this.2, fun z z1 z2 => (h10 z z1 z2).1⟩
  | succ c ih =>
    intro x y h1 h2 h3 h4 h5 h6 h7 h8 h9 h10
    refine k_MM_divisor_17 hO h5 h6 ⟨fun q => ?_, fun q => ?_⟩
    · have y0 : y = 0 := by have := (cz y).2.1 q; omega
      have := h9 x (Int.dvd_refl x) (by rw [y0]; exact Int.dvd_zero x)
      exact ⟨rfl, by omega, h7 y0, this.1, this.2, fun z z1 z2 => (h10 z z1 z2).1⟩
    · have yp : 0 < y := by
        by_cases w : y ≤ 0
        · exact absurd ((cz y).2.2 w) q
        · omega
      have e1 : Int.tmod x y = x % y := Int.tmod_eq_emod_of_nonneg h3
      have b1 := Int.emod_nonneg x (show y ≠ 0 by omega)
      have b2 := Int.emod_lt_of_pos x yp
      refine ⟨by omega, ?_⟩
      rw [e1]
      have em := Int.mul_ediv_add_emod x y
      refine ih y (x % y) (by omega) b1 (by omega) (by omega) h6 ⟨by omega, by have := h6.2; omega⟩ (fun _ => h8) (by omega) (fun z z1 z2 => h9 z ?_ z1) (fun z z1 z2 => ⟨(h10 z z1 z2).2, ?_⟩)
      · rw [← em]
        exact Int.dvd_add (Int.dvd_trans z1 (Int.dvd_mul_right y _)) z2
      · obtain ⟨k1, k2⟩ := h10 z z1 z2
        have : x % y = x - y * (x / y) := by omega
        rw [this]
        exact Int.dvd_sub k1 (Int.dvd_trans k2 (Int.dvd_mul_right y _))
/-- the game that is explored -/
def GG (M : mM) (a g T R W C Z : Nat) (E : Eg9) (tg : Int) : Prop := mOk M ∧ Wd M a ∧ (mR M a 9 = g ∧ (g = a + 13 ∨ g = a + 49)) ∧ nd M g T ∧ (T ≤ 16384 ∧ Z ≤ 16384) ∧ (mI M g 6 = R ∧ mI M g 12 = W ∧ mI M g 18 = C ∧ mI M g 17 = tg) ∧ (ln M (g + 30) = Z ∧ ln M (g + 32) = Z ∧ ln M (g + 34) = Z) ∧ Dg M g R W C Z T E tg ∧ 0 ≤ tg
/-- the game is untouched -/
def Gs (M M' : mM) (g : Nat) : Prop := mI M' g = mI M g ∧ (∀ i, 13 ≤ i → i ≤ 29 → mI M' (g + i) = mI M (g + i) ∧ mL M' (g + i) = mL M (g + i)) ∧ ∀ q, gL9 g q → sl M M' q
theorem GG.gs (h : GG M a g T R W C Z E tg) (o : mOk M') (w : Wd M' a) (r : mR M' a 9 = mR M a 9) (k : Gs M M' g) : GG M' a g T R W C Z E tg := by
  obtain ⟨-, -, ⟨h3, hg⟩, h4, h5, h6, h7, h8, h9⟩ := h
  obtain ⟨hI, hc, hl⟩ := k
  have G : Ge M g R W C Z T M' := ⟨⟨fun n _ => ⟨(hl (g + 1) (by first | exact tLk1 g | exact gLk1 g | omega)).2 n, (hl (g + 7) (by first | exact tLk7 g | exact gLk7 g | omega)).2 n, (hl (g + 9) (by first | exact tLk9 g | exact gLk9 g | omega)).2 n, (hl (g + 11) (by first | exact tLk11 g | exact gLk11 g | omega)).2 n, (hl (g + 3) (by first | exact tLk3 g | exact gLk3 g | omega)).2 n⟩, fun r _ => ⟨by rw [(hc 13 (by omega) (by omega)).1], by rw [(hc 14 (by omega) (by omega)).1]⟩, fun v _ => by rw [(hc 18 (by omega) (by omega)).1]⟩, fun r _ => ⟨by rw [(hc 15 (by omega) (by omega)).1], by rw [(hc 16 (by omega) (by omega)).2], by rw [(hc 17 (by omega) (by omega)).2]⟩, fun v _ => ⟨by rw [(hc 19 (by omega) (by omega)).1], by rw [(hc 20 (by omega) (by omega)).1], by rw [(hc 21 (by omega) (by omega)).1]⟩, fun c _ => ⟨by rw [(hc 24 (by omega) (by omega)).1], by rw [(hc 25 (by omega) (by omega)).1], fun b _ => ⟨by rw [(hc 26 (by omega) (by omega)).1], by rw [(hc 28 (by omega) (by omega)).1], by rw [(hc 29 (by omega) (by omega)).1], by rw [(hc 27 (by omega) (by omega)).1], by rw [(hc 22 (by omega) (by omega)).1], by rw [(hc 23 (by omega) (by omega)).1]⟩⟩, fun i _ => ⟨(hl (g + 30) (by first | exact gLk30 g | omega)).2 i, (hl (g + 34) (by first | exact gLk34 g | omega)).2 i, (hl (g + 32) (by first | exact gLk32 g | omega)).2 i⟩⟩
  refine ⟨o, w, ⟨r.trans h3, hg⟩, fun q hq => ?_, h5, by rw [hI]; exact h6, ⟨by rw [(hl (g + 30) (by first | exact gLk30 g | omega)).1]; exact h7.1, by rw [(hl (g + 32) (by first | exact gLk32 g | omega)).1]; exact h7.2.1, by rw [(hl (g + 34) (by first | exact gLk34 g | omega)).1]; exact h7.2.2⟩, h8.ge G, h9⟩
  have hq' : q = g + 1 ∨ q = g + 3 ∨ q = g + 5 ∨ q = g + 7 ∨ q = g + 9 ∨ q = g + 11 := hq
  rw [(hl q (by omega)).1]
  exact h4 q hq
theorem gs_st (w : Wd M a) (hg : g = a + 13 ∨ g = a + 49) (m : Mv P S M a M') (hin : ∀ q, P q → q ∈ nums a) (hP : ∀ q, P q → ¬ gL9 g q) (hS : ∀ x, S x → ¬ (x = g ∨ (g + 13 ≤ x ∧ x ≤ g + 29))) : Gs M M' g := by
  have fre : ∀ i, 13 ≤ i → i ≤ 29 → g + i < a + 21192 ∧ g + i ∉ nums a ∧ (∀ q, q ∈ nums a → g + i ≠ q + 1) := fun i i1 i2 => by
    have : i = 13 ∨ i = 14 ∨ i = 15 ∨ i = 16 ∨ i = 17 ∨ i = 18 ∨ i = 19 ∨ i = 20 ∨ i = 21 ∨ i = 22 ∨ i = 23 ∨ i = 24 ∨ i = 25 ∨ i = 26 ∨ i = 27 ∨ i = 28 ∨ i = 29 := by omega
    rcases this with y | y | y | y | y | y | y | y | y | y | y | y | y | y | y | y | y <;> subst y <;> exact goffx hg (by decide) (by decide)
  exact ⟨m.gI w hg hin (fun z => hS _ z (by omega)), fun i i1 i2 => m.cellL w hin (fre i i1 i2) (fun z => hS _ z (by omega)), fun q hq => (m.lst (gL9_in hg hq) (fun z => hP _ z hq)).sl⟩
/-- the variables stand in their ranges, and the formulas that are met have values -/
def En (M : mM) (a g R W : Nat) : Prop := (∀ r : Nat, r < R → mI M (g + 13) r ≠ 0 → mI M (a + 102) r ≠ 0 → vok (tn M g r) (mL M (a + 103) r) (mL M (a + 104) r)) ∧ ∀ v : Nat, v < W → mI M (g + 19) v ≤ mI M (a + 101) v ∧ mI M (a + 101) v ≤ mI M (g + 20) v
theorem GG.ev (h : GG M a g T R W C Z E tg) (k : En M a g R W) : Ev True M a g R W T := by
  obtain ⟨h1, h2, ⟨h3, hg⟩, h4, h5, h6, h7, h8, h9⟩ := h
  refine ⟨h1, h2, hg, h4, ⟨h8.1.1, h8.1.2.1, h5.1⟩, fun r hr => ⟨h8.2.1 r hr, fun _ => k.1 r hr⟩, fun _ v hv => ?_⟩
  obtain ⟨v1, v2, v3, v4, v5, v6⟩ := h8.2.2.2.1 v hv
  obtain ⟨k1, k2⟩ := k.2 v hv
  have e : tn M g (100 + (v : Int)) = mI M (g + 18) v := by
    unfold tn
    rw [if_pos (show (100 : Int) ≤ 100 + (v : Int) by omega), show (100 + (v : Int) - 100).toNat = v by omega]
    rcases v6 with y | y <;> rw [y] <;> rfl
  rw [e]
  rcases v6 with y | y
  · rw [y, if_pos rfl]
    exact Or.inl ⟨rfl, by omega, by omega, by omega, by omega⟩
  · have := v1 (by omega)
    rw [y, if_neg (by decide)]
    exact Or.inr ⟨rfl, by omega, rfl⟩
/-- a step of working out -/
abbrev xE (a : Nat) : Nat → Prop := fun x => x = a ∨ (a + 97 ≤ x ∧ x ≤ a + 98) ∨ (a + 102 ≤ x ∧ x ≤ a + 104) ∨ (a + 21188 ≤ x ∧ x ≤ a + 21190)
def xe (M : mM) (a : Nat) (M' : mM) : Prop := Mv (fun x => x = a + 99) (xE a) M a M' ∧ ∀ i, i ≠ 16 → i ≠ 17 → i ≠ 23 → mI M' a i = mI M a i
theorem xe.trans (h : xe M a M') (k : xe M' a M2) : xe M a M2 := ⟨h.1.trans k.1, fun i i1 i2 i3 => (k.2 i i1 i2 i3).trans (h.2 i i1 i2 i3)⟩
theorem xe.refl (o : mOk M) (w : Wd M a) : xe M a M := ⟨Mv.refl o w (lt99 w), fun _ _ _ _ => rfl⟩
theorem xe.mk (w : Wd M a) (m : Mv P S M a M') (hP : ∀ q, P q → q = a + 99) (hS : ∀ x, S x → xE a x) (hf : ∀ i, i ≠ 16 → i ≠ 17 → i ≠ 23 → mI M' a i = mI M a i) : xe M a M' := ⟨m.mono hP hS (lt99 w), hf⟩
theorem in99 : ∀ q, q = a + 99 → q ∈ nums a := fun q hq => by rw [hq]; exact n99
theorem xe.gs (h : xe M a M') (w : Wd M a) (hg : g = a + 13 ∨ g = a + 49) : Gs M M' g :=
  gs_st w hg h.1 in99 (fun q hq z => by
    have z' : q = g + 1 ∨ q = g + 3 ∨ q = g + 5 ∨ q = g + 7 ∨ q = g + 9 ∨ q = g + 11 ∨ q = g + 30 ∨ q = g + 32 ∨ q = g + 34 := z
    omega) (fun x hx => by
    have hx' : x = a ∨ (a + 97 ≤ x ∧ x ≤ a + 98) ∨ (a + 102 ≤ x ∧ x ≤ a + 104) ∨ (a + 21188 ≤ x ∧ x ≤ a + 21190) := hx
    omega)
theorem xe.gg (h : xe M a M') (k : GG M a g T R W C Z E tg) : GG M' a g T R W C Z E tg :=
  k.gs h.1.1 h.1.2.1 (by rw [h.1.rfl_a k.2.1 in99]) (h.gs k.2.1 k.2.2.1.2)
theorem gs_tn (h : Gs M M' g) : tn M' g = tn M g := by
  funext v
  unfold tn
  rw [(h.2.1 14 (by omega) (by omega)).1, (h.2.1 18 (by omega) (by omega)).1]
/-- working out itself -/
def xr (M : mM) (a : Nat) (M' : mM) : Prop := Mv (fun x => x = a + 99) (woS a) M a M' ∧ ∀ i, i ≠ 16 → i ≠ 17 → i ≠ 23 → mI M' a i = mI M a i
theorem xr.xe (h : xr M a M') (w : Wd M a) : xe M a M' := xe.mk w h.1 (fun q hq => hq) (fun x hx => by
    have hx' : x = a ∨ x = a + 97 ∨ x = a + 98 ∨ x = a + 102 ∨ x = a + 103 ∨ x = a + 104 := hx
    show x = a ∨ (a + 97 ≤ x ∧ x ≤ a + 98) ∨ (a + 102 ≤ x ∧ x ≤ a + 104) ∨ (a + 21188 ≤ x ∧ x ≤ a + 21190)
    omega) h.2
/-- a rule has been worked out in a state -/
def reQ (M : mM) (a g T R W C Z : Nat) (E : Eg9) (tg t : Int) (M' : mM) : Prop := xr M a M' ∧ GG M' a g T R W C Z E tg ∧ En M' a g R W ∧ (mI M' a 16 ≠ 0 ∨ (mI M' a 16 = 0 ∧ vok t (mL M' (a + 97) 0) (mL M' (a + 98) 0)))
end REA
