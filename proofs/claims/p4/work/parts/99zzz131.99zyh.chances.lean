/-! The reference: the chances of a command's branches. -/
section CHA
variable {G : mG} {d a g T R W C Z : Nat} {M M' M2 M3 : mM} {E : Nat → Nat} {tg : Int}
/-- working out goes on -/
def xg (M : mM) (a g T R W C Z : Nat) (E : Nat → Nat) (tg : Int) (M2 : mM) : Prop := xe M a M2 ∧ GG M2 a g T R W C Z E tg ∧ En M2 a g R W
theorem xg.tr (h : xg M a g T R W C Z E tg M2) (k : xg M2 a g T R W C Z E tg M3) : xg M a g T R W C Z E tg M3 := ⟨h.1.trans k.1, k.2⟩
/-- a step elsewhere -/
theorem xg.st {P S : Nat → Prop} (h : xg M a g T R W C Z E tg M2) (m : Mv P S M2 a M3) (hP : ∀ q, P q → q = a + 99) (hS : ∀ x, S x → x = a ∨ (a + 97 ≤ x ∧ x ≤ a + 98) ∨ (a + 21188 ≤ x ∧ x ≤ a + 21190)) (hf : ∀ i, i ≠ 16 → i ≠ 17 → i ≠ 23 → mI M3 a i = mI M2 a i) : xg M a g T R W C Z E tg M3 := by
  have w2 := h.2.1.2.1
  have hg := h.2.1.2.2.1.2
  have x : xe M2 a M3 := xe.mk w2 m hP (fun x hx => by
    have := hS x hx
    show x = a ∨ (a + 97 ≤ x ∧ x ≤ a + 98) ∨ (a + 102 ≤ x ∧ x ≤ a + 104) ∨ (a + 21188 ≤ x ∧ x ≤ a + 21190)
    omega) hf
  exact ⟨h.1.trans x, x.gg h.2.1, h.2.2.mv w2 m (fun q hq => in99 q (hP q hq)) (x.gs w2 hg) (fun x hx => by have := hS x hx; omega)⟩
theorem xg.stp {c p : Int} (h : xg M a g T R W C Z E tg M2) (q : Mv (fun _ => False) (fun x => x = a) M2 a M3 ∧ mI M3 a 16 = c ∧ mI M3 a 17 = p ∧ ∀ i, i ≠ 16 → i ≠ 17 → mI M3 a i = mI M2 a i) : xg M a g T R W C Z E tg M3 :=
  h.st q.1 (fun _ z => z.elim) (fun x z => Or.inl z) (fun i i1 i2 _ => q.2.2.2 i i1 i2)
/-- the first b chances are sound -/
def chk1 (M : mM) (a b : Nat) : Prop := ∀ b' : Nat, b' < b → 0 ≤ mL M (a + 21189) b' ∧ mL M (a + 21189) b' ≤ mL M (a + 21190) b' ∧ 1 ≤ mL M (a + 21190) b' ∧ mL M (a + 21190) b' < 1000000000
/-- the chances of a command -/
def chQ (M : mM) (a g T R W C Z : Nat) (E : Nat → Nat) (tg : Int) (nb : Nat) (x : Int) (M' : mM) : Prop := i64 x ∧ xg M a g T R W C Z E tg M' ∧ (mI M' a 16 ≠ 0 ∨ (mI M' a 16 = 0 ∧ chk1 M' a nb ∧ 1 ≤ x ∧ x < 1000000000 ∧ ∀ b' : Nat, b' < nb → mL M' (a + 21190) b' ∣ x))
theorem r4546 {Mx : mM} (w : Wd Mx a) : (mR Mx a 45 = a + 21189 ∧ mR Mx a 46 = a + 21190) ∧ (mK Mx (a + 21189) = 33 ∧ mN Mx (a + 21189) = 8) ∧ (mK Mx (a + 21190) = 33 ∧ mN Mx (a + 21190) = 8) :=
  ⟨⟨w.1.2.2.2.2.2.2.1.2.2.2.2.1, w.1.2.2.2.2.2.2.1.2.2.2.2.2.1⟩, w.1.2.2.2.2.2.2.2.2.2.1.2.2.2.2.1, w.1.2.2.2.2.2.2.2.2.2.1.2.2.2.2.2.1⟩
/-- the common multiple -/
theorem s_ch129 {c nb : Nat} {pl : Int} (hc : c < C) (ipl : i32 pl) (hnb : nb ≤ 8) : ∀ (t b : Nat) (j : Int) (M2 : mM), b + t = nb → xg M a g T R W C Z E tg M2 → mI M2 (g + 25) c = (nb : Int) → i64 j → (mI M2 a 16 = 0 → chk1 M2 a nb ∧ 1 ≤ j ∧ j < 1000000000 ∧ ∀ b' : Nat, b' < b → mL M2 (a + 21190) b' ∣ j) → h_MM_chances_129 G d a c pl j b M2 (fun x M' => i64 x ∧ mOk M' ∧ chQ M a g T R W C Z E tg nb x M') := by
  intro t
  induction t with
  | zero =>
    intro b j M2 hb h h25 ij hj
    have eb : b = nb := by omega
    subst eb
    have gg := h.2.1
    have w2 := gg.2.1
    have hg := gg.2.2.1.2
    have hBd := gg.2.2.2.2.2.2.2.1.1
    refine k_MM_chances_129 gg.1 (i32s (by omega) (by omega)) ipl ij (i32s (by omega) (by omega)) ⟨w2.1.1, ?_⟩
    rw [gg.2.2.1.1, show mR M2 g 22 = g + 25 from (w2.gp hg).2.2.1.2.2.2.2.2.2.2.1, Int.toNat_natCast, h25]
    have b60 : ((0 : Int) ≤ (c : Int) ∧ (c : Int) < ((60 : Nat) : Int)) := by omega
    refine ⟨(w2.gp hg).1, (w2.gp hg).2.2.2.2.2.2.2.2.1.1, by rw [(w2.gp hg).2.2.2.2.2.2.2.2.1.2]; exact b60, fun _ => ⟨ij, gg.1, ij, h, ?_⟩, fun q => absurd (Or.inl (Int.le_refl _)) q⟩
    by_cases z : mI M2 a 16 = 0
    · exact Or.inr ⟨z, hj z⟩
    · exact Or.inl z
  | succ t ih =>
    intro b j M2 hb h h25 ij hj
    have gg := h.2.1
    have w2 := gg.2.1
    have hg := gg.2.2.1.2
    have hBd := gg.2.2.2.2.2.2.2.1.1
    have b60 : ((0 : Int) ≤ (c : Int) ∧ (c : Int) < ((60 : Nat) : Int)) := by omega
    have b8 : ((0 : Int) ≤ (b : Int) ∧ (b : Int) < ((8 : Nat) : Int)) := by omega
    have ib : i32 (b : Int) := i32s (by omega) (by omega)
    have ic : i32 (c : Int) := i32s (by omega) (by omega)
    have hbn : b < nb := by omega
    refine k_MM_chances_129 gg.1 ic ipl ij ib ⟨w2.1.1, ?_⟩
    rw [gg.2.2.1.1, show mR M2 g 22 = g + 25 from (w2.gp hg).2.2.1.2.2.2.2.2.2.2.1, Int.toNat_natCast, h25, (r4546 w2).1.2, Int.toNat_natCast]
    refine ⟨(w2.gp hg).1, (w2.gp hg).2.2.2.2.2.2.2.2.1.1, by rw [(w2.gp hg).2.2.2.2.2.2.2.2.1.2]; exact b60, fun q => ⟨ij, gg.1, ij, h, Or.inl ?_⟩, fun q => ?_⟩
    · rcases q with q | q
      · omega
      · exact q
    have z2 : mI M2 a 16 = 0 := Classical.byContradiction (fun z => q (Or.inr z))
    obtain ⟨c1, j1, j2, j3⟩ := hj z2
    obtain ⟨e1, e2, e3, e4⟩ := c1 b hbn
    refine ⟨(r4546 w2).2.2.1, by rw [(r4546 w2).2.2.2]; exact b8, (s_MM_divisor2 (by omega) ⟨by omega, by omega, by omega⟩ gg.1).mono (fun x M3 h3 => ?_)⟩
    obtain ⟨em, x1, x2, ⟨u, hu⟩, ⟨v, hv⟩, -⟩ := h3
    subst em
    have xne : x ≠ 0 := by omega
    have td : Int.tdiv j x = u := by rw [hu]; exact Int.mul_tdiv_cancel_left u xne
    have u0 : 0 < u := by
      by_cases y : 0 < u
      · exact y
      · have := Int.mul_le_mul_of_nonneg_left (show u ≤ 0 by omega) (show 0 ≤ x by omega)
        rw [← hu] at this
        omega
    have u1 : u ≤ j := by
      have := Int.mul_le_mul_of_nonneg_right x1 (show 0 ≤ u by omega)
      rw [← hu] at this
      omega
    have pr : 0 ≤ u * mL M3 (a + 21190) b ∧ u * mL M3 (a + 21190) b ≤ 1000000000 * 1000000000 := ⟨Int.mul_nonneg (by omega) (by omega), Int.mul_le_mul (by omega) (by omega) (by omega) (by omega)⟩
    have p1 : 1 ≤ u * mL M3 (a + 21190) b := by
      have := Int.mul_le_mul (show 1 ≤ u by omega) e3 (by omega) (by omega)
      omega
    have ip : i64 (u * mL M3 (a + 21190) b) := ⟨by omega, by omega⟩
    have dv : ∀ b' : Nat, b' < b + 1 → mL M3 (a + 21190) b' ∣ u * mL M3 (a + 21190) b := fun b' hb' => by
      by_cases y : b' = b
      · rw [y]; exact Int.dvd_mul_left u _
      · refine Int.dvd_trans (j3 b' (by omega)) ?_
        rw [hu, hv, show u * (x * v) = x * u * v by rw [← Int.mul_assoc, Int.mul_comm u x]]
        exact Int.dvd_mul_right (x * u) v
    rw [(r4546 w2).1.2, td]
    refine ⟨⟨by omega, by omega⟩, gg.1, xne, w2.1.1, (r4546 w2).2.2.1, by rw [(r4546 w2).2.2.2]; exact b8, ip, fun q6 => ?_, fun q6 => ?_⟩
    · refine k_MM_chances_187 gg.1 ic ipl ip ib ?_
      rw [show (b : Int) + 1 = ((b + 1 : Nat) : Int) by omega]
      exact ih (b + 1) _ M3 (by omega) h h25 ip (fun _ => ⟨c1, p1, (cmpz _ _).2.2.1.1 q6, dv⟩)
    · refine (s_MM_stop ⟨by decide, by decide⟩ ipl gg.1 w2).mono (fun M4 h4 => ⟨h4.1.1, ?_⟩)
      have X4 := h.stp h4
      refine k_MM_chances_187 h4.1.1 ic ipl ip ib ?_
      rw [show (b : Int) + 1 = ((b + 1 : Nat) : Int) by omega]
      refine ih (b + 1) _ M4 (by omega) X4 ?_ ip (fun z => ?_)
      · have gs := gs_st (P := fun _ => False) (S := fun x => x = a) w2 hg h4.1 (fun _ z => z.elim) (fun _ z => z.elim) (fun x z => by omega)
        rw [(gs.2.1 25 (by omega) (by omega)).1]
        exact h25
      · rw [h4.2.1] at z
        exact absurd z (by decide)
end CHA
