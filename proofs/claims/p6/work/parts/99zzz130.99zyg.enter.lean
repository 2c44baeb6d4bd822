section
/-! The reference: a state is entered. -/
section ENT
variable {G : mG} {d a g T R W C Z : Nat} {M M' : mM} {E : Nat → Nat} {tg : Int} {P S : Nat → Prop}
theorem En.mv (h : En M a g R W) (w : Wd M a) (m : Mv P S M a M') (hin : ∀ q, P q → q ∈ nums a) (gs : Gs M M' g) (hS : ∀ x, S x → ¬ (a + 101 ≤ x ∧ x ≤ a + 104)) : En M' a g R W := by
  have c101 := m.cellL w hin (offx (a := a) (o := 101) (by decide)) (fun z => hS _ z (by omega))
  have c102 := m.cellL w hin (offx (a := a) (o := 102) (by decide)) (fun z => hS _ z (by omega))
  have c103 := m.cellL w hin (offx (a := a) (o := 103) (by decide)) (fun z => hS _ z (by omega))
  have c104 := m.cellL w hin (offx (a := a) (o := 104) (by decide)) (fun z => hS _ z (by omega))
  unfold En
  rw [gs_tn gs, c101.1, c102.1, c103.2, c104.2, (gs.2.1 13 (by omega) (by omega)).1, (gs.2.1 19 (by omega) (by omega)).1, (gs.2.1 20 (by omega) (by omega)).1]
  exact h
theorem s_MM_enter {k : Nat} (h : GG M a g T R W C Z E tg) (hk : k < 512) (hv : ∀ v : Nat, v < W → mI M (g + 19) v ≤ mI M (a + 105) (12 * k + v) ∧ mI M (a + 105) (12 * k + v) ≤ mI M (g + 20) v) : Cv G y_MM_enter d [vr a, vi k] M (fun M' => mOk M' ∧ Mv (fun _ => False) (fun x => x = a + 101 ∨ x = a + 102) M a M' ∧ En M' a g R W) := by
  have hO := h.1
  have w := h.2.1
  have hg := h.2.2.1.2
  have hBd := h.2.2.2.2.2.2.2.1.1
  have g6 := h.2.2.2.2.2.1.1
  have g12 := h.2.2.2.2.2.1.2.1
  have r9 := h.2.2.1.1
  have ik : i32 (k : Int) := i32s (by omega) (by omega)
  have no : ∀ q : Nat, False → q ∈ nums a := fun _ z => z.elim
  have gsl : ∀ {Mx : mM}, Mv (fun _ => False) (fun x => x = a + 101 ∨ x = a + 102) M a Mx → Gs M Mx g := fun m => gs_st w hg m no (fun _ z => z.elim) (fun x hx => by omega)
  -- the formulas are forgotten
  have L2 : ∀ (c r : Nat) (M2 : mM), r + c = R → Mv (fun _ => False) (fun x => x = a + 101 ∨ x = a + 102) M a M2 → (∀ v : Nat, v < W → mI M2 (a + 101) v = mI M (a + 105) (12 * k + v)) → (∀ r' : Nat, r' < r → mI M2 (a + 102) r' = 0) → h_MM_enter_38 G d a r M2 (fun M' => mOk M' ∧ Mv (fun _ => False) (fun x => x = a + 101 ∨ x = a + 102) M a M' ∧ En M' a g R W) := by
    intro c
    induction c with
    | zero =>
      intro r M2 hr m2 n2 f2
      have er : r = R := by omega
      subst er
      have w2 := m2.2.1
      have gs := gsl m2
      refine k_MM_enter_38 m2.1 (i32s (by omega) (by omega)) ⟨w2.1.1, ?_⟩
      rw [m2.rfl_a w no, r9, gs.1, g6]
      refine ⟨(w2.gp hg).1, fun _ => ⟨m2.1, m2, fun r hr _ q => absurd (f2 r hr) q, fun v hv' => ?_⟩, fun q => absurd (Int.le_refl _) q⟩
      rw [(gs.2.1 19 (by omega) (by omega)).1, (gs.2.1 20 (by omega) (by omega)).1, n2 v hv']
      exact hv v hv'
    | succ c ih =>
      intro r M2 hr m2 n2 f2
      have w2 := m2.2.1
      have gs := gsl m2
      have A2 : mK M2 (a + 102) = 31 ∧ mN M2 (a + 102) = 60 := w2.1.2.2.2.2.2.2.2.1.2.2.2.1
      refine k_MM_enter_38 m2.1 (i32s (by omega) (by omega)) ⟨w2.1.1, ?_⟩
      rw [show mR M2 a 26 = a + 102 from w2.1.2.2.2.2.1.2.2.2.2.2.2.2.2.2.2.1, m2.rfl_a w no, r9, gs.1, g6, Int.toNat_natCast]
      refine ⟨(w2.gp hg).1, fun q => absurd q (by omega), fun _ => ⟨A2.1, by rw [A2.2]; omega, fun M3 e3 => ?_⟩⟩
      obtain ⟨m3, f3, l3⟩ := mv_cell (v := 0) ⟨by decide, by decide⟩ m2.1 w2 (show a ≤ a + 102 by omega) (offx (a := a) (o := 102) (by decide)) e3
      have nx := ih (r + 1) M3 (by omega) (m2.trans (m3.mono (fun _ z => z.elim) (fun x z => Or.inr z) (fun _ z => z.elim))) (fun v hv' => by rw [f3, if_neg (fun z => by omega)]; exact n2 v hv') (fun r' hr' => ?_)
      · rw [show ((r + 1 : Nat) : Int) = (r : Int) + 1 by omega] at nx
        exact nx
      · rw [f3]
        by_cases z : r' = r
        · rw [if_pos ⟨rfl, z⟩]
        · rw [if_neg (fun y => z y.2)]
          exact f2 r' (by omega)
  refine k_MM_enter hO ik ?_
  suffices L1 : ∀ (c v : Nat) (M2 : mM), v + c = W → Mv (fun _ => False) (fun x => x = a + 101 ∨ x = a + 102) M a M2 → mI M2 (a + 105) = mI M (a + 105) → (∀ v' : Nat, v' < v → mI M2 (a + 101) v' = mI M (a + 105) (12 * k + v')) → h_MM_enter_2 G d a k v M2 (fun M' => mOk M' ∧ Mv (fun _ => False) (fun x => x = a + 101 ∨ x = a + 102) M a M' ∧ En M' a g R W) from L1 W 0 M (by omega) (Mv.refl hO w (fun _ z => z.elim)) rfl (fun v hv' => absurd hv' (by omega))
  intro c
  induction c with
  | zero =>
    intro v M2 hc m2 e105 n2
    have ev : v = W := by omega
    subst ev
    have w2 := m2.2.1
    have gs := gsl m2
    refine k_MM_enter_2 m2.1 ik (i32s (by omega) (by omega)) ⟨w2.1.1, ?_⟩
    rw [m2.rfl_a w no, r9, gs.1, g12]
    exact ⟨(w2.gp hg).1, fun _ => L2 R 0 M2 (by omega) m2 n2 (fun r hr => absurd hr (by omega)), fun q => absurd (Int.le_refl _) q⟩
  | succ c ih =>
    intro v M2 hc m2 e105 n2
    have w2 := m2.2.1
    have gs := gsl m2
    have A1 : mK M2 (a + 101) = 30 ∧ mN M2 (a + 101) = 12 := w2.1.2.2.2.2.2.2.2.1.2.2.1
    have A5 : mK M2 (a + 105) = 30 ∧ mN M2 (a + 105) = 6144 := w2.1.2.2.2.2.2.2.2.2.1.1
    have r31 : mR M2 a 31 = a + 105 := w2.1.2.2.2.2.2.1.1
    have r25 : mR M2 a 25 = a + 101 := w2.1.2.2.2.2.1.2.2.2.2.2.2.2.2.2.1
    have e9 : mR M2 a 9 = g := by rw [m2.rfl_a w no]; exact r9
    refine k_MM_enter_2 m2.1 ik (i32s (by omega) (by omega)) ⟨w2.1.1, ?_⟩
    rw [r31, r25, e9, gs.1, g12, Int.toNat_natCast, show 12 * (k : Int) + (v : Int) = ((12 * k + v : Nat) : Int) by omega, Int.toNat_natCast, e105]
    refine ⟨(w2.gp hg).1, fun q => absurd q (by omega), fun _ => ⟨A5.1, by rw [A5.2]; omega, A1.1, by rw [A1.2]; omega, fun M3 e3 => ?_⟩⟩
    obtain ⟨m3, f3, l3⟩ := mv_cell (hO _ _).1 m2.1 w2 (show a ≤ a + 101 by omega) (offx (a := a) (o := 101) (by decide)) e3
    have nx := ih (v + 1) M3 (by omega) (m2.trans (m3.mono (fun _ z => z.elim) (fun x z => Or.inl z) (fun _ z => z.elim))) (by rw [← e105]; exact m3.cell w2 no (by omega) (offx (a := a) (o := 105) (by decide)).2.1 (offx (a := a) (o := 105) (by decide)).2.2 (by omega)) (fun v' hv' => ?_)
    · rw [show ((v + 1 : Nat) : Int) = (v : Int) + 1 by omega] at nx
      exact nx
    · rw [f3]
      by_cases z : v' = v
      · rw [if_pos ⟨rfl, z⟩, z]
      · rw [if_neg (fun y => z y.2)]
        exact n2 v' (by omega)
end ENT
end
section
/-! The reference: the chances of a command's branches. -/
section CHA
variable {G : mG} {d a g T R W C Z : Nat} {M M' M2 M3 : mM} {E : Nat → Nat} {tg : Int}
/-- working out goes on -/
def xg (M : mM) (a g T R W C Z : Nat) (E : Nat → Nat) (tg : Int) (M2 : mM) : Prop := xe M a M2 ∧ GG M2 a g T R W C Z E tg ∧ En M2 a g R W
theorem xg.tr (h : xg M a g T R W C Z E tg M2) (k : xg M2 a g T R W C Z E tg M3) : xg M a g T R W C Z E tg M3 := ⟨h.1.trans k.1, k.2⟩
/-- a step elsewhere -/
theorem xg.st {P S : Nat → Prop} (h : xg M a g T R W C Z E tg M2) (m : Mv P S M2 a M3) (hP : ∀ q, P q → q = a + 99) (hS : ∀ x, S x → x = a ∨ (a + 97 ≤ x ∧ x ≤ a + 98) ∨ (a + 21188 ≤ x ∧ x ≤ a + 21190)) (hf : ∀ i, i ≠ 16 → i ≠ 17 → i ≠ 23 → mI M3 a i = mI M2 a i) : xg M a g T R W C Z E tg M3 := by
  have w2 := h.2.1.2.1
  have hg := h.2.1.2.2.1.2
  have x : xe M2 a M3 := xe.mk w2 m hP (fun x hx => by
    have := hS x hx
    show x = a ∨ (a + 97 ≤ x ∧ x ≤ a + 98) ∨ (a + 102 ≤ x ∧ x ≤ a + 104) ∨ (a + 21188 ≤ x ∧ x ≤ a + 21190)
    omega) hf
  exact ⟨h.1.trans x, x.gg h.2.1, h.2.2.mv w2 m (fun q hq => in99 q (hP q hq)) (x.gs w2 hg) (fun x hx => by have := hS x hx; omega)⟩
theorem xg.stp {c p : Int} (h : xg M a g T R W C Z E tg M2) (q : Mv (fun _ => False) (fun x => x = a) M2 a M3 ∧ mI M3 a 16 = c ∧ mI M3 a 17 = p ∧ ∀ i, i ≠ 16 → i ≠ 17 → mI M3 a i = mI M2 a i) : xg M a g T R W C Z E tg M3 :=
  h.st q.1 (fun _ z => z.elim) (fun x z => Or.inl z) (fun i i1 i2 _ => q.2.2.2 i i1 i2)
/-- the first b chances are sound -/
def chk1 (M : mM) (a b : Nat) : Prop := ∀ b' : Nat, b' < b → 0 ≤ mL M (a + 21189) b' ∧ mL M (a + 21189) b' ≤ mL M (a + 21190) b' ∧ 1 ≤ mL M (a + 21190) b' ∧ mL M (a + 21190) b' < 1000000000
/-- the chances of a command -/
def chQ (M : mM) (a g T R W C Z : Nat) (E : Nat → Nat) (tg : Int) (nb : Nat) (x : Int) (M' : mM) : Prop := i64 x ∧ xg M a g T R W C Z E tg M' ∧ (mI M' a 16 ≠ 0 ∨ (mI M' a 16 = 0 ∧ chk1 M' a nb ∧ 1 ≤ x ∧ x < 1000000000 ∧ ∀ b' : Nat, b' < nb → mL M' (a + 21190) b' ∣ x))
theorem r4546 {Mx : mM} (w : Wd Mx a) : (mR Mx a 45 = a + 21189 ∧ mR Mx a 46 = a + 21190) ∧ (mK Mx (a + 21189) = 33 ∧ mN Mx (a + 21189) = 8) ∧ (mK Mx (a + 21190) = 33 ∧ mN Mx (a + 21190) = 8) :=
  ⟨⟨w.1.2.2.2.2.2.2.1.2.2.2.2.1, w.1.2.2.2.2.2.2.1.2.2.2.2.2.1⟩, w.1.2.2.2.2.2.2.2.2.2.1.2.2.2.2.1, w.1.2.2.2.2.2.2.2.2.2.1.2.2.2.2.2.1⟩
/-- the common multiple -/
theorem s_ch129 {c nb : Nat} {pl : Int} (hc : c < C) (ipl : i32 pl) (hnb : nb ≤ 8) : ∀ (t b : Nat) (j : Int) (M2 : mM), b + t = nb → xg M a g T R W C Z E tg M2 → mI M2 (g + 25) c = (nb : Int) → i64 j → (mI M2 a 16 = 0 → chk1 M2 a nb ∧ 1 ≤ j ∧ j < 1000000000 ∧ ∀ b' : Nat, b' < b → mL M2 (a + 21190) b' ∣ j) → h_MM_chances_129 G d a c pl j b M2 (fun x M' => i64 x ∧ mOk M' ∧ chQ M a g T R W C Z E tg nb x M') := by
  intro t
  induction t with
  | zero =>
    intro b j M2 hb h h25 ij hj
    have eb : b = nb := by omega
    subst eb
    have gg := h.2.1
    have w2 := gg.2.1
    have hg := gg.2.2.1.2
    have hBd := gg.2.2.2.2.2.2.2.1.1
    refine k_MM_chances_129 gg.1 (i32s (by omega) (by omega)) ipl ij (i32s (by omega) (by omega)) ⟨w2.1.1, ?_⟩
    rw [gg.2.2.1.1, show mR M2 g 22 = g + 25 from (w2.gp hg).2.2.1.2.2.2.2.2.2.2.1, Int.toNat_natCast, h25]
    have b60 : ((0 : Int) ≤ (c : Int) ∧ (c : Int) < ((60 : Nat) : Int)) := by omega
    refine ⟨(w2.gp hg).1, (w2.gp hg).2.2.2.2.2.2.2.2.1.1, by rw [(w2.gp hg).2.2.2.2.2.2.2.2.1.2]; exact b60, fun _ => ⟨ij, gg.1, ij, h, ?_⟩, fun q => absurd (Or.inl (Int.le_refl _)) q⟩
    by_cases z : mI M2 a 16 = 0
    · exact Or.inr ⟨z, hj z⟩
    · exact Or.inl z
  | succ t ih =>
    intro b j M2 hb h h25 ij hj
    have gg := h.2.1
    have w2 := gg.2.1
    have hg := gg.2.2.1.2
    have hBd := gg.2.2.2.2.2.2.2.1.1
    have b60 : ((0 : Int) ≤ (c : Int) ∧ (c : Int) < ((60 : Nat) : Int)) := by omega
    have b8 : ((0 : Int) ≤ (b : Int) ∧ (b : Int) < ((8 : Nat) : Int)) := by omega
    have ib : i32 (b : Int) := i32s (by omega) (by omega)
    have ic : i32 (c : Int) := i32s (by omega) (by omega)
    have hbn : b < nb := by omega
    refine k_MM_chances_129 gg.1 ic ipl ij ib ⟨w2.1.1, ?_⟩
    rw [gg.2.2.1.1, show mR M2 g 22 = g + 25 from (w2.gp hg).2.2.1.2.2.2.2.2.2.2.1, Int.toNat_natCast, h25, (r4546 w2).1.2, Int.toNat_natCast]
    refine ⟨(w2.gp hg).1, (w2.gp hg).2.2.2.2.2.2.2.2.1.1, by rw [(w2.gp hg).2.2.2.2.2.2.2.2.1.2]; exact b60, fun q => ⟨ij, gg.1, ij, h, Or.inl ?_⟩, fun q => ?_⟩
    · rcases q with q | q
      · omega
      · exact q
    have z2 : mI M2 a 16 = 0 := Classical.byContradiction (fun z => q (Or.inr z))
    obtain ⟨c1, j1, j2, j3⟩ := hj z2
    obtain ⟨e1, e2, e3, e4⟩ := c1 b hbn
    refine ⟨(r4546 w2).2.2.1, by rw [(r4546 w2).2.2.2]; exact b8, (s_MM_divisor2 (by omega) ⟨by omega, by omega, by omega⟩ gg.1).mono (fun x M3 h3 => ?_)⟩
    obtain ⟨em, x1, x2, ⟨u, hu⟩, ⟨v, hv⟩, -⟩ := h3
    subst em
    have xne : x ≠ 0 := by omega
    have td : Int.tdiv j x = u := by rw [hu]; exact Int.mul_tdiv_cancel_left u xne
    have u0 : 0 < u := by
      by_cases y : 0 < u
      · exact y
      · have := Int.mul_le_mul_of_nonneg_left (show u ≤ 0 by omega) (show 0 ≤ x by omega)
        rw [← hu] at this
        omega
    have u1 : u ≤ j := by
      have := Int.mul_le_mul_of_nonneg_right x1 (show 0 ≤ u by omega)
      rw [← hu] at this
      omega
    have pr : 0 ≤ u * mL M3 (a + 21190) b ∧ u * mL M3 (a + 21190) b ≤ 1000000000 * 1000000000 := ⟨Int.mul_nonneg (by omega) (by omega), Int.mul_le_mul (by omega) (by omega) (by omega) (by omega)⟩
    have p1 : 1 ≤ u * mL M3 (a + 21190) b := by
      have := Int.mul_le_mul (show 1 ≤ u by omega) e3 (by omega) (by omega)
      omega
    have ip : i64 (u * mL M3 (a + 21190) b) := ⟨by omega, by omega⟩
    have dv : ∀ b' : Nat, b' < b + 1 → mL M3 (a + 21190) b' ∣ u * mL M3 (a + 21190) b := fun b' hb' => by
      by_cases y : b' = b
      · rw [y]; exact Int.dvd_mul_left u _
      · refine Int.dvd_trans (j3 b' (by omega)) ?_
        rw [hu, hv, show u * (x * v) = x * u * v by rw [← Int.mul_assoc, Int.mul_comm u x]]
        exact Int.dvd_mul_right (x * u) v
    rw [(r4546 w2).1.2, td]
    refine ⟨⟨by omega, by omega⟩, gg.1, xne, w2.1.1, (r4546 w2).2.2.1, by rw [(r4546 w2).2.2.2]; exact b8, ip, fun q6 => ?_, fun q6 => ?_⟩
    · refine k_MM_chances_187 gg.1 ic ipl ip ib ?_
      rw [show (b : Int) + 1 = ((b + 1 : Nat) : Int) by omega]
      exact ih (b + 1) _ M3 (by omega) h h25 ip (fun _ => ⟨c1, p1, (cmpz _ _).2.2.1.1 q6, dv⟩)
    · refine (s_MM_stop ⟨by decide, by decide⟩ ipl gg.1 w2).mono (fun M4 h4 => ⟨h4.1.1, ?_⟩)
      have X4 := h.stp h4
      refine k_MM_chances_187 h4.1.1 ic ipl ip ib ?_
      rw [show (b : Int) + 1 = ((b + 1 : Nat) : Int) by omega]
      refine ih (b + 1) _ M4 (by omega) X4 ?_ ip (fun z => ?_)
      · have gs := gs_st (P := fun _ => False) (S := fun x => x = a) w2 hg h4.1 (fun _ z => z.elim) (fun _ z => z.elim) (fun x z => by omega)
        rw [(gs.2.1 25 (by omega) (by omega)).1]
        exact h25
      · rw [h4.2.1] at z
        exact absurd z (by decide)
end CHA
end
section
/-! The reference: chances. -/
section CHB
variable {G : mG} {d a g T R W C Z : Nat} {M : mM} {E : Nat → Nat} {tg : Int}
theorem mv_ulx {M2 M3 : mM} {o j : Nat} {v : Int} (hv : i64 v) (hO : mOk M2) (w : Wd M2 a) (e : M3 = mUL M2 (a + o) j v) : Mv (fun _ => False) (fun y => y = a + o) M2 a M3 ∧ (∀ k, mL M3 (a + o) k = if k = j then v else mL M2 (a + o) k) ∧ (∀ y, y ≠ a + o → mL M3 y = mL M2 y) ∧ mI M3 = mI M2 := by
  obtain ⟨m, f, i⟩ := mv_ul hv hO w e
  refine ⟨m, fun k => ?_, fun y hy => ?_, i⟩
  · rw [f]
    by_cases z : k = j
    · rw [if_pos ⟨rfl, z⟩, if_pos z]
    · rw [if_neg (fun q => z q.2), if_neg z]
  · funext k
    rw [f, if_neg (fun q => hy q.1)]
theorem s_MM_chances {c nb : Nat} {pl : Int} (h : GG M a g T R W C Z E tg) (hn : En M a g R W) (hc : c < C) (ipl : i32 pl) (hnb : mI M (g + 25) c = (nb : Int)) : Cj G y_MM_chances (d + 6) [vr a, vi c, vi pl] M (fun x M' => i64 x ∧ mOk M' ∧ chQ M a g T R W C Z E tg nb x M') := by
  have hg := h.2.2.1.2
  have hBd := h.2.2.2.2.2.2.2.1.1
  have nb8 : nb ≤ 8 := by
    have := (h.2.2.2.2.2.2.2.1.2.2.2.2.1 c hc).2.2.1
    omega
  have ic : i32 (c : Int) := i32s (by omega) (by omega)
  refine k_MM_chances h.1 ic ipl ?_
  suffices H : ∀ (t b : Nat) (M2 : mM), b + t = nb → xg M a g T R W C Z E tg M2 → mI M2 (g + 25) c = (nb : Int) → (mI M2 a 16 = 0 → chk1 M2 a b) → h_MM_chances_2 G (d + 5) a c pl b M2 (fun x M' => i64 x ∧ mOk M' ∧ chQ M a g T R W C Z E tg nb x M') from H nb 0 M (by omega) ⟨xe.refl h.1 h.2.1, h, hn⟩ hnb (fun _ b' hb' => absurd hb' (by omega))
  intro t
  induction t with
  | zero =>
    intro b M2 hb x h25 hch
    have eb : b = nb := by omega
    subst eb
    have gg := x.2.1
    have w2 := gg.2.1
    have b60 : ((0 : Int) ≤ (c : Int) ∧ (c : Int) < ((60 : Nat) : Int)) := by omega
    refine k_MM_chances_2 gg.1 ic ipl (i32s (by omega) (by omega)) ⟨w2.1.1, ?_⟩
    rw [gg.2.2.1.1, show mR M2 g 22 = g + 25 from (w2.gp hg).2.2.1.2.2.2.2.2.2.2.1, Int.toNat_natCast, h25]
    exact ⟨(w2.gp hg).1, (w2.gp hg).2.2.2.2.2.2.2.2.1.1, by rw [(w2.gp hg).2.2.2.2.2.2.2.2.1.2]; exact b60, fun _ => s_ch129 hc ipl nb8 b 0 1 M2 (by omega) x h25 ⟨by decide, by decide⟩ (fun z => ⟨hch z, by decide, by decide, fun b' hb' => absurd hb' (by omega)⟩), fun q => absurd (Or.inl (Int.le_refl _)) q⟩
  | succ t ih =>
    intro b M2 hb x h25 hch
    have gg := x.2.1
    have w2 := gg.2.1
    have b60 : ((0 : Int) ≤ (c : Int) ∧ (c : Int) < ((60 : Nat) : Int)) := by omega
    have b8 : ((0 : Int) ≤ (b : Int) ∧ (b : Int) < ((8 : Nat) : Int)) := by omega
    have b480 : ((0 : Int) ≤ ((8 * c + b : Nat) : Int) ∧ ((8 * c + b : Nat) : Int) < ((480 : Nat) : Int)) := by omega
    have ib : i32 (b : Int) := i32s (by omega) (by omega)
    have bc := (gg.2.2.2.2.2.2.2.1.2.2.2.2.1 c hc).2.2.2 b (by rw [h25]; omega)
    refine k_MM_chances_2 gg.1 ic ipl ib ⟨w2.1.1, ?_⟩
    rw [gg.2.2.1.1, show mR M2 g 22 = g + 25 from (w2.gp hg).2.2.1.2.2.2.2.2.2.2.1, show mR M2 g 23 = g + 26 from (w2.gp hg).2.2.1.2.2.2.2.2.2.2.2.1, Int.toNat_natCast, h25, show 8 * (c : Int) + (b : Int) = ((8 * c + b : Nat) : Int) by omega, Int.toNat_natCast, Int.toNat_natCast]
    refine ⟨(w2.gp hg).1, (w2.gp hg).2.2.2.2.2.2.2.2.1.1, by rw [(w2.gp hg).2.2.2.2.2.2.2.2.1.2]; exact b60, fun q => ?_, fun q => ⟨(w2.gp hg).2.2.2.2.2.2.2.2.2.1.1, by rw [(w2.gp hg).2.2.2.2.2.2.2.2.2.1.2]; exact b480, ?_⟩⟩
    · have z2 : ¬ (mI M2 a 16 = 0) := by
        rcases q with q | q
        · omega
        · exact q
      exact s_ch129 hc ipl nb8 nb 0 1 M2 (by omega) x h25 ⟨by decide, by decide⟩ (fun z => absurd z z2)
    have z2 : mI M2 a 16 = 0 := Classical.byContradiction (fun z => q (Or.inr z))
    have hch := hch z2
    refine (s_MM_reach (d := d) gg x.2.2 bc.1).mono (fun M3 t3 => ?_)
    obtain ⟨o3, xr3, gg3, en3, v3⟩ := t3
    have x3 := xr3.xe w2
    have X3 : xg M a g T R W C Z E tg M3 := ⟨x.1.trans x3, gg3, en3⟩
    have w3 := gg3.2.1
    have gs3 := x3.gs w2 hg
    have nw : ∀ o, 21188 ≤ o → ¬ woS a (a + o) := fun o ho z => by
      have z' : a + o = a ∨ a + o = a + 97 ∨ a + o = a + 98 ∨ a + o = a + 102 ∨ a + o = a + 103 ∨ a + o = a + 104 := z
      omega
    have k89 := (xr3.1.cellL w2 in99 (offx (a := a) (o := 21189) (by decide)) (nw _ (by omega))).2
    have k90 := (xr3.1.cellL w2 in99 (offx (a := a) (o := 21190) (by decide)) (nw _ (by omega))).2
    have B3 : mR M3 a 21 = a + 97 ∧ mR M3 a 22 = a + 98 := ⟨w3.1.2.2.2.2.1.2.2.2.2.2.2.1, w3.1.2.2.2.2.1.2.2.2.2.2.2.2.1⟩
    have A3 : (mK M3 (a + 97) = 33 ∧ mN M3 (a + 97) = 16400) ∧ (mK M3 (a + 98) = 33 ∧ mN M3 (a + 98) = 16400) := ⟨w3.1.2.2.2.2.2.2.2.1.1, w3.1.2.2.2.2.2.2.2.1.2.1⟩
    rw [B3.1, (r4546 w3).1.1]
    refine ⟨o3, w3.1.1, A3.1.1, by rw [A3.1.2]; decide, (r4546 w3).2.1.1, by rw [(r4546 w3).2.1.2]; exact b8, fun M4 e4 => ?_⟩
    obtain ⟨m4, f4, n4, i4⟩ := mv_ulx (o3 _ _).2 o3 w3 e4
    have X4 := X3.st m4 (fun _ z => z.elim) (fun y z => Or.inr (Or.inr (by omega))) (fun i _ _ _ => by rw [i4])
    have w4 := X4.2.1.2.1
    have B4 : mR M4 a 21 = a + 97 ∧ mR M4 a 22 = a + 98 := ⟨w4.1.2.2.2.2.1.2.2.2.2.2.2.1, w4.1.2.2.2.2.1.2.2.2.2.2.2.2.1⟩
    have A4 : (mK M4 (a + 97) = 33 ∧ mN M4 (a + 97) = 16400) ∧ (mK M4 (a + 98) = 33 ∧ mN M4 (a + 98) = 16400) := ⟨w4.1.2.2.2.2.2.2.2.1.1, w4.1.2.2.2.2.2.2.2.1.2.1⟩
    rw [B4.2, (r4546 w4).1.2, n4 (a + 98) (by omega)]
    refine ⟨A4.2.1, by rw [A4.2.2]; decide, (r4546 w4).2.2.1, by rw [(r4546 w4).2.2.2]; exact b8, fun M5 e5 => ?_⟩
    obtain ⟨m5, f5, n5', i5⟩ := mv_ulx (o3 _ _).2 m4.1 w4 e5
    have X5 := X4.st m5 (fun _ z => z.elim) (fun y z => Or.inr (Or.inr (by omega))) (fun i _ _ _ => by rw [i5])
    have w5 := X5.2.1.2.1
    have B5 : mR M5 a 21 = a + 97 ∧ mR M5 a 22 = a + 98 := ⟨w5.1.2.2.2.2.1.2.2.2.2.2.2.1, w5.1.2.2.2.2.1.2.2.2.2.2.2.2.1⟩
    have A5 : (mK M5 (a + 97) = 33 ∧ mN M5 (a + 97) = 16400) ∧ (mK M5 (a + 98) = 33 ∧ mN M5 (a + 98) = 16400) := ⟨w5.1.2.2.2.2.2.2.2.1.1, w5.1.2.2.2.2.2.2.2.1.2.1⟩
    have iA : mI M5 = mI M3 := by rw [i5, i4]
    have l97 : mL M5 (a + 97) = mL M3 (a + 97) := by rw [n5' _ (by omega), n4 _ (by omega)]
    have l98 : mL M5 (a + 98) = mL M3 (a + 98) := by rw [n5' _ (by omega), n4 _ (by omega)]
    have q89 : ∀ k, mL M5 (a + 21189) k = if k = b then mL M3 (a + 97) 0 else mL M2 (a + 21189) k := fun k => by rw [n5' _ (by omega), f4, k89]
    have q90 : ∀ k, mL M5 (a + 21190) k = if k = b then mL M3 (a + 98) 0 else mL M2 (a + 21190) k := fun k => by rw [f5, n4 _ (by omega), k90]
    have h25' : mI M5 (g + 25) c = (nb : Int) := by rw [iA, (gs3.2.1 25 (by omega) (by omega)).1]; exact h25
    rw [B5.1, B5.2, l97, l98, X5.2.1.2.2.1.1, show mR M5 g 24 = g + 27 from (w5.gp hg).2.2.1.2.2.2.2.2.2.2.2.2.1]
    have z35 : mI M5 a 16 = 0 → vok 0 (mL M3 (a + 97) 0) (mL M3 (a + 98) 0) := fun z => by
      rw [iA] at z
      rcases v3 with y | ⟨-, y⟩
      · exact absurd z y
      · exact y
    have nx : ∀ M6, xg M a g T R W C Z E tg M6 → mI M6 (g + 25) c = (nb : Int) → (mI M6 a 16 = 0 → chk1 M6 a (b + 1)) → h_MM_chances_118 G (d + 5) a c pl b M6 (fun x M' => i64 x ∧ mOk M' ∧ chQ M a g T R W C Z E tg nb x M') := fun M6 X6 k25 kc => by
      refine k_MM_chances_118 X6.2.1.1 ic ipl ib ?_
      rw [show (b : Int) + 1 = ((b + 1 : Nat) : Int) by omega]
      exact ih (b + 1) M6 (by omega) X6 k25 kc
    refine ⟨fun _ => ⟨A5.1.1, by rw [A5.1.2]; decide, fun _ => ⟨by rw [A5.1.2]; decide, A5.2.1, by rw [A5.2.2]; decide⟩⟩, fun q5 => ?_, fun q5 => ?_⟩
    · refine ⟨(w5.gp hg).1, (w5.gp hg).2.2.2.2.2.2.2.2.2.2.1.1, by rw [(w5.gp hg).2.2.2.2.2.2.2.2.2.2.1.2]; exact b480, (s_MM_stop ⟨by decide, by decide⟩ (m5.1 _ _).1 m5.1 w5).mono (fun M6 h6 => ⟨h6.1.1, nx M6 (X5.stp h6) ?_ (fun z => ?_)⟩)⟩
      · have gs := gs_st (P := fun _ => False) (S := fun x => x = a) w5 hg h6.1 (fun _ z => z.elim) (fun _ z => z.elim) (fun x z => by omega)
        rw [(gs.2.1 25 (by omega) (by omega)).1]
        exact h25'
      · rw [h6.2.1] at z
        exact absurd z (by decide)
    · refine nx M5 X5 h25' (fun z b' hb' => ?_)
      rw [q89, q90]
      by_cases y : b' = b
      · rw [if_pos y, if_pos y]
        have vk := z35 z
        have q6 : ¬ (cmpL (mL M3 (a + 97) 0) 0 < 0 ∨ ¬ (cmpL (mL M3 (a + 97) 0) (mL M3 (a + 98) 0) ≤ 0)) := fun y => q5 ⟨z, y⟩
        have c1 := (cmpz (mL M3 (a + 97) 0) 0).2.2.1
        have c2 := (cmpz (mL M3 (a + 97) 0) (mL M3 (a + 98) 0)).2.1
        rw [c1, c2] at q6
        unfold vok at vk
        omega
      · rw [if_neg y, if_neg y]
        exact hch b' (by omega)
end CHB
end
section
/-! The reference: a variable's next value; a state is found or made. -/
section SET
variable {G : mG} {d a g T R W C Z n : Nat} {M M' M2 : mM} {E : Nat → Nat} {tg : Int}
/-- the next values stand in their ranges -/
def Nxv (M : mM) (a g W : Nat) : Prop := ∀ v : Nat, v < W → mI M (g + 19) v ≤ mI M (a + 21188) v ∧ mI M (a + 21188) v ≤ mI M (g + 20) v
/-- working out, and next values -/
abbrev sxS (a : Nat) : Nat → Prop := fun x => woS a x ∨ x = a + 21188
/-- a next value has been set -/
def seQ (M : mM) (a g T R W C Z : Nat) (E : Nat → Nat) (tg : Int) (M' : mM) : Prop := Mv (fun x => x = a + 99) (sxS a) M a M' ∧ (∀ i, i ≠ 16 → i ≠ 17 → i ≠ 23 → mI M' a i = mI M a i) ∧ GG M' a g T R W C Z E tg ∧ En M' a g R W ∧ (mI M' a 16 = 0 → Nxv M' a g W)
theorem s_MM_set1 {v : Nat} {root pl : Int} (h : GG M a g T R W C Z E tg) (hn : En M a g R W) (hx : Nxv M a g W) (hv : v < W) (hr : Rt M g R W T E root (tn M g (100 + (v : Int)))) (ipl : i32 pl) : Cv G y_MM_set1 (d + 6) [vr a, vi v, vi root, vi pl] M (fun M' => mOk M' ∧ seQ M a g T R W C Z E tg M') := by
  have w := h.2.1
  have hg := h.2.2.1.2
  have hD := h.2.2.2.2.2.2.2.1
  have hBd := hD.1
  obtain ⟨v1, v2, v3, v4, v5, v6⟩ := hD.2.2.2.1 v hv
  have e1 : tn M g (100 + (v : Int)) = mI M (g + 18) v := by
    unfold tn
    rw [if_pos (show (100 : Int) ≤ 100 + (v : Int) by omega), show (100 + (v : Int) - 100).toNat = v by omega]
    rcases v6 with y | y <;> rw [y] <;> rfl
  have ir : i32 root := by
    obtain ⟨n', b, f, e, r1, r2, r3, r4, r5⟩ := hr
    have := r4.tn.lt
    have := h.2.2.2.2.1
    rw [r1]
    exact i32s (by omega) (by omega)
  have b12 : ((0 : Int) ≤ (v : Int) ∧ (v : Int) < ((12 : Nat) : Int)) := by omega
  have toS : ∀ {Mx : mM}, Mv (fun x => x = a + 99) (woS a) M a Mx → Mv (fun x => x = a + 99) (sxS a) M a Mx := fun m => m.mono (fun q hq => hq) (fun x z => Or.inl z) (lt99 w)
  refine k_MM_set1 h.1 (i32s (by omega) (by omega)) ir ipl ⟨w.1.1, (s_MM_reach (d := d) h hn hr).mono (fun M2 t2 => ?_)⟩
  obtain ⟨o2, x2, gg2, en2, v2'⟩ := t2
  have w2 := gg2.2.1
  have gs2 := (x2.xe w).gs w hg
  have c88 : mI M2 (a + 21188) = mI M (a + 21188) := (x2.1.cellL w in99 (offx (a := a) (o := 21188) (by decide)) (fun z => by
    have z' : a + 21188 = a ∨ a + 21188 = a + 97 ∨ a + 21188 = a + 98 ∨ a + 21188 = a + 102 ∨ a + 21188 = a + 103 ∨ a + 21188 = a + 104 := z
    omega)).1
  have nx2 : Nxv M2 a g W := fun v' hv' => by
    rw [(gs2.2.1 19 (by omega) (by omega)).1, (gs2.2.1 20 (by omega) (by omega)).1, c88]
    exact hx v' hv'
  refine ⟨o2, w2.1.1, fun z16 => ?_, fun z16 => ⟨o2, toS x2.1, x2.2, gg2, en2, fun z => absurd z z16⟩⟩
  have vk : vok (mI M (g + 18) v) (mL M2 (a + 97) 0) (mL M2 (a + 98) 0) := by
    rcases v2' with y | ⟨-, y⟩
    · exact absurd z16 y
    · rw [e1] at y; exact y
  have B2 : mR M2 a 21 = a + 97 ∧ mR M2 a 22 = a + 98 ∧ mR M2 a 44 = a + 21188 := ⟨w2.1.2.2.2.2.1.2.2.2.2.2.2.1, w2.1.2.2.2.2.1.2.2.2.2.2.2.2.1, w2.1.2.2.2.2.2.2.1.2.2.2.1⟩
  have A2 : (mK M2 (a + 97) = 33 ∧ mN M2 (a + 97) = 16400) ∧ (mK M2 (a + 98) = 33 ∧ mN M2 (a + 98) = 16400) ∧ (mK M2 (a + 21188) = 30 ∧ mN M2 (a + 21188) = 12) := ⟨w2.1.2.2.2.2.2.2.2.1.1, w2.1.2.2.2.2.2.2.2.1.2.1, w2.1.2.2.2.2.2.2.2.2.2.1.2.2.2.1⟩
  rw [gg2.2.2.1.1, show mR M2 g 13 = g + 18 from (w2.gp hg).2.2.1.1, show mR M2 g 14 = g + 19 from (w2.gp hg).2.2.1.2.1, show mR M2 g 15 = g + 20 from (w2.gp hg).2.2.1.2.2.1, B2.1, B2.2.1, B2.2.2, Int.toNat_natCast, (gs2.2.1 18 (by omega) (by omega)).1, (gs2.2.1 19 (by omega) (by omega)).1, (gs2.2.1 20 (by omega) (by omega)).1]
  have stp : ∀ c : Int, c ≠ 0 → i32 c → Cv G y_MM_stop (d + 5) [vr a, vi c, vi pl] M2 (fun M3 => mOk M3 ∧ (mOk M3 ∧ seQ M a g T R W C Z E tg M3)) := fun c hc ic => by
    refine (s_MM_stop ic ipl o2 w2).mono (fun M3 h3 => ?_)
    have X : xg M a g T R W C Z E tg M2 := ⟨x2.xe w, gg2, en2⟩
    have X3 := X.stp h3
    refine ⟨h3.1.1, h3.1.1, (toS x2.1).trans (h3.1.mono (fun _ z => z.elim) (fun x z => Or.inl (Or.inl z)) (lt99 w2)), fun i i1 i2 i3 => (h3.2.2.2 i i1 i2).trans (x2.2 i i1 i2 i3), X3.2.1, X3.2.2, fun z => ?_⟩
    rw [h3.2.1] at z
    exact absurd z hc
  refine ⟨(w2.gp hg).1, (w2.gp hg).2.2.2.2.1.1.1, by rw [(w2.gp hg).2.2.2.2.1.1.2]; exact b12, fun _ => ⟨A2.2.1.1, by rw [A2.2.1.2]; decide⟩, fun q => ⟨A2.1.1, by rw [A2.1.2]; decide, (w2.gp hg).2.2.2.2.1.2.1.1, by rw [(w2.gp hg).2.2.2.2.1.2.1.2]; exact b12, fun _ => ⟨by rw [A2.1.2]; decide, (w2.gp hg).2.2.2.2.1.2.2.1.1, by rw [(w2.gp hg).2.2.2.2.1.2.2.1.2]; exact b12⟩, fun _ => stp 12 (by decide) ⟨by decide, by decide⟩, fun q2 => ?_⟩, fun _ => stp 8 (by decide) ⟨by decide, by decide⟩⟩
  have c1 := (cmpz (mL M2 (a + 97) 0) (mI M (g + 19) v)).2.2.1
  have c2 := (cmpz (mL M2 (a + 97) 0) (mI M (g + 20) v)).2.1
  rw [c1, c2] at q2
  have rng : mI M (g + 19) v ≤ mL M2 (a + 97) 0 ∧ mL M2 (a + 97) 0 ≤ mI M (g + 20) v := by omega
  have i97 : i32 (mL M2 (a + 97) 0) := ⟨by omega, by omega⟩
  refine ⟨by rw [A2.1.2]; decide, A2.2.2.1, by rw [A2.2.2.2]; exact b12, i97, fun M3 e3 => ?_⟩
  obtain ⟨m3, f3, l3⟩ := mv_cell i97 o2 w2 (show a ≤ a + 21188 by omega) (offx (a := a) (o := 21188) (by decide)) e3
  have no : ∀ q : Nat, False → q ∈ nums a := fun _ z => z.elim
  have aI := (m3.fld w2 no (by omega)).1
  have X : xg M a g T R W C Z E tg M2 := ⟨x2.xe w, gg2, en2⟩
  have X3 := X.st m3 (fun _ z => z.elim) (fun x z => Or.inr (Or.inr (by omega))) (fun i _ _ _ => by rw [aI])
  refine ⟨m3.1, (toS x2.1).trans (m3.mono (fun _ z => z.elim) (fun x z => Or.inr z) (lt99 w2)), fun i i1 i2 i3 => by rw [aI]; exact x2.2 i i1 i2 i3, X3.2.1, X3.2.2, fun _ v' hv' => ?_⟩
  have gs3 := gs_st w2 hg m3 no (fun _ z => z.elim) (fun x z => by omega)
  rw [(gs3.2.1 19 (by omega) (by omega)).1, (gs3.2.1 20 (by omega) (by omega)).1, f3]
  by_cases y : v' = v
  · rw [if_pos ⟨rfl, y⟩, y, (gs2.2.1 19 (by omega) (by omega)).1, (gs2.2.1 20 (by omega) (by omega)).1]
    exact rng
  · rw [if_neg (fun z => y z.2)]
    exact nx2 v' hv'
/-- the states' variables stand in their ranges -/
def Vx (M : mM) (a g n W : Nat) : Prop := ∀ k v : Nat, k < n → v < W → mI M (g + 19) v ≤ mI M (a + 105) (12 * k + v) ∧ mI M (a + 105) (12 * k + v) ≤ mI M (g + 20) v
/-- a state has been found or made -/
def soQ (M : mM) (a g n W : Nat) (x : Int) (M' : mM) : Prop := (x = -1 ∧ M' = M) ∨ ∃ n' : Nat, (n' = n ∨ n' = n + 1) ∧ n' ≤ 512 ∧ 0 ≤ x ∧ x < n' ∧ Mv (fun _ => False) (fun y => y = a ∨ y = a + 105) M a M' ∧ mI M' a 29 = (n' : Int) ∧ (∀ i, i ≠ 29 → mI M' a i = mI M a i) ∧ Vx M' a g n' W
theorem s_MM_stateOf (h : GG M a g T R W C Z E tg) (hn : mI M a 29 = (n : Int)) (hn5 : n ≤ 512) (hv : Vx M a g n W) (hx : Nxv M a g W) : Ci G y_MM_stateOf d [vr a] M (fun x M' => i32 x ∧ mOk M' ∧ soQ M a g n W x M') := by
  have hO := h.1
  have w := h.2.1
  have hg := h.2.2.1.2
  have hBd := h.2.2.2.2.2.2.2.1.1
  have g12 := h.2.2.2.2.2.1.2.1
  have r9 := h.2.2.1.1
  have no : ∀ q : Nat, False → q ∈ nums a := fun _ z => z.elim
  -- a new state is filled in
  have L3 : n < 512 → ∀ (c v : Nat) (M2 : mM), v + c = W → Mv (fun _ => False) (fun y => y = a ∨ y = a + 105) M a M2 → mI M2 a = mI M a → mI M2 (a + 21188) = mI M (a + 21188) → (∀ j, (12 * n ≤ j → 12 * n + v ≤ j) → mI M2 (a + 105) j = mI M (a + 105) j) → (∀ v', v' < v → mI M2 (a + 105) (12 * n + v') = mI M (a + 21188) v') → h_MM_stateOf_87 G d a v M2 (fun x M' => i32 x ∧ mOk M' ∧ soQ M a g n W x M') := by
    intro hn' c
    induction c with
    | zero =>
      intro v M2 hc m2 a2 x2 o2 f2
      have ev : v = W := by omega
      subst ev
      have w2 := m2.2.1
      have gs := gs_st w hg m2 no (fun _ z => z.elim) (fun x z => by omega)
      refine k_MM_stateOf_87 m2.1 (i32s (by omega) (by omega)) ⟨w2.1.1, ?_⟩
      rw [m2.rfl_a w no, r9, gs.1, g12, a2, hn]
      refine ⟨(w2.gp hg).1, fun _ => ⟨i32s (by omega) (by omega), fun M3 e3 => ?_⟩, fun q => absurd (Int.le_refl _) q⟩
      obtain ⟨m3, f3⟩ := mv_fld (v := (n : Int) + 1) (i32s (by omega) (by omega)) m2.1 w2 e3
      have mm := m2.trans (m3.mono (fun _ z => z.elim) (fun x z => Or.inl z) (fun _ z => z.elim))
      have gs3 := gs_st w hg mm no (fun _ z => z.elim) (fun x z => by omega)
      have c105 := m3.cell m2.2.1 no (by omega) (offx (a := a) (o := 105) (by decide)).2.1 (offx (a := a) (o := 105) (by decide)).2.2 (by omega)
      have e29 : mI M3 a 29 = (n : Int) + 1 := by rw [f3, if_pos rfl]
      rw [e29]
      refine ⟨i32s (by omega) (by omega), m3.1, Or.inr ⟨n + 1, Or.inr rfl, by omega, by omega, by omega, mm, by rw [e29]; omega, fun i hi => by rw [f3, if_neg hi, a2], fun k v' hk hv' => ?_⟩⟩
      rw [(gs3.2.1 19 (by omega) (by omega)).1, (gs3.2.1 20 (by omega) (by omega)).1, c105]
      by_cases y : k = n
      · rw [y, f2 v' hv']
        exact hx v' hv'
      · rw [o2 _ (by omega)]
        exact hv k v' (by omega) hv'
    | succ c ih =>
      intro v M2 hc m2 a2 x2 o2 f2
      have w2 := m2.2.1
      have gs := gs_st w hg m2 no (fun _ z => z.elim) (fun x z => by omega)
      have A5 : mK M2 (a + 105) = 30 ∧ mN M2 (a + 105) = 6144 := w2.1.2.2.2.2.2.2.2.2.1.1
      have A8 : mK M2 (a + 21188) = 30 ∧ mN M2 (a + 21188) = 12 := w2.1.2.2.2.2.2.2.2.2.2.1.2.2.2.1
      have r31 : mR M2 a 31 = a + 105 := w2.1.2.2.2.2.2.1.1
      have r44 : mR M2 a 44 = a + 21188 := w2.1.2.2.2.2.2.2.1.2.2.2.1
      have e9 : mR M2 a 9 = g := by rw [m2.rfl_a w no]; exact r9
      refine k_MM_stateOf_87 m2.1 (i32s (by omega) (by omega)) ⟨w2.1.1, ?_⟩
      rw [e9, gs.1, g12, a2, hn, r31, r44, Int.toNat_natCast, show 12 * (n : Int) + (v : Int) = ((12 * n + v : Nat) : Int) by omega, Int.toNat_natCast, x2]
      refine ⟨(w2.gp hg).1, fun q => absurd q (by omega), fun _ => ⟨A8.1, by rw [A8.2]; omega, A5.1, by rw [A5.2]; omega, fun M3 e3 => ?_⟩⟩
      obtain ⟨m3, f3, l3⟩ := mv_cell (hO _ _).1 m2.1 w2 (show a ≤ a + 105 by omega) (offx (a := a) (o := 105) (by decide)) e3
      have nx := ih (v + 1) M3 (by omega) (m2.trans (m3.mono (fun _ z => z.elim) (fun x z => Or.inr z) (fun _ z => z.elim))) (by rw [(m3.fld w2 no (by omega)).1]; exact a2) (by rw [m3.cell w2 no (by omega) (offx (a := a) (o := 21188) (by decide)).2.1 (offx (a := a) (o := 21188) (by decide)).2.2 (by omega)]; exact x2) (fun j hj => by rw [f3, if_neg (fun z => by omega)]; exact o2 j (by omega)) (fun v' hv' => ?_)
      · rw [show ((v + 1 : Nat) : Int) = (v : Int) + 1 by omega] at nx
        exact nx
      · rw [f3]
        by_cases y : v' = v
        · rw [if_pos ⟨rfl, by omega⟩, y]
        · rw [if_neg (fun z => by omega)]
          exact f2 v' (by omega)
  have A5 : mK M (a + 105) = 30 ∧ mN M (a + 105) = 6144 := w.1.2.2.2.2.2.2.2.2.1.1
  have A8 : mK M (a + 21188) = 30 ∧ mN M (a + 21188) = 12 := w.1.2.2.2.2.2.2.2.2.2.1.2.2.2.1
  have r31 : mR M a 31 = a + 105 := w.1.2.2.2.2.2.1.1
  have r44 : mR M a 44 = a + 21188 := w.1.2.2.2.2.2.2.1.2.2.2.1
  refine k_MM_stateOf hO ?_
  suffices L1 : ∀ (c k : Nat), k + c = n → h_MM_stateOf_2 G d a k M (fun x M' => i32 x ∧ mOk M' ∧ soQ M a g n W x M') from L1 n 0 (by omega)
  intro c
  induction c with
  | zero =>
    intro k hk
    have ek : k = n := by omega
    subst ek
    refine k_MM_stateOf_2 hO (i32s (by omega) (by omega)) ⟨w.1.1, fun _ => ⟨fun _ => ⟨⟨by decide, by decide⟩, hO, Or.inl ⟨rfl, rfl⟩⟩, fun q => ?_⟩, fun q => absurd (by rw [hn]; exact Int.le_refl _) q⟩
    rw [hn] at q
    exact L3 (by omega) W 0 M (by omega) (Mv.refl hO w (fun _ z => z.elim)) rfl rfl (fun j _ => rfl) (fun v' hv' => absurd hv' (by omega))
  | succ c ih =>
    intro k hk
    have nx := ih (k + 1) (by omega)
    rw [show ((k + 1 : Nat) : Int) = (k : Int) + 1 by omega] at nx
    refine k_MM_stateOf_2 hO (i32s (by omega) (by omega)) ⟨w.1.1, fun q => by rw [hn] at q; omega, fun _ => ?_⟩
    suffices L2 : ∀ (t v : Nat) (s : Int), v + t = W → (s = 0 ∨ s = 1) → h_MM_stateOf_14 G d a k s v M (fun x M' => i32 x ∧ mOk M' ∧ soQ M a g n W x M') from L2 W 0 1 (by omega) (Or.inr rfl)
    have fnd : i32 (k : Int) ∧ mOk M ∧ soQ M a g n W k M := ⟨i32s (by omega) (by omega), hO, Or.inr ⟨n, Or.inl rfl, hn5, by omega, by omega, Mv.refl hO w (fun _ z => z.elim), hn, fun _ _ => rfl, hv⟩⟩
    intro t
    induction t with
    | zero =>
      intro v s hv' hs
      have ev : v = W := by omega
      subst ev
      refine k_MM_stateOf_14 hO (i32s (by omega) (by omega)) (i32s (by omega) (by omega)) (i32s (by omega) (by omega)) ⟨w.1.1, ?_⟩
      rw [r9, g12]
      exact ⟨(w.gp hg).1, fun _ => ⟨fun _ => nx, fun _ => fnd⟩, fun q => absurd (Or.inl (Int.le_refl _)) q⟩
    | succ t ih2 =>
      intro v s hv' hs
      refine k_MM_stateOf_14 hO (i32s (by omega) (by omega)) (i32s (by omega) (by omega)) (i32s (by omega) (by omega)) ⟨w.1.1, ?_⟩
      rw [r9, g12, r31, r44]
      refine ⟨(w.gp hg).1, fun _ => ⟨fun _ => nx, fun _ => fnd⟩, fun _ => ⟨A5.1, by rw [A5.2]; omega, A8.1, by rw [A8.2]; omega, fun u hu => ?_⟩⟩
      rw [show (v : Int) + 1 = ((v + 1 : Nat) : Int) by omega]
      exact ih2 (v + 1) u (by omega) (by split at hu <;> omega)
end SET
end
section
/-! The reference: chances of ways are added; what is known of ways and commands. -/
section ADD
variable {G : mG} {d a g T R W C Z n L w Ln : Nat} {M M' M2 : mM} {E : Nat → Nat} {tg : Int} {B : Nat → Nat}
/-- a sum of two chances in lowest terms -/
theorem add_math {A D u v mul q A' D' : Int} (hD : 0 < D) (hv : 0 < v) (hA : 0 < A) (hu : 0 < u) (h1 : D ∣ mul) (h2 : v ∣ mul) (hq : 1 ≤ q) (e1 : A * v + u * D = q * A') (e2 : D * v = q * D') (hg : ∀ z : Int, z ∣ A * v + u * D → z ∣ D * v → z ∣ q) : 0 < A' ∧ 0 < D' ∧ D' ∣ mul ∧ A' * (mul / D') = A * (mul / D) + u * (mul / v) := by
  obtain ⟨p, hp⟩ := h1
  obtain ⟨r, hr⟩ := h2
  have dp : mul / D = p := by rw [hp]; exact Int.mul_ediv_cancel_left p (by omega)
  have dr : mul / v = r := by rw [hr]; exact Int.mul_ediv_cancel_left r (by omega)
  have posm : ∀ {x y : Int}, 0 < x → 0 < x * y → 0 < y := fun {x y} hx hxy => by
    by_cases z : 0 < y
    · exact z
    · have := Int.mul_le_mul_of_nonneg_left (show y ≤ 0 by omega) (show 0 ≤ x by omega)
      omega
  have x0 : 0 < A * v + u * D := by
    have := Int.mul_pos hA hv
    have := Int.mul_pos hu hD
    omega
  have A0 : 0 < A' := posm (x := q) (by omega) (by rw [← e1]; exact x0)
  have D0 : 0 < D' := posm (x := q) (by omega) (by rw [← e2]; exact Int.mul_pos hD hv)
  -- mul * A' = D' * K
  have key : mul * A' = D' * (A * p + u * r) := by
    have k1 : q * (mul * A') = q * (D' * (A * p + u * r)) := by
      have s1 : q * (mul * A') = mul * (A * v + u * D) := by rw [e1]; grind
      have s2 : q * (D' * (A * p + u * r)) = D * v * (A * p + u * r) := by rw [e2]; grind
      have s3 : mul * (A * v + u * D) = (D * p) * (A * v) + (v * r) * (u * D) := by rw [← hp, ← hr]; grind
      rw [s1, s2, s3]
      grind
    exact Int.eq_of_mul_eq_mul_left (show q ≠ 0 by omega) k1
  have cop : Nat.Coprime D'.natAbs A'.natAbs := by
    unfold Nat.Coprime
    have d1 : (Nat.gcd D'.natAbs A'.natAbs : Int) ∣ D' := Int.ofNat_dvd_left.2 (Nat.gcd_dvd_left _ _)
    have d2 : (Nat.gcd D'.natAbs A'.natAbs : Int) ∣ A' := Int.ofNat_dvd_left.2 (Nat.gcd_dvd_right _ _)
    have d3 := hg (q * (Nat.gcd D'.natAbs A'.natAbs : Int)) (by rw [e1]; exact Int.mul_dvd_mul (Int.dvd_refl q) d2) (by rw [e2]; exact Int.mul_dvd_mul (Int.dvd_refl q) d1)
    obtain ⟨t, ht⟩ := d3
    have t1 : (Nat.gcd D'.natAbs A'.natAbs : Int) * t = 1 := by
      have : q * ((Nat.gcd D'.natAbs A'.natAbs : Int) * t) = q * 1 := by rw [Int.mul_one, ← Int.mul_assoc]; exact ht.symm
      exact Int.eq_of_mul_eq_mul_left (show q ≠ 0 by omega) this
    have := Int.eq_one_of_mul_eq_one_right (show (0 : Int) ≤ (Nat.gcd D'.natAbs A'.natAbs : Int) by omega) t1
    omega
  have dm : D' ∣ mul := by
    have : D'.natAbs ∣ A'.natAbs * mul.natAbs := by
      rw [← Int.natAbs_mul, Int.mul_comm, key]
      exact Int.natAbs_dvd_natAbs.2 (Int.dvd_mul_right D' _)
    exact Int.natAbs_dvd_natAbs.1 (cop.dvd_of_dvd_mul_left this)
  refine ⟨A0, D0, dm, ?_⟩
  obtain ⟨m, hm⟩ := dm
  have dd : mul / D' = m := by rw [hm]; exact Int.mul_ediv_cancel_left m (by omega)
  rw [dd, dp, dr]
  rw [hm] at key
  have : D' * (A' * m) = D' * (A * p + u * r) := by rw [← key]; grind
  exact Int.eq_of_mul_eq_mul_left (show D' ≠ 0 by omega) this
/-- the ways that are known -/
def Wy (M : mM) (a n w : Nat) : Prop := ∀ j : Nat, j < w → (0 ≤ mI M (a + 21185) j ∧ mI M (a + 21185) j < n) ∧ (0 < mL M (a + 21186) j ∧ mL M (a + 21186) j < 1000000000) ∧ (0 < mL M (a + 21187) j ∧ mL M (a + 21187) j < 1000000000)
/-- command i is complete: its ways are B i to B (i + 1) - 1 -/
def okc (M : mM) (a : Nat) (B : Nat → Nat) (i : Nat) : Prop := (B i < B (i + 1) ∧ B (i + 1) ≤ B i + 8) ∧ (nt M (a + 111) i = (B i : Int) ∧ nt M (a + 113) i = ((B (i + 1) - B i : Nat) : Int)) ∧ (1 ≤ nt M (a + 115) i ∧ nt M (a + 115) i < 1000000000) ∧ (∀ j : Nat, B i ≤ j → j < B (i + 1) → mL M (a + 21187) j ∣ nt M (a + 115) i) ∧ sm (fun t => mL M (a + 21186) (B i + t) * (nt M (a + 115) i / mL M (a + 21187) (B i + t))) (B (i + 1) - B i) = nt M (a + 115) i
/-- what has been found so far: n states, L complete commands, w ways; the lists hold Ln commands -/
def XD (M : mM) (a g n W L w Ln : Nat) (B : Nat → Nat) : Prop := (mI M a 29 = (n : Int) ∧ 1 ≤ n ∧ n ≤ 512) ∧ (mI M a 40 = (w : Int) ∧ w ≤ 4096) ∧ Vx M a g n W ∧ Wy M a n w ∧ (ln M (a + 109) = Ln ∧ ln M (a + 111) = Ln ∧ ln M (a + 113) = Ln ∧ ln M (a + 115) = Ln) ∧ (B 0 = 0 ∧ B L ≤ w ∧ L ≤ Ln) ∧ ∀ i, i < L → okc M a B i
theorem XD.mono (h : XD M a g n W L w Ln B) : ∀ i j, i ≤ j → j ≤ L → B i + (j - i) ≤ B j := by
  intro i j hij hj
  induction j with
  | zero => have : i = 0 := by omega
            rw [this]; omega
  | succ j ih =>
    by_cases z : i = j + 1
    · rw [z]; omega
    · have := ih (by omega) (by omega)
      have := (h.2.2.2.2.2.2 j (by omega)).1.1
      omega
theorem okc.cg {i : Nat} (h : okc M a B i) (e1 : nt M' (a + 111) i = nt M (a + 111) i) (e2 : nt M' (a + 113) i = nt M (a + 113) i) (e3 : nt M' (a + 115) i = nt M (a + 115) i) (e4 : ∀ j, B i ≤ j → j < B (i + 1) → mL M' (a + 21186) j = mL M (a + 21186) j ∧ mL M' (a + 21187) j = mL M (a + 21187) j) : okc M' a B i := by
  obtain ⟨h1, h2, h3, h4, h5⟩ := h
  unfold okc
  rw [e1, e2, e3]
  refine ⟨h1, h2, h3, fun j j1 j2 => by rw [(e4 j j1 j2).2]; exact h4 j j1 j2, ?_⟩
  refine Eq.trans (sm_congr _ (fun t ht => ?_)) h5
  have := e4 (B i + t) (by omega) (by omega)
  show mL M' (a + 21186) (B i + t) * (nt M (a + 115) i / mL M' (a + 21187) (B i + t)) = mL M (a + 21186) (B i + t) * (nt M (a + 115) i / mL M (a + 21187) (B i + t))
  rw [this.1, this.2]
/-- a step that leaves all this -/
theorem XD.same (h : XD M a g n W L w Ln B) (f29 : mI M' a 29 = mI M a 29) (f40 : mI M' a 40 = mI M a 40) (gs : Gs M M' g) (c105 : mI M' (a + 105) = mI M (a + 105)) (c85 : mI M' (a + 21185) = mI M (a + 21185)) (c86 : mL M' (a + 21186) = mL M (a + 21186)) (c87 : mL M' (a + 21187) = mL M (a + 21187)) (l9 : sl M M' (a + 109)) (l11 : sl M M' (a + 111)) (l13 : sl M M' (a + 113)) (l15 : sl M M' (a + 115)) : XD M' a g n W L w Ln B := by
  obtain ⟨h1, h2, h3, h4, h5, h6, h7⟩ := h
  refine ⟨by rw [f29]; exact h1, by rw [f40]; exact h2, fun k v hk hv => ?_, fun j hj => ?_, by rw [l9.1, l11.1, l13.1, l15.1]; exact h5, h6, fun i hi => (h7 i hi).cg (l11.2 i) (l13.2 i) (l15.2 i) (fun j _ _ => by rw [c86, c87]; exact ⟨rfl, rfl⟩)⟩
  · rw [(gs.2.1 19 (by omega) (by omega)).1, (gs.2.1 20 (by omega) (by omega)).1, c105]
    exact h3 k v hk hv
  · rw [c85, c86, c87]
    exact h4 j hj
theorem k109 : a + 109 ∈ nums a := nums_o (by decide)
theorem k111 : a + 111 ∈ nums a := nums_o (by decide)
theorem k113 : a + 113 ∈ nums a := nums_o (by decide)
theorem k115 : a + 115 ∈ nums a := nums_o (by decide)
theorem XD.mv {P S : Nat → Prop} (h : XD M a g n W L w Ln B) (w0 : Wd M a) (m : Mv P S M a M') (hin : ∀ q, P q → q ∈ nums a) (hP : ∀ q, P q → q ≠ a + 109 ∧ q ≠ a + 111 ∧ q ≠ a + 113 ∧ q ≠ a + 115) (hS : ∀ x, S x → x ≠ a + 105 ∧ x ≠ a + 21185 ∧ x ≠ a + 21186 ∧ x ≠ a + 21187) (gs : Gs M M' g) (f29 : mI M' a 29 = mI M a 29) (f40 : mI M' a 40 = mI M a 40) : XD M' a g n W L w Ln B :=
  h.same f29 f40 gs (m.cellL w0 hin (offx (a := a) (o := 105) (by decide)) (fun z => (hS _ z).1 rfl)).1 (m.cellL w0 hin (offx (a := a) (o := 21185) (by decide)) (fun z => (hS _ z).2.1 rfl)).1 (m.cellL w0 hin (offx (a := a) (o := 21186) (by decide)) (fun z => (hS _ z).2.2.1 rfl)).2 (m.cellL w0 hin (offx (a := a) (o := 21187) (by decide)) (fun z => (hS _ z).2.2.2 rfl)).2 (m.lst k109 (fun z => (hP _ z).1 rfl)).sl (m.lst k111 (fun z => (hP _ z).2.1 rfl)).sl (m.lst k113 (fun z => (hP _ z).2.2.1 rfl)).sl (m.lst k115 (fun z => (hP _ z).2.2.2 rfl)).sl
end ADD
end
section
/-! The reference: a way's chance grows, or a way is new. -/
section AWY
variable {G : mG} {d a g T R W C Z n L w w0 : Nat} {M M' M2 M3 M4 : mM} {E : Nat → Nat} {tg mul Sm : Int} {B : Nat → Nat}
/-- the command that is being explored -/
def Op (M : mM) (a L w0 w : Nat) (mul Sm : Int) : Prop := w0 ≤ w ∧ (nt M (a + 111) L = (w0 : Int) ∧ nt M (a + 113) L = ((w - w0 : Nat) : Int) ∧ nt M (a + 115) L = mul) ∧ (1 ≤ mul ∧ mul < 1000000000) ∧ (∀ j : Nat, w0 ≤ j → j < w → mL M (a + 21187) j ∣ mul) ∧ sm (fun t => mL M (a + 21186) (w0 + t) * (mul / mL M (a + 21187) (w0 + t))) (w - w0) = Sm
theorem sm_upd {f f' : Nat → Int} {t0 : Nat} : ∀ (n : Nat), t0 < n → (∀ t, t < n → t ≠ t0 → f' t = f t) → sm f' n = sm f n - f t0 + f' t0
  | 0, h, _ => absurd h (by omega)
  | n + 1, h, k => by
    show sm f' n + f' n = sm f n + f n - f t0 + f' t0
    by_cases z : t0 = n
    · have : sm f' n = sm f n := sm_congr n (fun t ht => k t (by omega) (by omega))
      rw [this, z]
      omega
    · have := sm_upd n (by omega) (fun t ht hne => k t (by omega) hne)
      rw [this, k n (by omega) (fun y => z y.symm)]
      omega
theorem sm_le1 {f : Nat → Int} {t0 : Nat} : ∀ (n : Nat), t0 < n → (∀ t, t < n → 0 ≤ f t) → f t0 ≤ sm f n
  | 0, h, _ => absurd h (by omega)
  | n + 1, h, k => by
    show f t0 ≤ sm f n + f n
    have kn := k n (by omega)
    by_cases z : t0 = n
    · have : 0 ≤ sm f n := by
        clear h z
        induction n with
        | zero => exact Int.le_refl 0
        | succ n ih =>
          show 0 ≤ sm f n + f n
          have := ih (fun t ht => k t (by omega)) (k n (by omega))
          have := k n (by omega)
          omega
      rw [z]; omega
    · have := sm_le1 (f := f) (t0 := t0) n (by omega) (fun t ht => k t (by omega))
      omega
/-- the sum of chances grows -/
theorem s_MM_add {j : Nat} {A D : Int} (hg : g = a + 13 ∨ g = a + 49) (o : mOk M) (w' : Wd M a) (h : XD M a g n W L w (L + 1) B) (hw0 : B L = w0) (hp : Op M a L w0 w mul Sm) (j0 : w0 ≤ j) (j1 : j < w) (hA : 0 < A ∧ A < 1000000000) (hD : 0 < D ∧ D < 1000000000) (hdm : D ∣ mul) (hle : Sm + A * (mul / D) ≤ mul) : Cv G y_MM_add (d + 1) [vr a, vi j, vl A, vl D] M (fun M' => mOk M' ∧ Mv (fun _ => False) (fun x => a + 21186 ≤ x ∧ x ≤ a + 21187) M a M' ∧ mI M' = mI M ∧ XD M' a g n W L w (L + 1) B ∧ Op M' a L w0 w mul (Sm + A * (mul / D))) := by
  obtain ⟨y1, y2, y3⟩ := h.2.2.2.1 j j1
  have hw4 := h.2.1.2
  obtain ⟨p1, p2, p3, p4, p5⟩ := id hp
  have r42 : mR M a 42 = a + 21186 := w'.1.2.2.2.2.2.2.1.2.1
  have r43 : mR M a 43 = a + 21187 := w'.1.2.2.2.2.2.2.1.2.2.1
  have A6 : mK M (a + 21186) = 33 ∧ mN M (a + 21186) = 4096 := w'.1.2.2.2.2.2.2.2.2.2.1.2.1
  have A7 : mK M (a + 21187) = 33 ∧ mN M (a + 21187) = 4096 := w'.1.2.2.2.2.2.2.2.2.2.1.2.2.1
  have bj : ((0 : Int) ≤ (j : Int) ∧ (j : Int) < ((4096 : Nat) : Int)) := by omega
  refine k_MM_add o (i32s (by omega) (by omega)) ⟨by omega, by omega⟩ ⟨by omega, by omega⟩ ⟨w'.1.1, ?_⟩
  rw [r42, r43, Int.toNat_natCast]
  generalize hXA : mL M (a + 21186) j = XA at *
  generalize hXD : mL M (a + 21187) j = XDn at *
  have m1 : 0 ≤ XA * D ∧ XA * D ≤ 1000000000 * 1000000000 := ⟨Int.mul_nonneg (by omega) (by omega), Int.mul_le_mul (by omega) (by omega) (by omega) (by omega)⟩
  have m2 : 0 ≤ A * XDn ∧ A * XDn ≤ 1000000000 * 1000000000 := ⟨Int.mul_nonneg (by omega) (by omega), Int.mul_le_mul (by omega) (by omega) (by omega) (by omega)⟩
  have m3 : 0 < XDn * D ∧ XDn * D ≤ 1000000000 * 1000000000 := ⟨Int.mul_pos (by omega) (by omega), Int.mul_le_mul (by omega) (by omega) (by omega) (by omega)⟩
  have is : i64 (XA * D + A * XDn) := ⟨by omega, by omega⟩
  have iy : i64 (XDn * D) := ⟨by omega, by omega⟩
  refine ⟨A6.1, by rw [A6.2]; exact bj, A7.1, by rw [A7.2]; exact bj, by rw [A7.2]; exact bj, (s_MM_divisor2 (by omega) ⟨by omega, iy⟩ o).mono (fun q M1 h1 => ?_)⟩
  obtain ⟨e1, q1, q2, ⟨A', hA'⟩, ⟨D', hD'⟩, hgcd⟩ := h1
  subst e1
  have qn : q ≠ 0 := by omega
  have t1 : Int.tdiv (XA * D + A * XDn) q = A' := by rw [hA']; exact Int.mul_tdiv_cancel_left A' qn
  have t2 : Int.tdiv (XDn * D) q = D' := by rw [hD']; exact Int.mul_tdiv_cancel_left D' qn
  have xdm : XDn ∣ mul := by rw [← hXD]; exact p4 j j0 j1
  obtain ⟨A0, D0, dm, key⟩ := add_math (mul := mul) y3.1 hD.1 y2.1 hA.1 xdm hdm q1 hA' hD' hgcd
  -- the terms of the sum
  have nn : ∀ t, t < w - w0 → 0 ≤ mL M1 (a + 21186) (w0 + t) * (mul / mL M1 (a + 21187) (w0 + t)) := fun t ht => by
    have := h.2.2.2.1 (w0 + t) (by omega)
    exact Int.mul_nonneg (by omega) (Int.ediv_nonneg (by omega) (by omega))
  have le1 := sm_le1 (f := fun t => mL M1 (a + 21186) (w0 + t) * (mul / mL M1 (a + 21187) (w0 + t))) (t0 := j - w0) (w - w0) (by omega) nn
  rw [p5] at le1
  have le1' : XA * (mul / XDn) ≤ Sm := by
    have e : w0 + (j - w0) = j := by omega
    have : mL M1 (a + 21186) (w0 + (j - w0)) * (mul / mL M1 (a + 21187) (w0 + (j - w0))) ≤ Sm := le1
    rw [e, hXA, hXD] at this
    exact this
  obtain ⟨m, hm⟩ := dm
  have mm : mul / D' = m := by rw [hm]; exact Int.mul_ediv_cancel_left m (by omega)
  have m0 : 0 < m := by
    by_cases z : 0 < m
    · exact z
    · have := Int.mul_le_mul_of_nonneg_left (show m ≤ 0 by omega) (show 0 ≤ D' by omega)
      omega
  have AD : A' ≤ D' := by
    by_cases z : A' ≤ D'
    · exact z
    · have k1 := Int.mul_lt_mul_of_pos_right (show D' < A' by omega) m0
      rw [mm] at key
      omega
  have Dm : D' ≤ mul := by
    have := Int.mul_le_mul_of_nonneg_left (show 1 ≤ m by omega) (show 0 ≤ D' by omega)
    omega
  have iA' : i64 A' := ⟨by omega, by omega⟩
  have iD' : i64 D' := ⟨by omega, by omega⟩
  rw [t1, t2]
  refine ⟨⟨by omega, by have := iy.2; omega⟩, o, w'.1.1, is, qn, ?_⟩
  rw [r42]
  refine ⟨A6.1, by rw [A6.2]; exact bj, iA', fun M2 e2 => ⟨iy, qn, ?_⟩⟩
  obtain ⟨k2, f2, n2, i2⟩ := mv_ulx iA' o w' e2
  have w2 := k2.2.1
  rw [show mR M2 a 43 = a + 21187 from w2.1.2.2.2.2.2.2.1.2.2.1]
  have A72 : mK M2 (a + 21187) = 33 ∧ mN M2 (a + 21187) = 4096 := w2.1.2.2.2.2.2.2.2.2.2.1.2.2.1
  refine ⟨A72.1, by rw [A72.2]; exact bj, iD', fun M3 e3 => ?_⟩
  obtain ⟨k3, f3, n3, i3⟩ := mv_ulx iD' k2.1 w2 e3
  have iI : mI M3 = mI M1 := by rw [i3, i2]
  have l86 : ∀ k, mL M3 (a + 21186) k = if k = j then A' else mL M1 (a + 21186) k := fun k => by rw [n3 _ (by omega), f2]
  have l87 : ∀ k, mL M3 (a + 21187) k = if k = j then D' else mL M1 (a + 21187) k := fun k => by rw [f3, n2 _ (by omega)]
  have kk : Mv (fun _ => False) (fun x => a + 21186 ≤ x ∧ x ≤ a + 21187) M1 a M3 := (k2.mono (fun _ z => z) (fun x z => by omega) (fun _ z => z.elim)).trans (k3.mono (fun _ z => z) (fun x z => by omega) (fun _ z => z.elim))
  have no : ∀ q : Nat, False → q ∈ nums a := fun _ z => z.elim
  have gs := gs_st w' hg kk no (fun _ z => z.elim) (fun x z => by omega)
  have s : ∀ {q}, q ∈ nums a → sameN M1 M3 q := fun hq => kk.lst hq (fun z => z)
  obtain ⟨h1, h2, h3, h4, h5, h6, h7⟩ := id h
  have mB := h.mono
  refine ⟨kk.1, kk, iI, ⟨by rw [iI]; exact h1, by rw [iI]; exact h2, fun k v hk hv => ?_, fun i hi => ?_, by rw [(s k109).1, (s k111).1, (s k113).1, (s k115).1]; exact h5, h6, fun i hi => (h7 i hi).cg ((s k111).2.1 i) ((s k113).2.1 i) ((s k115).2.1 i) (fun t _ t2 => ?_)⟩, p1, by rw [(s k111).2.1, (s k113).2.1, (s k115).2.1]; exact p2, p3, fun i i1 i2' => ?_, ?_⟩
  · rw [iI]; exact h3 k v hk hv
  · rw [iI, l86, l87]
    by_cases z : i = j
    · rw [if_pos z, if_pos z]
      exact ⟨(h4 i hi).1, by omega, by omega⟩
    · rw [if_neg z, if_neg z]
      exact h4 i hi
  · have := mB (i + 1) L (by omega) (Nat.le_refl _)
    rw [l86, l87, if_neg (by omega), if_neg (by omega)]
    exact ⟨rfl, rfl⟩
  · rw [l87]
    by_cases z : i = j
    · rw [if_pos z, hm]; exact Int.dvd_mul_right D' m
    · rw [if_neg z]; exact p4 i i1 i2'
  · rw [sm_upd (f := fun t => mL M1 (a + 21186) (w0 + t) * (mul / mL M1 (a + 21187) (w0 + t))) (t0 := j - w0) (w - w0) (by omega) (fun t ht hne => ?_), p5]
    · show Sm - mL M1 (a + 21186) (w0 + (j - w0)) * (mul / mL M1 (a + 21187) (w0 + (j - w0))) + mL M3 (a + 21186) (w0 + (j - w0)) * (mul / mL M3 (a + 21187) (w0 + (j - w0))) = _
      rw [show w0 + (j - w0) = j by omega, l86, l87, if_pos rfl, if_pos rfl, hXA, hXD, key]
      omega
    · show mL M3 (a + 21186) (w0 + t) * (mul / mL M3 (a + 21187) (w0 + t)) = mL M1 (a + 21186) (w0 + t) * (mul / mL M1 (a + 21187) (w0 + t))
      rw [l86, l87, if_neg (by omega), if_neg (by omega)]
end AWY
end
section
/-! The reference: a way to a state. -/
section WAY
variable {G : mG} {d a g T R W C Z n L w w0 : Nat} {M M' M2 M3 : mM} {E : Nat → Nat} {tg mul Sm : Int} {B : Nat → Nat} {P S : Nat → Prop}
abbrev wyP (a : Nat) : Nat → Prop := fun q => q = a + 99 ∨ q = a + 113
abbrev wyS (a : Nat) : Nat → Prop := fun x => woS a x ∨ x = a + 105 ∨ (a + 21185 ≤ x ∧ x ≤ a + 21188)
def wyF (M : mM) (a : Nat) (M' : mM) : Prop := Mv (wyP a) (wyS a) M a M' ∧ ∀ i, i ≠ 16 → i ≠ 17 → i ≠ 23 → i ≠ 29 → i ≠ 40 → mI M' a i = mI M a i
theorem wyP_in {q : Nat} (h : wyP a q) : q ∈ nums a := by
  rcases h with h | h
  · rw [h]; exact n99
  · rw [h]; exact k113
theorem wyS_un {x : Nat} (h : wyS a x) : x = a ∨ (a + 97 ≤ x ∧ x ≤ a + 98) ∨ (a + 102 ≤ x ∧ x ≤ a + 105) ∨ (a + 21185 ≤ x ∧ x ≤ a + 21188) := by
  have h' : (x = a ∨ x = a + 97 ∨ x = a + 98 ∨ x = a + 102 ∨ x = a + 103 ∨ x = a + 104) ∨ x = a + 105 ∨ (a + 21185 ≤ x ∧ x ≤ a + 21188) := h
  omega
theorem wyF.trans (h : wyF M a M2) (k : wyF M2 a M3) : wyF M a M3 := ⟨h.1.trans k.1, fun i i1 i2 i3 i4 i5 => (k.2 i i1 i2 i3 i4 i5).trans (h.2 i i1 i2 i3 i4 i5)⟩
theorem wyF.mk (w : Wd M a) (m : Mv P S M a M') (hP : ∀ q, P q → wyP a q) (hS : ∀ x, S x → wyS a x) (hf : ∀ i, i ≠ 16 → i ≠ 17 → i ≠ 23 → i ≠ 29 → i ≠ 40 → mI M' a i = mI M a i) : wyF M a M' := ⟨m.mono hP hS (fun q hq => w.lt (wyP_in hq)), hf⟩
/-- a way has been found -/
def wyQ (M : mM) (a g T R W C Z : Nat) (E : Nat → Nat) (tg : Int) (n L w w0 : Nat) (mul Sm : Int) (B : Nat → Nat) (M' : mM) : Prop := wyF M a M' ∧ GG M' a g T R W C Z E tg ∧ En M' a g R W ∧ (mI M' a 16 ≠ 0 ∨ (mI M' a 16 = 0 ∧ ∃ n' w' : Nat, n ≤ n' ∧ (w' = w ∨ w' = w + 1) ∧ XD M' a g n' W L w' (L + 1) B ∧ Op M' a L w0 w' mul Sm))
theorem Op.same (h : Op M a L w0 w mul Sm) (c86 : mL M' (a + 21186) = mL M (a + 21186)) (c87 : mL M' (a + 21187) = mL M (a + 21187)) (l11 : sl M M' (a + 111)) (l13 : sl M M' (a + 113)) (l15 : sl M M' (a + 115)) : Op M' a L w0 w mul Sm := by
  unfold Op
  rw [c86, c87, l11.2, l13.2, l15.2]
  exact h
theorem Op.mv (h : Op M a L w0 w mul Sm) (w' : Wd M a) (m : Mv P S M a M') (hin : ∀ q, P q → q ∈ nums a) (hP : ∀ q, P q → q ≠ a + 111 ∧ q ≠ a + 113 ∧ q ≠ a + 115) (hS : ∀ x, S x → x ≠ a + 21186 ∧ x ≠ a + 21187) : Op M' a L w0 w mul Sm :=
  h.same (m.cellL w' hin (offx (a := a) (o := 21186) (by decide)) (fun z => (hS _ z).1 rfl)).2 (m.cellL w' hin (offx (a := a) (o := 21187) (by decide)) (fun z => (hS _ z).2 rfl)).2 (m.lst k111 (fun z => (hP _ z).1 rfl)).sl (m.lst k113 (fun z => (hP _ z).2.1 rfl)).sl (m.lst k115 (fun z => (hP _ z).2.2 rfl)).sl
/-- a new way is put down -/
theorem way_new {to A D : Int} {M4 M5 M6 M7 : mM} (o : mOk M2) (wd : Wd M2 a) (hg : g = a + 13 ∨ g = a + 49) (h : XD M2 a g n W L w (L + 1) B) (hw0 : B L = w0) (hp : Op M2 a L w0 w mul Sm) (hw : w < 4096) (ht : 0 ≤ to ∧ to < n) (hA : 0 < A ∧ A < 1000000000) (hD : 0 < D ∧ D < 1000000000) (hdm : D ∣ mul) (e3 : M3 = mUI M2 (a + 21185) w to) (e4 : M4 = mUL M3 (a + 21186) w A) (e5 : M5 = mUL M4 (a + 21187) w D) (e6 : M6 = mUI M5 a 40 ((w : Int) + 1)) (e7 : M7 = mUI M6 (mR M6 (a + 113) 0) L (nt M6 (a + 113) L + 1)) : (Wd M3 a ∧ Wd M4 a ∧ Wd M5 a ∧ Wd M6 a) ∧ (mI M3 a = mI M2 a ∧ mI M4 a = mI M2 a ∧ mI M5 a = mI M2 a) ∧ nt M6 (a + 113) L = ((w - w0 : Nat) : Int) ∧ ln M6 (a + 113) = (L + 1 : Nat) ∧ (mL M3 = mL M2 ∧ (∀ y, y ≠ a + 21186 → mL M4 y = mL M2 y)) ∧ wyF M2 a M7 ∧ Mv (fun x => x = a + 113) (fun x => x = a ∨ (a + 21185 ≤ x ∧ x ≤ a + 21187)) M2 a M7 ∧ mI M7 a 16 = mI M2 a 16 ∧ XD M7 a g n W L (w + 1) (L + 1) B ∧ Op M7 a L w0 (w + 1) mul (Sm + A * (mul / D)) := by
  have hn5 := h.1.2.2
  obtain ⟨m3, f3, l3⟩ := mv_cell (v := to) ⟨by omega, by omega⟩ o wd (show a ≤ a + 21185 by omega) (offx (a := a) (o := 21185) (by decide)) e3
  obtain ⟨m4, f4, n4, i4⟩ := mv_ulx (v := A) ⟨by omega, by omega⟩ m3.1 m3.2.1 e4
  obtain ⟨m5, f5, n5', i5⟩ := mv_ulx (v := D) ⟨by omega, by omega⟩ m4.1 m4.2.1 e5
  obtain ⟨m6, f6⟩ := mv_fld (v := (w : Int) + 1) (i32s (by omega) (by omega)) m5.1 m5.2.1 e6
  have no : ∀ q : Nat, False → q ∈ nums a := fun _ z => z.elim
  have nz : ∀ {Mx : mM} (q : Nat), False → q < mZ Mx := fun _ z => z.elim
  have m26 : Mv (fun _ => False) (fun x => x = a ∨ (a + 21185 ≤ x ∧ x ≤ a + 21187)) M2 a M6 := (((m3.mono (fun _ z => z) (fun x z => Or.inr (by omega)) nz).trans (m4.mono (fun _ z => z) (fun x z => Or.inr (by omega)) nz)).trans (m5.mono (fun _ z => z) (fun x z => Or.inr (by omega)) nz)).trans (m6.mono (fun _ z => z) (fun x z => Or.inl z) nz)
  have s6 : ∀ {q}, q ∈ nums a → sameN M2 M6 q := fun hq => m26.lst hq (fun z => z)
  obtain ⟨p1, p2, p3, p4, p5⟩ := id hp
  have t13 : nt M6 (a + 113) L = ((w - w0 : Nat) : Int) := by rw [(s6 k113).2.1]; exact p2.2.1
  obtain ⟨m7, l7, f7, -⟩ := mv_el (v := nt M6 (a + 113) L + 1) (by rw [t13]; exact i32s (by omega) (by omega)) m6.1 m6.2.1 k113 e7
  have i3a := (m3.fld wd no (by omega)).1
  have aI3 : mI M3 a = mI M2 a := i3a
  have aI4 : mI M4 a = mI M2 a := by rw [i4]; exact i3a
  have aI5 : mI M5 a = mI M2 a := by rw [i5]; exact aI4
  have in13 : ∀ q, q = a + 113 → q ∈ nums a := fun q hq => by rw [hq]; exact k113
  have aI7 : mI M7 a = mI M6 a := (m7.fld m6.2.1 in13 (fun z => z)).1
  have F7 : ∀ i, mI M7 a i = if i = 40 then (w : Int) + 1 else mI M2 a i := fun i => by rw [aI7, f6, aI5]
  have l13 : ∀ q, q = a + 113 → q < mZ M2 := fun q hq => by rw [hq]; exact wd.lt k113
  have m27 : Mv (fun x => x = a + 113) (fun x => x = a ∨ (a + 21185 ≤ x ∧ x ≤ a + 21187)) M2 a M7 := (m26.mono (fun _ z => z.elim) (fun x z => z) l13).trans (m7.mono (fun q hq => hq) (fun _ z => z.elim) (fun q hq => by rw [hq]; exact m6.2.1.lt k113))
  have gs := gs_st wd hg m27 in13 (fun q hq z => by
    have z' : q = g + 1 ∨ q = g + 3 ∨ q = g + 5 ∨ q = g + 7 ∨ q = g + 9 ∨ q = g + 11 ∨ q = g + 30 ∨ q = g + 32 ∨ q = g + 34 := z
    omega) (fun x hx => by omega)
  have W7 : wyF M2 a M7 := wyF.mk wd m27 (fun q hq => Or.inr hq) (fun x hx => by
    rcases hx with z | z
    · exact Or.inl (Or.inl z)
    · exact Or.inr (Or.inr (by omega))) (fun i _ _ _ _ i5 => by rw [F7, if_neg i5])
  have s7 : ∀ {q}, q ∈ nums a → q ≠ a + 113 → sl M2 M7 q := fun hq hne => (m27.lst hq hne).sl
  have c105 := (m27.cellL wd in13 (offx (a := a) (o := 105) (by decide)) (by omega)).1
  have w6 := m6.2.1
  have o85 := offx (a := a) (o := 21185) (by decide)
  have o86 := offx (a := a) (o := 21186) (by decide)
  have o87 := offx (a := a) (o := 21187) (by decide)
  have e85 : ∀ k, mI M7 (a + 21185) k = if k = w then to else mI M2 (a + 21185) k := fun k => by
    rw [(m7.cellL w6 in13 o85 (fun z => z)).1, (m6.cellL m5.2.1 no o85 (by omega)).1, i5, i4, f3]
    by_cases z : k = w
    · rw [if_pos ⟨rfl, z⟩, if_pos z]
    · rw [if_neg (fun y => z y.2), if_neg z]
  have e86 : ∀ k, mL M7 (a + 21186) k = if k = w then A else mL M2 (a + 21186) k := fun k => by
    rw [(m7.cellL w6 in13 o86 (fun z => z)).2, (m6.cellL m5.2.1 no o86 (by omega)).2, n5' _ (by omega), f4, l3]
  have e87 : ∀ k, mL M7 (a + 21187) k = if k = w then D else mL M2 (a + 21187) k := fun k => by
    rw [(m7.cellL w6 in13 o87 (fun z => z)).2, (m6.cellL m5.2.1 no o87 (by omega)).2, f5, n4 _ (by omega), l3]
  have e113 : ∀ k, nt M7 (a + 113) k = if k = L then ((w - w0 : Nat) : Int) + 1 else nt M2 (a + 113) k := fun k => by
    rw [f7, t13, (s6 k113).2.1]
  obtain ⟨h1, h2, h3, h4, h5, h6, h7⟩ := id h
  have mB := h.mono
  refine ⟨⟨m3.2.1, m4.2.1, m5.2.1, w6⟩, ⟨aI3, aI4, aI5⟩, t13, by rw [(s6 k113).1]; exact h5.2.2.1, ⟨l3, fun y hy => by rw [n4 y hy, l3]⟩, W7, m27, by rw [F7, if_neg (by decide)], ⟨by rw [F7, if_neg (by decide)]; exact h1, ⟨by rw [F7, if_pos rfl]; omega, by omega⟩, fun k v hk hv => ?_, fun j hj => ?_, ?_, ⟨h6.1, by omega, h6.2.2⟩, fun i hi => ?_⟩, by omega, ?_, p3, fun j j0 j1 => ?_, ?_⟩
  · rw [(gs.2.1 19 (by omega) (by omega)).1, (gs.2.1 20 (by omega) (by omega)).1, c105]
    exact h3 k v hk hv
  · rw [e85, e86, e87]
    by_cases z : j = w
    · rw [if_pos z, if_pos z, if_pos z]
      exact ⟨ht, hA, hD⟩
    · rw [if_neg z, if_neg z, if_neg z]
      exact h4 j (by omega)
  · rw [(s7 k109 (by omega)).1, (s7 k111 (by omega)).1, (s7 k115 (by omega)).1, l7, (s6 k113).1]
    exact h5
  · have := mB (i + 1) L (by omega) (Nat.le_refl _)
    refine (h7 i hi).cg ((s7 k111 (by omega)).2 i) (by rw [e113, if_neg (by omega)]) ((s7 k115 (by omega)).2 i) (fun j j0 j1 => ?_)
    rw [e86, e87, if_neg (by omega), if_neg (by omega)]
    exact ⟨rfl, rfl⟩
  · rw [(s7 k111 (by omega)).2, (s7 k115 (by omega)).2, e113, if_pos rfl]
    exact ⟨p2.1, by omega, p2.2.2⟩
  · rw [e87]
    by_cases z : j = w
    · rw [if_pos z]; exact hdm
    · rw [if_neg z]; exact p4 j j0 (by omega)
  · rw [show w + 1 - w0 = (w - w0) + 1 by omega]
    show sm (fun t => mL M7 (a + 21186) (w0 + t) * (mul / mL M7 (a + 21187) (w0 + t))) (w - w0) + mL M7 (a + 21186) (w0 + (w - w0)) * (mul / mL M7 (a + 21187) (w0 + (w - w0))) = _
    rw [show w0 + (w - w0) = w by omega, e86, e87, if_pos rfl, if_pos rfl, ← p5]
    have : sm (fun t => mL M7 (a + 21186) (w0 + t) * (mul / mL M7 (a + 21187) (w0 + t))) (w - w0) = sm (fun t => mL M2 (a + 21186) (w0 + t) * (mul / mL M2 (a + 21187) (w0 + t))) (w - w0) := sm_congr _ (fun t ht => by
      show mL M7 (a + 21186) (w0 + t) * (mul / mL M7 (a + 21187) (w0 + t)) = mL M2 (a + 21186) (w0 + t) * (mul / mL M2 (a + 21187) (w0 + t))
      rw [e86, e87, if_neg (by omega), if_neg (by omega)])
    rw [this]
end WAY
end
section
/-! The reference: way. -/
section WAY2
variable {G : mG} {d a g T R W C Z n L w w0 : Nat} {M M2 : mM} {E : Nat → Nat} {tg mul Sm A D : Int} {B : Nat → Nat}
/-- inside way -/
def wI (M : mM) (a g T R W C Z : Nat) (E : Nat → Nat) (tg : Int) (n L w w0 : Nat) (mul Sm A D : Int) (B : Nat → Nat) (b : Nat) (M2 : mM) : Prop := wyF M a M2 ∧ GG M2 a g T R W C Z E tg ∧ En M2 a g R W ∧ XD M2 a g n W L w (L + 1) B ∧ Op M2 a L w0 w mul Sm ∧ mL M2 (a + 21189) b = A ∧ mL M2 (a + 21190) b = D
/-- a step that leaves ways and states -/
theorem wI.st {b : Nat} {M3 : mM} {P S : Nat → Prop} (h : wI M a g T R W C Z E tg n L w w0 mul Sm A D B b M2) (m : Mv P S M2 a M3) (hP : ∀ q, P q → q = a + 99) (hS : ∀ x, S x → woS a x ∨ x = a + 21188) (hf : ∀ i, i ≠ 16 → i ≠ 17 → i ≠ 23 → mI M3 a i = mI M2 a i) (en : En M3 a g R W) : wI M a g T R W C Z E tg n L w w0 mul Sm A D B b M3 := by
  obtain ⟨h1, h2, h3, h4, h5, h6, h7⟩ := h
  have w2 := h2.2.1
  have hg := h2.2.2.1.2
  have hin : ∀ q, P q → q ∈ nums a := fun q hq => in99 q (hP q hq)
  have un : ∀ x, S x → x = a ∨ (a + 97 ≤ x ∧ x ≤ a + 98) ∨ (a + 102 ≤ x ∧ x ≤ a + 104) ∨ x = a + 21188 := fun x hx => by
    have h' : (x = a ∨ x = a + 97 ∨ x = a + 98 ∨ x = a + 102 ∨ x = a + 103 ∨ x = a + 104) ∨ x = a + 21188 := hS x hx
    omega
  have gs := gs_st w2 hg m hin (fun q hq z => by
    have z' : q = g + 1 ∨ q = g + 3 ∨ q = g + 5 ∨ q = g + 7 ∨ q = g + 9 ∨ q = g + 11 ∨ q = g + 30 ∨ q = g + 32 ∨ q = g + 34 := z
    have := hP q hq
    omega) (fun x hx => by have := un x hx; omega)
  refine ⟨h1.trans (wyF.mk w2 m (fun q hq => Or.inl (hP q hq)) (fun x hx => (hS x hx).imp (fun z => z) (fun z => Or.inr (by omega))) (fun i i1 i2 i3 _ _ => hf i i1 i2 i3)), h2.gs m.1 m.2.1 (by rw [m.rfl_a w2 hin]) gs, en, h4.mv w2 m hin (fun q hq => by have := hP q hq; omega) (fun x hx => by have := un x hx; omega) gs (hf 29 (by decide) (by decide) (by decide)) (hf 40 (by decide) (by decide) (by decide)), h5.mv w2 m hin (fun q hq => by have := hP q hq; omega) (fun x hx => by have := un x hx; omega), ?_, ?_⟩
  · rw [(m.cellL w2 hin (offx (a := a) (o := 21189) (by decide)) (fun z => by have := un _ z; omega)).2]; exact h6
  · rw [(m.cellL w2 hin (offx (a := a) (o := 21190) (by decide)) (fun z => by have := un _ z; omega)).2]; exact h7
theorem wI.x {b : Nat} {S' : Int} (h : wI M a g T R W C Z E tg n L w w0 mul Sm A D B b M2) (z : mI M2 a 16 ≠ 0) : wyQ M a g T R W C Z E tg n L w w0 mul S' B M2 := ⟨h.1, h.2.1, h.2.2.1, Or.inl z⟩
theorem wI.stp {b : Nat} {S' c p : Int} {M3 : mM} (h : wI M a g T R W C Z E tg n L w w0 mul Sm A D B b M2) (hc : c ≠ 0) (q : Mv (fun _ => False) (fun x => x = a) M2 a M3 ∧ mI M3 a 16 = c ∧ mI M3 a 17 = p ∧ ∀ i, i ≠ 16 → i ≠ 17 → mI M3 a i = mI M2 a i) : wyQ M a g T R W C Z E tg n L w w0 mul S' B M3 := by
  have w2 := h.2.1.2.1
  have hg := h.2.1.2.2.1.2
  have no : ∀ q : Nat, False → q ∈ nums a := fun _ z => z.elim
  have gs := gs_st w2 hg q.1 no (fun _ z => z.elim) (fun x z => by omega)
  have en := h.2.2.1.mv w2 q.1 no gs (fun x z => by omega)
  exact (h.st q.1 (fun _ z => z.elim) (fun x z => Or.inl (Or.inl z)) (fun i i1 i2 _ => q.2.2.2 i i1 i2) en).x (by rw [q.2.1]; exact hc)
/-- the way is looked for among those of this command -/
theorem s_way187 {b : Nat} {pl to : Int} (ipl : i32 pl) (hb : b < 8) (hw0 : B L = w0) (hA : 0 < A ∧ A < 1000000000) (hD : 0 < D ∧ D < 1000000000) (hdm : D ∣ mul) (hle : Sm + A * (mul / D) ≤ mul) (ht : 0 ≤ to ∧ to < n) (h : wI M a g T R W C Z E tg n L w w0 mul Sm A D B b M2) (z16 : mI M2 a 16 = 0) (hL : L ≤ 4096) : ∀ (t j : Nat), w0 ≤ j → j + t = w → h_MM_way_187 G (d + 6) a b pl to L j M2 (fun M' => mOk M' ∧ wyQ M a g T R W C Z E tg n L w w0 mul (Sm + A * (mul / D)) B M') := by
  obtain ⟨x1, gg, en, xd, op, cA, cD⟩ := id h
  have o2 := gg.1
  have w2 := gg.2.1
  have hg := gg.2.2.1.2
  have hn5 := xd.1.2.2
  have hw4 := xd.2.1.2
  have f40 := xd.2.1.1
  have l13 := xd.2.2.2.2.1.2.2.1
  have ito : i32 to := ⟨by omega, by omega⟩
  have ib : i32 (b : Int) := i32s (by omega) (by omega)
  have iL : i32 (L : Int) := i32s (by omega) (by omega)
  have b8 : ((0 : Int) ≤ (b : Int) ∧ (b : Int) < ((8 : Nat) : Int)) := by omega
  have pr : ∀ {Mx : mM}, Wd Mx a → (mR Mx a 41 = a + 21185 ∧ mR Mx a 42 = a + 21186 ∧ mR Mx a 43 = a + 21187 ∧ mR Mx a 45 = a + 21189 ∧ mR Mx a 46 = a + 21190) := fun w => ⟨w.1.2.2.2.2.2.2.1.1, w.1.2.2.2.2.2.2.1.2.1, w.1.2.2.2.2.2.2.1.2.2.1, w.1.2.2.2.2.2.2.1.2.2.2.2.1, w.1.2.2.2.2.2.2.1.2.2.2.2.2.1⟩
  have ar : ∀ {Mx : mM}, Wd Mx a → ((mK Mx (a + 21185) = 30 ∧ mN Mx (a + 21185) = 4096) ∧ (mK Mx (a + 21186) = 33 ∧ mN Mx (a + 21186) = 4096) ∧ (mK Mx (a + 21187) = 33 ∧ mN Mx (a + 21187) = 4096)) := fun w => ⟨w.1.2.2.2.2.2.2.2.2.2.1.1, w.1.2.2.2.2.2.2.2.2.2.1.2.1, w.1.2.2.2.2.2.2.2.2.2.1.2.2.1⟩
  intro t
  induction t with
  | zero =>
    intro j j0 hj
    have ej : j = w := by omega
    subst ej
    have bw : j < 4096 → ((0 : Int) ≤ (j : Int) ∧ (j : Int) < ((4096 : Nat) : Int)) := fun _ => by omega
    refine k_MM_way_187 o2 ib ipl ito iL (i32s (by omega) (by omega)) ⟨w2.1.1, ?_⟩
    rw [f40]
    refine ⟨fun _ => ⟨fun q => (s_MM_stop ⟨by decide, by decide⟩ ipl o2 w2).mono (fun M3 h3 => ⟨h3.1.1, h3.1.1, h.stp (by decide) h3⟩), fun q => ?_⟩, fun q => absurd (Int.le_refl _) q⟩
    have hw : j < 4096 := by omega
    have bw := bw hw
    rw [(pr w2).1, Int.toNat_natCast]
    refine ⟨(ar w2).1.1, by rw [(ar w2).1.2]; exact bw, fun M3 e3 => ?_⟩
    have N := fun (M4 M5 M6 M7 : mM) e4 e5 e6 e7 => way_new (M4 := M4) (M5 := M5) (M6 := M6) (M7 := M7) o2 w2 hg xd hw0 op hw ht hA hD hdm e3 e4 e5 e6 e7
    have N3 := N _ _ _ _ rfl rfl rfl rfl
    have w3 := N3.1.1
    have l3 := N3.2.2.2.2.1.1
    have a3 := N3.2.1.1
    rw [(pr w3).2.2.2.1, (pr w3).2.1, a3, f40, Int.toNat_natCast, Int.toNat_natCast, l3, cA]
    refine ⟨(r4546 w3).2.1.1, by rw [(r4546 w3).2.1.2]; exact b8, (ar w3).2.1.1, by rw [(ar w3).2.1.2]; exact bw, fun M4 e4 => ?_⟩
    have N4 := N M4 _ _ _ e4 rfl rfl rfl
    have w4 := N4.1.2.1
    have a4 := N4.2.1.2.1
    have l4 := N4.2.2.2.2.1.2
    rw [(pr w4).2.2.2.2, (pr w4).2.2.1, a4, f40, Int.toNat_natCast, l4 (a + 21190) (by omega), cD]
    refine ⟨(r4546 w4).2.2.1, by rw [(r4546 w4).2.2.2]; exact b8, (ar w4).2.2.1, by rw [(ar w4).2.2.2]; exact bw, fun M5 e5 => ?_⟩
    have N5 := N M4 M5 _ _ e4 e5 rfl rfl
    have w5 := N5.1.2.2.1
    have a5 := N5.2.1.2.2
    rw [a5, f40]
    refine ⟨i32s (by omega) (by omega), fun M6 e6 => ?_⟩
    have N6 := N M4 M5 M6 _ e4 e5 e6 rfl
    have w6 := N6.1.2.2.2
    have t13 : mI M6 (mR M6 (a + 113) 0) L = ((j - w0 : Nat) : Int) := N6.2.2.1
    have u13 := w6.nu (k113 (a := a))
    have c13 : ((L + 1 : Nat) : Int) ≤ cp M6 (a + 113) := by rw [← N6.2.2.2.1]; exact u13.2.2.2.1.2
    have ecp : mN M6 (mR M6 (a + 113) 0) = cp M6 (a + 113) := rfl
    rw [show mR M6 a 37 = a + 113 from w6.1.2.2.2.2.2.1.2.2.2.2.2.2.1, Int.toNat_natCast]
    refine ⟨u13.1, u13.2.1, by rw [ecp]; omega, by rw [ecp]; omega, by rw [t13]; exact i32s (by omega) (by omega), fun M7 e7 => ?_⟩
    obtain ⟨-, -, -, -, -, W7, m7, e16, X7, O7⟩ := N M4 M5 M6 M7 e4 e5 e6 e7
    have in13 : ∀ q, q = a + 113 → q ∈ nums a := fun q hq => by rw [hq]; exact k113
    have gs := gs_st w2 hg m7 in13 (fun q hq z => by
      have z' : q = g + 1 ∨ q = g + 3 ∨ q = g + 5 ∨ q = g + 7 ∨ q = g + 9 ∨ q = g + 11 ∨ q = g + 30 ∨ q = g + 32 ∨ q = g + 34 := z
      omega) (fun x hx => by omega)
    exact ⟨m7.1, x1.trans W7, gg.gs m7.1 m7.2.1 (by rw [m7.rfl_a w2 in13]) gs, en.mv w2 m7 in13 gs (fun x hx => by omega), Or.inr ⟨by rw [e16]; exact z16, n, j + 1, Nat.le_refl _, Or.inr rfl, X7, O7⟩⟩
  | succ t ih =>
    intro j j0 hj
    have bj : ((0 : Int) ≤ (j : Int) ∧ (j : Int) < ((4096 : Nat) : Int)) := by omega
    refine k_MM_way_187 o2 ib ipl ito iL (i32s (by omega) (by omega)) ⟨w2.1.1, ?_⟩
    rw [f40, (pr w2).1, (pr w2).2.2.2.1, (pr w2).2.2.2.2, Int.toNat_natCast, Int.toNat_natCast, cA, cD]
    refine ⟨fun q => absurd q (by omega), fun _ => ⟨(ar w2).1.1, by rw [(ar w2).1.2]; exact bj, fun _ => ⟨(r4546 w2).2.1.1, by rw [(r4546 w2).2.1.2]; exact b8, (r4546 w2).2.2.1, by rw [(r4546 w2).2.2.2]; exact b8, ?_⟩, fun _ => ?_⟩⟩
    · refine (s_MM_add (d := d + 5) hg o2 w2 xd hw0 op j0 (by omega) hA hD hdm hle).mono (fun M3 t3 => ?_)
      obtain ⟨o3, m3, i3, X3, O3⟩ := t3
      have no : ∀ q : Nat, False → q ∈ nums a := fun _ z => z.elim
      have gs := gs_st w2 hg m3 no (fun _ z => z.elim) (fun x z => by omega)
      have W3 : wyF M2 a M3 := wyF.mk w2 m3 (fun _ z => z.elim) (fun x z => Or.inr (Or.inr (by omega))) (fun i _ _ _ _ _ => by rw [i3])
      exact ⟨o3, o3, x1.trans W3, gg.gs o3 m3.2.1 (by rw [m3.rfl_a w2 no]) gs, en.mv w2 m3 no gs (fun x z => by omega), Or.inr ⟨by rw [i3]; exact z16, n, w, Nat.le_refl _, Or.inl rfl, X3, O3⟩⟩
    · rw [show (j : Int) + 1 = ((j + 1 : Nat) : Int) by omega]
      exact ih (j + 1) (by omega) (by omega)
end WAY2
end
