section
/-! The reference: a state is entered. -/
section ENT
variable {G : mG} {d a g T R W C Z : Nat} {M M' : mM} {E : Nat → Nat} {tg : Int} {P S : Nat → Prop}
theorem En.mv (h : En M a g R W) (w : Wd M a) (m : Mv P S M a M') (hin : ∀ q, P q → q ∈ nums a) (gs : Gs M M' g) (hS : ∀ x, S x → ¬ (a + 101 ≤ x ∧ x ≤ a + 104)) : En M' a g R W := by
  have c101 := m.cellL w hin (offx (a := a) (o := 101) (by decide)) (fun z => hS _ z (by omega))
  have c102 := m.cellL w hin (offx (a := a) (o := 102) (by decide)) (fun z => hS _ z (by omega))
  have c103 := m.cellL w hin (offx (a := a) (o := 103) (by decide)) (fun z => hS _ z (by omega))
  have c104 := m.cellL w hin (offx (a := a) (o := 104) (by decide)) (fun z => hS _ z (by omega))
  unfold En
  rw [gs_tn gs, c101.1, c102.1, c103.2, c104.2, (gs.2.1 13 (by omega) (by omega)).1, (gs.2.1 19 (by omega) (by omega)).1, (gs.2.1 20 (by omega) (by omega)).1]
  exact h
theorem s_MM_enter {k : Nat} (h : GG M a g T R W C Z E tg) (hk : k < 512) (hv : ∀ v : Nat, v < W → mI M (g + 19) v ≤ mI M (a + 105) (12 * k + v) ∧ mI M (a + 105) (12 * k + v) ≤ mI M (g + 20) v) : Cv G y_MM_enter d [vr a, vi k] M (fun M' => mOk M' ∧ Mv (fun _ => False) (fun x => x = a + 101 ∨ x = a + 102) M a M' ∧ En M' a g R W) := by
  have hO := h.1
  have w := h.2.1
  have hg := h.2.2.1.2
  have hBd := h.2.2.2.2.2.2.2.1.1
  have g6 := h.2.2.2.2.2.1.1
  have g12 := h.2.2.2.2.2.1.2.1
  have r9 := h.2.2.1.1
  have ik : i32 (k : Int) := i32s (by omega) (by omega)
  have no : ∀ q : Nat, False → q ∈ nums a := fun _ z => z.elim
  have gsl : ∀ {Mx : mM}, Mv (fun _ => False) (fun x => x = a + 101 ∨ x = a + 102) M a Mx → Gs M Mx g := fun m => gs_st w hg m no (fun _ z => z.elim) (fun x hx => by omega)
  -- the formulas are forgotten
  have L2 : ∀ (c r : Nat) (M2 : mM), r + c = R → Mv (fun _ => False) (fun x => x = a + 101 ∨ x = a + 102) M a M2 → (∀ v : Nat, v < W → mI M2 (a + 101) v = mI M (a + 105) (12 * k + v)) → (∀ r' : Nat, r' < r → mI M2 (a + 102) r' = 0) → h_MM_enter_38 G d a r M2 (fun M' => mOk M' ∧ Mv (fun _ => False) (fun x => x = a + 101 ∨ x = a + 102) M a M' ∧ En M' a g R W) := by
    intro c
    induction c with
    | zero =>
      intro r M2 hr m2 n2 f2
      have er : r = R := by omega
      subst er
      have w2 := m2.2.1
      have gs := gsl m2
      refine k_MM_enter_38 m2.1 (i32s (by omega) (by omega)) ⟨w2.1.1, ?_⟩
      rw [m2.rfl_a w no, r9, gs.1, g6]
      refine ⟨(w2.gp hg).1, fun _ => ⟨m2.1, m2, fun r hr _ q => absurd (f2 r hr) q, fun v hv' => ?_⟩, fun q => absurd (Int.le_refl _) q⟩
      rw [(gs.2.1 19 (by omega) (by omega)).1, (gs.2.1 20 (by omega) (by omega)).1, n2 v hv']
      exact hv v hv'
    | succ c ih =>
      intro r M2 hr m2 n2 f2
      have w2 := m2.2.1
      have gs := gsl m2
      have A2 : mK M2 (a + 102) = 31 ∧ mN M2 (a + 102) = 60 := w2.1.2.2.2.2.2.2.2.1.2.2.2.1
      refine k_MM_enter_38 m2.1 (i32s (by omega) (by omega)) ⟨w2.1.1, ?_⟩
      rw [show mR M2 a 26 = a + 102 from w2.1.2.2.2.2.1.2.2.2.2.2.2.2.2.2.2.1, m2.rfl_a w no, r9, gs.1, g6, Int.toNat_natCast]
      refine ⟨(w2.gp hg).1, fun q => absurd q (by omega), fun _ => ⟨A2.1, by rw [A2.2]; omega, fun M3 e3 => ?_⟩⟩
      obtain ⟨m3, f3, l3⟩ := mv_cell (v := 0) ⟨by decide, by decide⟩ m2.1 w2 (show a ≤ a + 102 by omega) (offx (a := a) (o := 102) (by decide)) e3
      have nx := ih (r + 1) M3 (by omega) (m2.trans (m3.mono (fun _ z => z.elim) (fun x z => Or.inr z) (fun _ z => z.elim))) (fun v hv' => by rw [f3, if_neg (fun z => by omega)]; exact n2 v hv') (fun r' hr' => ?_)
      · rw [show ((r + 1 : Nat) : Int) = (r : Int) + 1 by omega] at nx
        exact nx
      · rw [f3]
        by_cases z : r' = r
        · rw [if_pos ⟨rfl, z⟩]
        · rw [if_neg (fun y => z y.2)]
          exact f2 r' (by omega)
  refine k_MM_enter hO ik ?_
  suffices L1 : ∀ (c v : Nat) (M2 : mM), v + c = W → Mv (fun _ => False) (fun x => x = a + 101 ∨ x = a + 102) M a M2 → mI M2 (a + 105) = mI M (a + 105) → (∀ v' : Nat, v' < v → mI M2 (a + 101) v' = mI M (a + 105) (12 * k + v')) → h_MM_enter_2 G d a k v M2 (fun M' => mOk M' ∧ Mv (fun _ => False) (fun x => x = a + 101 ∨ x = a + 102) M a M' ∧ En M' a g R W) from L1 W 0 M (by omega) (Mv.refl hO w (fun _ z => z.elim)) rfl (fun v hv' => absurd hv' (by omega))
  intro c
  induction c with
  | zero =>
    intro v M2 hc m2 e105 n2
    have ev : v = W := by omega
    subst ev
    have w2 := m2.2.1
    have gs := gsl m2
    refine k_MM_enter_2 m2.1 ik (i32s (by omega) (by omega)) ⟨w2.1.1, ?_⟩
    rw [m2.rfl_a w no, r9, gs.1, g12]
    exact ⟨(w2.gp hg).1, fun _ => L2 R 0 M2 (by omega) m2 n2 (fun r hr => absurd hr (by omega)), fun q => absurd (Int.le_refl _) q⟩
  | succ c ih =>
    intro v M2 hc m2 e105 n2
    have w2 := m2.2.1
    have gs := gsl m2
    have A1 : mK M2 (a + 101) = 30 ∧ mN M2 (a + 101) = 12 := w2.1.2.2.2.2.2.2.2.1.2.2.1
    have A5 : mK M2 (a + 105) = 30 ∧ mN M2 (a + 105) = 6144 := w2.1.2.2.2.2.2.2.2.2.1.1
    have r31 : mR M2 a 31 = a + 105 := w2.1.2.2.2.2.2.1.1
    have r25 : mR M2 a 25 = a + 101 := w2.1.2.2.2.2.1.2.2.2.2.2.2.2.2.2.1
    have e9 : mR M2 a 9 = g := by rw [m2.rfl_a w no]; exact r9
    refine k_MM_enter_2 m2.1 ik (i32s (by omega) (by omega)) ⟨w2.1.1, ?_⟩
    rw [r31, r25, e9, gs.1, g12, Int.toNat_natCast, show 12 * (k : Int) + (v : Int) = ((12 * k + v : Nat) : Int) by omega, Int.toNat_natCast, e105]
    refine ⟨(w2.gp hg).1, fun q => absurd q (by omega), fun _ => ⟨A5.1, by rw [A5.2]; omega, A1.1, by rw [A1.2]; omega, fun M3 e3 => ?_⟩⟩
    obtain ⟨m3, f3, l3⟩ := mv_cell (hO _ _).1 m2.1 w2 (show a ≤ a + 101 by omega) (offx (a := a) (o := 101) (by decide)) e3
    have nx := ih (v + 1) M3 (by omega) (m2.trans (m3.mono (fun _ z => z.elim) (fun x z => Or.inl z) (fun _ z => z.elim))) (by rw [← e105]; exact m3.cell w2 no (by omega) (offx (a := a) (o := 105) (by decide)).2.1 (offx (a := a) (o := 105) (by decide)).2.2 (by omega)) (fun v' hv' => ?_)
    · rw [show ((v + 1 : Nat) : Int) = (v : Int) + 1 by omega] at nx
      exact nx
    · rw [f3]
      by_cases z : v' = v
      · rw [if_pos ⟨rfl, z⟩, z]
      · rw [if_neg (fun y => z y.2)]
        exact n2 v' (by omega)
end ENT
end
section
/-! The reference: the chances of a command's branches. -/
section CHA
variable {G : mG} {d a g T R W C Z : Nat} {M M' M2 M3 : mM} {E : Nat → Nat} {tg : Int}
/-- working out goes on -/
def xg (M : mM) (a g T R W C Z : Nat) (E : Nat → Nat) (tg : Int) (M2 : mM) : Prop := xe M a M2 ∧ GG M2 a g T R W C Z E tg ∧ En M2 a g R W
theorem xg.tr (h : xg M a g T R W C Z E tg M2) (k : xg M2 a g T R W C Z E tg M3) : xg M a g T R W C Z E tg M3 := ⟨h.1.trans k.1, k.2⟩
/-- a step elsewhere -/
theorem xg.st {P S : Nat → Prop} (h : xg M a g T R W C Z E tg M2) (m : Mv P S M2 a M3) (hP : ∀ q, P q → q = a + 99) (hS : ∀ x, S x → x = a ∨ (a + 97 ≤ x ∧ x ≤ a + 98) ∨ (a + 21188 ≤ x ∧ x ≤ a + 21190)) (hf : ∀ i, i ≠ 16 → i ≠ 17 → i ≠ 23 → mI M3 a i = mI M2 a i) : xg M a g T R W C Z E tg M3 := by
  have w2 := h.2.1.2.1
  have hg := h.2.1.2.2.1.2
  have x : xe M2 a M3 := xe.mk w2 m hP (fun x hx => by
    have := hS x hx
    show x = a ∨ (a + 97 ≤ x ∧ x ≤ a + 98) ∨ (a + 102 ≤ x ∧ x ≤ a + 104) ∨ (a + 21188 ≤ x ∧ x ≤ a + 21190)
    omega) hf
  exact ⟨h.1.trans x, x.gg h.2.1, h.2.2.mv w2 m (fun q hq => in99 q (hP q hq)) (x.gs w2 hg) (fun x hx => by have := hS x hx; omega)⟩
theorem xg.stp {c p : Int} (h : xg M a g T R W C Z E tg M2) (q : Mv (fun _ => False) (fun x => x = a) M2 a M3 ∧ mI M3 a 16 = c ∧ mI M3 a 17 = p ∧ ∀ i, i ≠ 16 → i ≠ 17 → mI M3 a i = mI M2 a i) : xg M a g T R W C Z E tg M3 :=
  h.st q.1 (fun _ z => z.elim) (fun x z => Or.inl z) (fun i i1 i2 _ => q.2.2.2 i i1 i2)
/-- the first b chances are sound -/
def chk1 (M : mM) (a b : Nat) : Prop := ∀ b' : Nat, b' < b → 0 ≤ mL M (a + 21189) b' ∧ mL M (a + 21189) b' ≤ mL M (a + 21190) b' ∧ 1 ≤ mL M (a + 21190) b' ∧ mL M (a + 21190) b' < 1000000000
/-- the chances of a command -/
def chQ (M : mM) (a g T R W C Z : Nat) (E : Nat → Nat) (tg : Int) (nb : Nat) (x : Int) (M' : mM) : Prop := i64 x ∧ xg M a g T R W C Z E tg M' ∧ (mI M' a 16 ≠ 0 ∨ (mI M' a 16 = 0 ∧ chk1 M' a nb ∧ 1 ≤ x ∧ x < 1000000000 ∧ ∀ b' : Nat, b' < nb → mL M' (a + 21190) b' ∣ x))
theorem r4546 {Mx : mM} (w : Wd Mx a) : (mR Mx a 45 = a + 21189 ∧ mR Mx a 46 = a + 21190) ∧ (mK Mx (a + 21189) = 33 ∧ mN Mx (a + 21189) = 8) ∧ (mK Mx (a + 21190) = 33 ∧ mN Mx (a + 21190) = 8) :=
  ⟨⟨w.1.2.2.2.2.2.2.1.2.2.2.2.1, w.1.2.2.2.2.2.2.1.2.2.2.2.2.1⟩, w.1.2.2.2.2.2.2.2.2.2.1.2.2.2.2.1, w.1.2.2.2.2.2.2.2.2.2.1.2.2.2.2.2.1⟩
/-- the common multiple -/
theorem s_ch129 {c nb : Nat} {pl : Int} (hc : c < C) (ipl : i32 pl) (hnb : nb ≤ 8) : ∀ (t b : Nat) (j : Int) (M2 : mM), b + t = nb → xg M a g T R W C Z E tg M2 → mI M2 (g + 25) c = (nb : Int) → i64 j → (mI M2 a 16 = 0 → chk1 M2 a nb ∧ 1 ≤ j ∧ j < 1000000000 ∧ ∀ b' : Nat, b' < b → mL M2 (a + 21190) b' ∣ j) → h_MM_chances_129 G d a c pl j b M2 (fun x M' => i64 x ∧ mOk M' ∧ chQ M a g T R W C Z E tg nb x M') := by
  intro t
  induction t with
  | zero =>
    intro b j M2 hb h h25 ij hj
    have eb : b = nb := by omega
    subst eb
    have gg := h.2.1
    have w2 := gg.2.1
    have hg := gg.2.2.1.2
    have hBd := gg.2.2.2.2.2.2.2.1.1
    refine k_MM_chances_129 gg.1 (i32s (by omega) (by omega)) ipl ij (i32s (by omega) (by omega)) ⟨w2.1.1, ?_⟩
    rw [gg.2.2.1.1, show mR M2 g 22 = g + 25 from (w2.gp hg).2.2.1.2.2.2.2.2.2.2.1, Int.toNat_natCast, h25]
    have b60 : ((0 : Int) ≤ (c : Int) ∧ (c : Int) < ((60 : Nat) : Int)) := by omega
    refine ⟨(w2.gp hg).1, (w2.gp hg).2.2.2.2.2.2.2.2.1.1, by rw [(w2.gp hg).2.2.2.2.2.2.2.2.1.2]; exact b60, fun _ => ⟨ij, gg.1, ij, h, ?_⟩, fun q => absurd (Or.inl (Int.le_refl _)) q⟩
    by_cases z : mI M2 a 16 = 0
    · exact Or.inr ⟨z, hj z⟩
    · exact Or.inl z
  | succ t ih =>
    intro b j M2 hb h h25 ij hj
    have gg := h.2.1
    have w2 := gg.2.1
    have hg := gg.2.2.1.2
    have hBd := gg.2.2.2.2.2.2.2.1.1
    have b60 : ((0 : Int) ≤ (c : Int) ∧ (c : Int) < ((60 : Nat) : Int)) := by omega
    have b8 : ((0 : Int) ≤ (b : Int) ∧ (b : Int) < ((8 : Nat) : Int)) := by omega
    have ib : i32 (b : Int) := i32s (by omega) (by omega)
    have ic : i32 (c : Int) := i32s (by omega) (by omega)
    have hbn : b < nb := by omega
    refine k_MM_chances_129 gg.1 ic ipl ij ib ⟨w2.1.1, ?_⟩
    rw [gg.2.2.1.1, show mR M2 g 22 = g + 25 from (w2.gp hg).2.2.1.2.2.2.2.2.2.2.1, Int.toNat_natCast, h25, (r4546 w2).1.2, Int.toNat_natCast]
    refine ⟨(w2.gp hg).1, (w2.gp hg).2.2.2.2.2.2.2.2.1.1, by rw [(w2.gp hg).2.2.2.2.2.2.2.2.1.2]; exact b60, fun q => ⟨ij, gg.1, ij, h, Or.inl ?_⟩, fun q => ?_⟩
    · rcases q with q | q
      · omega
      · exact q
    have z2 : mI M2 a 16 = 0 := Classical.byContradiction (fun z => q (Or.inr z))
    obtain ⟨c1, j1, j2, j3⟩ := hj z2
    obtain ⟨e1, e2, e3, e4⟩ := c1 b hbn
    refine ⟨(r4546 w2).2.2.1, by rw [(r4546 w2).2.2.2]; exact b8, (s_MM_divisor2 (by omega) ⟨by omega, by omega, by omega⟩ gg.1).mono (fun x M3 h3 => ?_)⟩
    obtain ⟨em, x1, x2, ⟨u, hu⟩, ⟨v, hv⟩, -⟩ := h3
    subst em
    have xne : x ≠ 0 := by omega
    have td : Int.tdiv j x = u := by rw [hu]; exact Int.mul_tdiv_cancel_left u xne
    have u0 : 0 < u := by
      by_cases y : 0 < u
      · exact y
      · have := Int.mul_le_mul_of_nonneg_left (show u ≤ 0 by omega) (show 0 ≤ x by omega)
        rw [← hu] at this
        omega
    have u1 : u ≤ j := by
      have := Int.mul_le_mul_of_nonneg_right x1 (show 0 ≤ u by omega)
      rw [← hu] at this
      omega
    have pr : 0 ≤ u * mL M3 (a + 21190) b ∧ u * mL M3 (a + 21190) b ≤ 1000000000 * 1000000000 := ⟨Int.mul_nonneg (by omega) (by omega), Int.mul_le_mul (by omega) (by omega) (by omega) (by omega)⟩
    have p1 : 1 ≤ u * mL M3 (a + 21190) b := by
      have := Int.mul_le_mul (show 1 ≤ u by omega) e3 (by omega) (by omega)
      omega
    have ip : i64 (u * mL M3 (a + 21190) b) := ⟨by omega, by omega⟩
    have dv : ∀ b' : Nat, b' < b + 1 → mL M3 (a + 21190) b' ∣ u * mL M3 (a + 21190) b := fun b' hb' => by
      by_cases y : b' = b
      · rw [y]; exact Int.dvd_mul_left u _
      · refine Int.dvd_trans (j3 b' (by omega)) ?_
        rw [hu, hv, show u * (x * v) = x * u * v by rw [← Int.mul_assoc, Int.mul_comm u x]]
        exact Int.dvd_mul_right (x * u) v
    rw [(r4546 w2).1.2, td]
    refine ⟨⟨by omega, by omega⟩, gg.1, xne, w2.1.1, (r4546 w2).2.2.1, by rw [(r4546 w2).2.2.2]; exact b8, ip, fun q6 => ?_, fun q6 => ?_⟩
    · refine k_MM_chances_187 gg.1 ic ipl ip ib ?_
      rw [show (b : Int) + 1 = ((b + 1 : Nat) : Int) by omega]
      exact ih (b + 1) _ M3 (by omega) h h25 ip (fun _ => ⟨c1, p1, (cmpz _ _).2.2.1.1 q6, dv⟩)
    · refine (s_MM_stop ⟨by decide, by decide⟩ ipl gg.1 w2).mono (fun M4 h4 => ⟨h4.1.1, ?_⟩)
      have X4 := h.stp h4
      refine k_MM_chances_187 h4.1.1 ic ipl ip ib ?_
      rw [show (b : Int) + 1 = ((b + 1 : Nat) : Int) by omega]
      refine ih (b + 1) _ M4 (by omega) X4 ?_ ip (fun z => ?_)
      · have gs := gs_st (P := fun _ => False) (S := fun x => x = a) w2 hg h4.1 (fun _ z => z.elim) (fun _ z => z.elim) (fun x z => by omega)
        rw [(gs.2.1 25 (by omega) (by omega)).1]
        exact h25
      · rw [h4.2.1] at z
        exact absurd z (by decide)
end CHA
end
section
/-! The reference: chances. -/
section CHB
variable {G : mG} {d a g T R W C Z : Nat} {M : mM} {E : Nat → Nat} {tg : Int}
theorem mv_ulx {M2 M3 : mM} {o j : Nat} {v : Int} (hv : i64 v) (hO : mOk M2) (w : Wd M2 a) (e : M3 = mUL M2 (a + o) j v) : Mv (fun _ => False) (fun y => y = a + o) M2 a M3 ∧ (∀ k, mL M3 (a + o) k = if k = j then v else mL M2 (a + o) k) ∧ (∀ y, y ≠ a + o → mL M3 y = mL M2 y) ∧ mI M3 = mI M2 := by
  obtain ⟨m, f, i⟩ := mv_ul hv hO w e
  refine ⟨m, fun k => ?_, fun y hy => ?_, i⟩
  · rw [f]
    by_cases z : k = j
    · rw [if_pos ⟨rfl, z⟩, if_pos z]
    · rw [if_neg (fun q => z q.2), if_neg z]
  · funext k
    rw [f, if_neg (fun q => hy q.1)]
theorem s_MM_chances {c nb : Nat} {pl : Int} (h : GG M a g T R W C Z E tg) (hn : En M a g R W) (hc : c < C) (ipl : i32 pl) (hnb : mI M (g + 25) c = (nb : Int)) : Cj G y_MM_chances (d + 6) [vr a, vi c, vi pl] M (fun x M' => i64 x ∧ mOk M' ∧ chQ M a g T R W C Z E tg nb x M') := by
  have hg := h.2.2.1.2
  have hBd := h.2.2.2.2.2.2.2.1.1
  have nb8 : nb ≤ 8 := by
    have := (h.2.2.2.2.2.2.2.1.2.2.2.2.1 c hc).2.2.1
    omega
  have ic : i32 (c : Int) := i32s (by omega) (by omega)
  refine k_MM_chances h.1 ic ipl ?_
  suffices H : ∀ (t b : Nat) (M2 : mM), b + t = nb → xg M a g T R W C Z E tg M2 → mI M2 (g + 25) c = (nb : Int) → (mI M2 a 16 = 0 → chk1 M2 a b) → h_MM_chances_2 G (d + 5) a c pl b M2 (fun x M' => i64 x ∧ mOk M' ∧ chQ M a g T R W C Z E tg nb x M') from H nb 0 M (by omega) ⟨xe.refl h.1 h.2.1, h, hn⟩ hnb (fun _ b' hb' => absurd hb' (by omega))
  intro t
  induction t with
  | zero =>
    intro b M2 hb x h25 hch
    have eb : b = nb := by omega
    subst eb
    have gg := x.2.1
    have w2 := gg.2.1
    have b60 : ((0 : Int) ≤ (c : Int) ∧ (c : Int) < ((60 : Nat) : Int)) := by omega
    refine k_MM_chances_2 gg.1 ic ipl (i32s (by omega) (by omega)) ⟨w2.1.1, ?_⟩
    rw [gg.2.2.1.1, show mR M2 g 22 = g + 25 from (w2.gp hg).2.2.1.2.2.2.2.2.2.2.1, Int.toNat_natCast, h25]
    exact ⟨(w2.gp hg).1, (w2.gp hg).2.2.2.2.2.2.2.2.1.1, by rw [(w2.gp hg).2.2.2.2.2.2.2.2.1.2]; exact b60, fun _ => s_ch129 hc ipl nb8 b 0 1 M2 (by omega) x h25 ⟨by decide, by decide⟩ (fun z => ⟨hch z, by decide, by decide, fun b' hb' => absurd hb' (by omega)⟩), fun q => absurd (Or.inl (Int.le_refl _)) q⟩
  | succ t ih =>
    intro b M2 hb x h25 hch
    have gg := x.2.1
    have w2 := gg.2.1
    have b60 : ((0 : Int) ≤ (c : Int) ∧ (c : Int) < ((60 : Nat) : Int)) := by omega
    have b8 : ((0 : Int) ≤ (b : Int) ∧ (b : Int) < ((8 : Nat) : Int)) := by omega
    have b480 : ((0 : Int) ≤ ((8 * c + b : Nat) : Int) ∧ ((8 * c + b : Nat) : Int) < ((480 : Nat) : Int)) := by omega
    have ib : i32 (b : Int) := i32s (by omega) (by omega)
    have bc := (gg.2.2.2.2.2.2.2.1.2.2.2.2.1 c hc).2.2.2 b (by rw [h25]; omega)
    refine k_MM_chances_2 gg.1 ic ipl ib ⟨w2.1.1, ?_⟩
    rw [gg.2.2.1.1, show mR M2 g 22 = g + 25 from (w2.gp hg).2.2.1.2.2.2.2.2.2.2.1, show mR M2 g 23 = g + 26 from (w2.gp hg).2.2.1.2.2.2.2.2.2.2.2.1, Int.toNat_natCast, h25, show 8 * (c : Int) + (b : Int) = ((8 * c + b : Nat) : Int) by omega, Int.toNat_natCast, Int.toNat_natCast]
    refine ⟨(w2.gp hg).1, (w2.gp hg).2.2.2.2.2.2.2.2.1.1, by rw [(w2.gp hg).2.2.2.2.2.2.2.2.1.2]; exact b60, fun q => ?_, fun q => ⟨(w2.gp hg).2.2.2.2.2.2.2.2.2.1.1, by rw [(w2.gp hg).2.2.2.2.2.2.2.2.2.1.2]; exact b480, ?_⟩⟩
    · have z2 : ¬ (mI M2 a 16 = 0) := by
        rcases q with q | q
        · omega
        · exact q
      exact s_ch129 hc ipl nb8 nb 0 1 M2 (by omega) x h25 ⟨by decide, by decide⟩ (fun z => absurd z z2)
    have z2 : mI M2 a 16 = 0 := Classical.byContradiction (fun z => q (Or.inr z))
    have hch := hch z2
    refine (s_MM_reach (d := d) gg x.2.2 bc.1).mono (fun M3 t3 => ?_)
    obtain ⟨o3, xr3, gg3, en3, v3⟩ := t3
    have x3 := xr3.xe w2
    have X3 : xg M a g T R W C Z E tg M3 := ⟨x.1.trans x3, gg3, en3⟩
    have w3 := gg3.2.1
    have gs3 := x3.gs w2 hg
    have nw : ∀ o, 21188 ≤ o → ¬ woS a (a + o) := fun o ho z => by
      have z' : a + o = a ∨ a + o = a + 97 ∨ a + o = a + 98 ∨ a + o = a + 102 ∨ a + o = a + 103 ∨ a + o = a + 104 := z
      omega
    have k89 := (xr3.1.cellL w2 in99 (offx (a := a) (o := 21189) (by decide)) (nw _ (by omega))).2
    have k90 := (xr3.1.cellL w2 in99 (offx (a := a) (o := 21190) (by decide)) (nw _ (by omega))).2
    have B3 : mR M3 a 21 = a + 97 ∧ mR M3 a 22 = a + 98 := ⟨w3.1.2.2.2.2.1.2.2.2.2.2.2.1, w3.1.2.2.2.2.1.2.2.2.2.2.2.2.1⟩
    have A3 : (mK M3 (a + 97) = 33 ∧ mN M3 (a + 97) = 16400) ∧ (mK M3 (a + 98) = 33 ∧ mN M3 (a + 98) = 16400) := ⟨w3.1.2.2.2.2.2.2.2.1.1, w3.1.2.2.2.2.2.2.2.1.2.1⟩
    rw [B3.1, (r4546 w3).1.1]
    refine ⟨o3, w3.1.1, A3.1.1, by rw [A3.1.2]; decide, (r4546 w3).2.1.1, by rw [(r4546 w3).2.1.2]; exact b8, fun M4 e4 => ?_⟩
    obtain ⟨m4, f4, n4, i4⟩ := mv_ulx (o3 _ _).2 o3 w3 e4
    have X4 := X3.st m4 (fun _ z => z.elim) (fun y z => Or.inr (Or.inr (by omega))) (fun i _ _ _ => by rw [i4])
    have w4 := X4.2.1.2.1
    have B4 : mR M4 a 21 = a + 97 ∧ mR M4 a 22 = a + 98 := ⟨w4.1.2.2.2.2.1.2.2.2.2.2.2.1, w4.1.2.2.2.2.1.2.2.2.2.2.2.2.1⟩
    have A4 : (mK M4 (a + 97) = 33 ∧ mN M4 (a + 97) = 16400) ∧ (mK M4 (a + 98) = 33 ∧ mN M4 (a + 98) = 16400) := ⟨w4.1.2.2.2.2.2.2.2.1.1, w4.1.2.2.2.2.2.2.2.1.2.1⟩
    rw [B4.2, (r4546 w4).1.2, n4 (a + 98) (by omega)]
    refine ⟨A4.2.1, by rw [A4.2.2]; decide, (r4546 w4).2.2.1, by rw [(r4546 w4).2.2.2]; exact b8, fun M5 e5 => ?_⟩
    obtain ⟨m5, f5, n5', i5⟩ := mv_ulx (o3 _ _).2 m4.1 w4 e5
    have X5 := X4.st m5 (fun _ z => z.elim) (fun y z => Or.inr (Or.inr (by omega))) (fun i _ _ _ => by rw [i5])
    have w5 := X5.2.1.2.1
    have B5 : mR M5 a 21 = a + 97 ∧ mR M5 a 22 = a + 98 := ⟨w5.1.2.2.2.2.1.2.2.2.2.2.2.1, w5.1.2.2.2.2.1.2.2.2.2.2.2.2.1⟩
    have A5 : (mK M5 (a + 97) = 33 ∧ mN M5 (a + 97) = 16400) ∧ (mK M5 (a + 98) = 33 ∧ mN M5 (a + 98) = 16400) := ⟨w5.1.2.2.2.2.2.2.2.1.1, w5.1.2.2.2.2.2.2.2.1.2.1⟩
    have iA : mI M5 = mI M3 := by rw [i5, i4]
    have l97 : mL M5 (a + 97) = mL M3 (a + 97) := by rw [n5' _ (by omega), n4 _ (by omega)]
    have l98 : mL M5 (a + 98) = mL M3 (a + 98) := by rw [n5' _ (by omega), n4 _ (by omega)]
    have q89 : ∀ k, mL M5 (a + 21189) k = if k = b then mL M3 (a + 97) 0 else mL M2 (a + 21189) k := fun k => by rw [n5' _ (by omega), f4, k89]
    have q90 : ∀ k, mL M5 (a + 21190) k = if k = b then mL M3 (a + 98) 0 else mL M2 (a + 21190) k := fun k => by rw [f5, n4 _ (by omega), k90]
    have h25' : mI M5 (g + 25) c = (nb : Int) := by rw [iA, (gs3.2.1 25 (by omega) (by omega)).1]; exact h25
    rw [B5.1, B5.2, l97, l98, X5.2.1.2.2.1.1, show mR M5 g 24 = g + 27 from (w5.gp hg).2.2.1.2.2.2.2.2.2.2.2.2.1]
    have z35 : mI M5 a 16 = 0 → vok 0 (mL M3 (a + 97) 0) (mL M3 (a + 98) 0) := fun z => by
      rw [iA] at z
      rcases v3 with y | ⟨-, y⟩
      · exact absurd z y
      · exact y
    have nx : ∀ M6, xg M a g T R W C Z E tg M6 → mI M6 (g + 25) c = (nb : Int) → (mI M6 a 16 = 0 → chk1 M6 a (b + 1)) → h_MM_chances_118 G (d + 5) a c pl b M6 (fun x M' => i64 x ∧ mOk M' ∧ chQ M a g T R W C Z E tg nb x M') := fun M6 X6 k25 kc => by
      refine k_MM_chances_118 X6.2.1.1 ic ipl ib ?_
      rw [show (b : Int) + 1 = ((b + 1 : Nat) : Int) by omega]
      exact ih (b + 1) M6 (by omega) X6 k25 kc
    refine ⟨fun _ => ⟨A5.1.1, by rw [A5.1.2]; decide, fun _ => ⟨by rw [A5.1.2]; decide, A5.2.1, by rw [A5.2.2]; decide⟩⟩, fun q5 => ?_, fun q5 => ?_⟩
    · refine ⟨(w5.gp hg).1, (w5.gp hg).2.2.2.2.2.2.2.2.2.2.1.1, by rw [(w5.gp hg).2.2.2.2.2.2.2.2.2.2.1.2]; exact b480, (s_MM_stop ⟨by decide, by decide⟩ (m5.1 _ _).1 m5.1 w5).mono (fun M6 h6 => ⟨h6.1.1, nx M6 (X5.stp h6) ?_ (fun z => ?_)⟩)⟩
      · have gs := gs_st (P := fun _ => False) (S := fun x => x = a) w5 hg h6.1 (fun _ z => z.elim) (fun _ z => z.elim) (fun x z => by omega)
        rw [(gs.2.1 25 (by omega) (by omega)).1]
        exact h25'
      · rw [h6.2.1] at z
        exact absurd z (by decide)
    · refine nx M5 X5 h25' (fun z b' hb' => ?_)
      rw [q89, q90]
      by_cases y : b' = b
      · rw [if_pos y, if_pos y]
        have vk := z35 z
        have q6 : ¬ (cmpL (mL M3 (a + 97) 0) 0 < 0 ∨ ¬ (cmpL (mL M3 (a + 97) 0) (mL M3 (a + 98) 0) ≤ 0)) := fun y => q5 ⟨z, y⟩
        have c1 := (cmpz (mL M3 (a + 97) 0) 0).2.2.1
        have c2 := (cmpz (mL M3 (a + 97) 0) (mL M3 (a + 98) 0)).2.1
        rw [c1, c2] at q6
        unfold vok at vk
        omega
      · rw [if_neg y, if_neg y]
        exact hch b' (by omega)
end CHB
end
