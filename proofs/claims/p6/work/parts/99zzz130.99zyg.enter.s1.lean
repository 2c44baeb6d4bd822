section
/-! The reference: a variable's next value; a state is found or made. -/
section SET
variable {G : mG} {d a g T R W C Z n : Nat} {M M' M2 : mM} {E : Nat → Nat} {tg : Int}
/-- the next values stand in their ranges -/
def Nxv (M : mM) (a g W : Nat) : Prop := ∀ v : Nat, v < W → mI M (g + 19) v ≤ mI M (a + 21188) v ∧ mI M (a + 21188) v ≤ mI M (g + 20) v
/-- working out, and next values -/
abbrev sxS (a : Nat) : Nat → Prop := fun x => woS a x ∨ x = a + 21188
/-- a next value has been set -/
def seQ (M : mM) (a g T R W C Z : Nat) (E : Nat → Nat) (tg : Int) (M' : mM) : Prop := Mv (fun x => x = a + 99) (sxS a) M a M' ∧ (∀ i, i ≠ 16 → i ≠ 17 → i ≠ 23 → mI M' a i = mI M a i) ∧ GG M' a g T R W C Z E tg ∧ En M' a g R W ∧ (mI M' a 16 = 0 → Nxv M' a g W)
theorem s_MM_set1 {v : Nat} {root pl : Int} (h : GG M a g T R W C Z E tg) (hn : En M a g R W) (hx : Nxv M a g W) (hv : v < W) (hr : Rt M g R W T E root (tn M g (100 + (v : Int)))) (ipl : i32 pl) : Cv G y_MM_set1 (d + 6) [vr a, vi v, vi root, vi pl] M (fun M' => mOk M' ∧ seQ M a g T R W C Z E tg M') := by
  have w := h.2.1
  have hg := h.2.2.1.2
  have hD := h.2.2.2.2.2.2.2.1
  have hBd := hD.1
  obtain ⟨v1, v2, v3, v4, v5, v6⟩ := hD.2.2.2.1 v hv
  have e1 : tn M g (100 + (v : Int)) = mI M (g + 18) v := by
    unfold tn
    rw [if_pos (show (100 : Int) ≤ 100 + (v : Int) by omega), show (100 + (v : Int) - 100).toNat = v by omega]
    rcases v6 with y | y <;> rw [y] <;> rfl
  have ir : i32 root := by
    obtain ⟨n', b, f, e, r1, r2, r3, r4, r5⟩ := hr
    have := r4.tn.lt
    have := h.2.2.2.2.1
    rw [r1]
    exact i32s (by omega) (by omega)
  have b12 : ((0 : Int) ≤ (v : Int) ∧ (v : Int) < ((12 : Nat) : Int)) := by omega
  have toS : ∀ {Mx : mM}, Mv (fun x => x = a + 99) (woS a) M a Mx → Mv (fun x => x = a + 99) (sxS a) M a Mx := fun m => m.mono (fun q hq => hq) (fun x z => Or.inl z) (lt99 w)
  refine k_MM_set1 h.1 (i32s (by omega) (by omega)) ir ipl ⟨w.1.1, (s_MM_reach (d := d) h hn hr).mono (fun M2 t2 => ?_)⟩
  obtain ⟨o2, x2, gg2, en2, v2'⟩ := t2
  have w2 := gg2.2.1
  have gs2 := (x2.xe w).gs w hg
  have c88 : mI M2 (a + 21188) = mI M (a + 21188) := (x2.1.cellL w in99 (offx (a := a) (o := 21188) (by decide)) (fun z => by
    have z' : a + 21188 = a ∨ a + 21188 = a + 97 ∨ a + 21188 = a + 98 ∨ a + 21188 = a + 102 ∨ a + 21188 = a + 103 ∨ a + 21188 = a + 104 := z
    omega)).1
  have nx2 : Nxv M2 a g W := fun v' hv' => by
    rw [(gs2.2.1 19 (by omega) (by omega)).1, (gs2.2.1 20 (by omega) (by omega)).1, c88]
    exact hx v' hv'
  refine ⟨o2, w2.1.1, fun z16 => ?_, fun z16 => ⟨o2, toS x2.1, x2.2, gg2, en2, fun z => absurd z z16⟩⟩
  have vk : vok (mI M (g + 18) v) (mL M2 (a + 97) 0) (mL M2 (a + 98) 0) := by
    rcases v2' with y | ⟨-, y⟩
    · exact absurd z16 y
    · rw [e1] at y; exact y
  have B2 : mR M2 a 21 = a + 97 ∧ mR M2 a 22 = a + 98 ∧ mR M2 a 44 = a + 21188 := ⟨w2.1.2.2.2.2.1.2.2.2.2.2.2.1, w2.1.2.2.2.2.1.2.2.2.2.2.2.2.1, w2.1.2.2.2.2.2.2.1.2.2.2.1⟩
  have A2 : (mK M2 (a + 97) = 33 ∧ mN M2 (a + 97) = 16400) ∧ (mK M2 (a + 98) = 33 ∧ mN M2 (a + 98) = 16400) ∧ (mK M2 (a + 21188) = 30 ∧ mN M2 (a + 21188) = 12) := ⟨w2.1.2.2.2.2.2.2.2.1.1, w2.1.2.2.2.2.2.2.2.1.2.1, w2.1.2.2.2.2.2.2.2.2.2.1.2.2.2.1⟩
  rw [gg2.2.2.1.1, show mR M2 g 13 = g + 18 from (w2.gp hg).2.2.1.1, show mR M2 g 14 = g + 19 from (w2.gp hg).2.2.1.2.1, show mR M2 g 15 = g + 20 from (w2.gp hg).2.2.1.2.2.1, B2.1, B2.2.1, B2.2.2, Int.toNat_natCast, (gs2.2.1 18 (by omega) (by omega)).1, (gs2.2.1 19 (by omega) (by omega)).1, (gs2.2.1 20 (by omega) (by omega)).1]
  have stp : ∀ c : Int, c ≠ 0 → i32 c → Cv G y_MM_stop (d + 5) [vr a, vi c, vi pl] M2 (fun M3 => mOk M3 ∧ (mOk M3 ∧ seQ M a g T R W C Z E tg M3)) := fun c hc ic => by
    refine (s_MM_stop ic ipl o2 w2).mono (fun M3 h3 => ?_)
    have X : xg M a g T R W C Z E tg M2 := ⟨x2.xe w, gg2, en2⟩
    have X3 := X.stp h3
    refine ⟨h3.1.1, h3.1.1, (toS x2.1).trans (h3.1.mono (fun _ z => z.elim) (fun x z => Or.inl (Or.inl z)) (lt99 w2)), fun i i1 i2 i3 => (h3.2.2.2 i i1 i2).trans (x2.2 i i1 i2 i3), X3.2.1, X3.2.2, fun z => ?_⟩
    rw [h3.2.1] at z
    exact absurd z hc
  refine ⟨(w2.gp hg).1, (w2.gp hg).2.2.2.2.1.1.1, by rw [(w2.gp hg).2.2.2.2.1.1.2]; exact b12, fun _ => ⟨A2.2.1.1, by rw [A2.2.1.2]; decide⟩, fun q => ⟨A2.1.1, by rw [A2.1.2]; decide, (w2.gp hg).2.2.2.2.1.2.1.1, by rw [(w2.gp hg).2.2.2.2.1.2.1.2]; exact b12, fun _ => ⟨by rw [A2.1.2]; decide, (w2.gp hg).2.2.2.2.1.2.2.1.1, by rw [(w2.gp hg).2.2.2.2.1.2.2.1.2]; exact b12⟩, fun _ => stp 12 (by decide) ⟨by decide, by decide⟩, fun q2 => ?_⟩, fun _ => stp 8 (by decide) ⟨by decide, by decide⟩⟩
  have c1 := (cmpz (mL M2 (a + 97) 0) (mI M (g + 19) v)).2.2.1
  have c2 := (cmpz (mL M2 (a + 97) 0) (mI M (g + 20) v)).2.1
  rw [c1, c2] at q2
  have rng : mI M (g + 19) v ≤ mL M2 (a + 97) 0 ∧ mL M2 (a + 97) 0 ≤ mI M (g + 20) v := by omega
  have i97 : i32 (mL M2 (a + 97) 0) := ⟨by omega, by omega⟩
  refine ⟨by rw [A2.1.2]; decide, A2.2.2.1, by rw [A2.2.2.2]; exact b12, i97, fun M3 e3 => ?_⟩
  obtain ⟨m3, f3, l3⟩ := mv_cell i97 o2 w2 (show a ≤ a + 21188 by omega) (offx (a := a) (o := 21188) (by decide)) e3
  have no : ∀ q : Nat, False → q ∈ nums a := fun _ z => z.elim
  have aI := (m3.fld w2 no (by omega)).1
  have X : xg M a g T R W C Z E tg M2 := ⟨x2.xe w, gg2, en2⟩
  have X3 := X.st m3 (fun _ z => z.elim) (fun x z => Or.inr (Or.inr (by omega))) (fun i _ _ _ => by rw [aI])
  refine ⟨m3.1, (toS x2.1).trans (m3.mono (fun _ z => z.elim) (fun x z => Or.inr z) (lt99 w2)), fun i i1 i2 i3 => by rw [aI]; exact x2.2 i i1 i2 i3, X3.2.1, X3.2.2, fun _ v' hv' => ?_⟩
  have gs3 := gs_st w2 hg m3 no (fun _ z => z.elim) (fun x z => by omega)
  rw [(gs3.2.1 19 (by omega) (by omega)).1, (gs3.2.1 20 (by omega) (by omega)).1, f3]
  by_cases y : v' = v
  · rw [if_pos ⟨rfl, y⟩, y, (gs2.2.1 19 (by omega) (by omega)).1, (gs2.2.1 20 (by omega) (by omega)).1]
    exact rng
  · rw [if_neg (fun z => y z.2)]
    exact nx2 v' hv'
/-- the states' variables stand in their ranges -/
def Vx (M : mM) (a g n W : Nat) : Prop := ∀ k v : Nat, k < n → v < W → mI M (g + 19) v ≤ mI M (a + 105) (12 * k + v) ∧ mI M (a + 105) (12 * k + v) ≤ mI M (g + 20) v
/-- a state has been found or made -/
def soQ (M : mM) (a g n W : Nat) (x : Int) (M' : mM) : Prop := (x = -1 ∧ M' = M) ∨ ∃ n' : Nat, (n' = n ∨ n' = n + 1) ∧ n' ≤ 512 ∧ 0 ≤ x ∧ x < n' ∧ Mv (fun _ => False) (fun y => y = a ∨ y = a + 105) M a M' ∧ mI M' a 29 = (n' : Int) ∧ (∀ i, i ≠ 29 → mI M' a i = mI M a i) ∧ Vx M' a g n' W
theorem s_MM_stateOf (h : GG M a g T R W C Z E tg) (hn : mI M a 29 = (n : Int)) (hn5 : n ≤ 512) (hv : Vx M a g n W) (hx : Nxv M a g W) : Ci G y_MM_stateOf d [vr a] M (fun x M' => i32 x ∧ mOk M' ∧ soQ M a g n W x M') := by
  have hO := h.1
  have w := h.2.1
  have hg := h.2.2.1.2
  have hBd := h.2.2.2.2.2.2.2.1.1
  have g12 := h.2.2.2.2.2.1.2.1
  have r9 := h.2.2.1.1
  have no : ∀ q : Nat, False → q ∈ nums a := fun _ z => z.elim
  -- a new state is filled in
  have L3 : n < 512 → ∀ (c v : Nat) (M2 : mM), v + c = W → Mv (fun _ => False) (fun y => y = a ∨ y = a + 105) M a M2 → mI M2 a = mI M a → mI M2 (a + 21188) = mI M (a + 21188) → (∀ j, (12 * n ≤ j → 12 * n + v ≤ j) → mI M2 (a + 105) j = mI M (a + 105) j) → (∀ v', v' < v → mI M2 (a + 105) (12 * n + v') = mI M (a + 21188) v') → h_MM_stateOf_87 G d a v M2 (fun x M' => i32 x ∧ mOk M' ∧ soQ M a g n W x M') := by
    intro hn' c
    induction c with
    | zero =>
      intro v M2 hc m2 a2 x2 o2 f2
      have ev : v = W := by omega
      subst ev
      have w2 := m2.2.1
      have gs := gs_st w hg m2 no (fun _ z => z.elim) (fun x z => by omega)
      refine k_MM_stateOf_87 m2.1 (i32s (by omega) (by omega)) ⟨w2.1.1, ?_⟩
      rw [m2.rfl_a w no, r9, gs.1, g12, a2, hn]
      refine ⟨(w2.gp hg).1, fun _ => ⟨i32s (by omega) (by omega), fun M3 e3 => ?_⟩, fun q => absurd (Int.le_refl _) q⟩
      obtain ⟨m3, f3⟩ := mv_fld (v := (n : Int) + 1) (i32s (by omega) (by omega)) m2.1 w2 e3
      have mm := m2.trans (m3.mono (fun _ z => z.elim) (fun x z => Or.inl z) (fun _ z => z.elim))
      have gs3 := gs_st w hg mm no (fun _ z => z.elim) (fun x z => by omega)
      have c105 := m3.cell m2.2.1 no (by omega) (offx (a := a) (o := 105) (by decide)).2.1 (offx (a := a) (o := 105) (by decide)).2.2 (by omega)
      have e29 : mI M3 a 29 = (n : Int) + 1 := by rw [f3, if_pos rfl]
      rw [e29]
      refine ⟨i32s (by omega) (by omega), m3.1, Or.inr ⟨n + 1, Or.inr rfl, by omega, by omega, by omega, mm, by rw [e29]; omega, fun i hi => by rw [f3, if_neg hi, a2], fun k v' hk hv' => ?_⟩⟩
      rw [(gs3.2.1 19 (by omega) (by omega)).1, (gs3.2.1 20 (by omega) (by omega)).1, c105]
      by_cases y : k = n
      · rw [y, f2 v' hv']
        exact hx v' hv'
      · rw [o2 _ (by omega)]
        exact hv k v' (by omega) hv'
    | succ c ih =>
      intro v M2 hc m2 a2 x2 o2 f2
      have w2 := m2.2.1
      have gs := gs_st w hg m2 no (fun _ z => z.elim) (fun x z => by omega)
      have A5 : mK M2 (a + 105) = 30 ∧ mN M2 (a + 105) = 6144 := w2.1.2.2.2.2.2.2.2.2.1.1
      have A8 : mK M2 (a + 21188) = 30 ∧ mN M2 (a + 21188) = 12 := w2.1.2.2.2.2.2.2.2.2.2.1.2.2.2.1
      have r31 : mR M2 a 31 = a + 105 := w2.1.2.2.2.2.2.1.1
      have r44 : mR M2 a 44 = a + 21188 := w2.1.2.2.2.2.2.2.1.2.2.2.1
      have e9 : mR M2 a 9 = g := by rw [m2.rfl_a w no]; exact r9
      refine k_MM_stateOf_87 m2.1 (i32s (by omega) (by omega)) ⟨w2.1.1, ?_⟩
      rw [e9, gs.1, g12, a2, hn, r31, r44, Int.toNat_natCast, show 12 * (n : Int) + (v : Int) = ((12 * n + v : Nat) : Int) by omega, Int.toNat_natCast, x2]
      refine ⟨(w2.gp hg).1, fun q => absurd q (by omega), fun _ => ⟨A8.1, by rw [A8.2]; omega, A5.1, by rw [A5.2]; omega, fun M3 e3 => ?_⟩⟩
      obtain ⟨m3, f3, l3⟩ := mv_cell (hO _ _).1 m2.1 w2 (show a ≤ a + 105 by omega) (offx (a := a) (o := 105) (by decide)) e3
      have nx := ih (v + 1) M3 (by omega) (m2.trans (m3.mono (fun _ z => z.elim) (fun x z => Or.inr z) (fun _ z => z.elim))) (by rw [(m3.fld w2 no (by omega)).1]; exact a2) (by rw [m3.cell w2 no (by omega) (offx (a := a) (o := 21188) (by decide)).2.1 (offx (a := a) (o := 21188) (by decide)).2.2 (by omega)]; exact x2) (fun j hj => by rw [f3, if_neg (fun z => by omega)]; exact o2 j (by omega)) (fun v' hv' => ?_)
      · rw [show ((v + 1 : Nat) : Int) = (v : Int) + 1 by omega] at nx
        exact nx
      · rw [f3]
        by_cases y : v' = v
        · rw [if_pos ⟨rfl, by omega⟩, y]
        · rw [if_neg (fun z => by omega)]
          exact f2 v' (by omega)
  have A5 : mK M (a + 105) = 30 ∧ mN M (a + 105) = 6144 := w.1.2.2.2.2.2.2.2.2.1.1
  have A8 : mK M (a + 21188) = 30 ∧ mN M (a + 21188) = 12 := w.1.2.2.2.2.2.2.2.2.2.1.2.2.2.1
  have r31 : mR M a 31 = a + 105 := w.1.2.2.2.2.2.1.1
  have r44 : mR M a 44 = a + 21188 := w.1.2.2.2.2.2.2.1.2.2.2.1
  refine k_MM_stateOf hO ?_
  suffices L1 : ∀ (c k : Nat), k + c = n → h_MM_stateOf_2 G d a k M (fun x M' => i32 x ∧ mOk M' ∧ soQ M a g n W x M') from L1 n 0 (by omega)
  intro c
  induction c with
  | zero =>
    intro k hk
    have ek : k = n := by omega
    subst ek
    refine k_MM_stateOf_2 hO (i32s (by omega) (by omega)) ⟨w.1.1, fun _ => ⟨fun _ => ⟨⟨by decide, by decide⟩, hO, Or.inl ⟨rfl, rfl⟩⟩, fun q => ?_⟩, fun q => absurd (by rw [hn]; exact Int.le_refl _) q⟩
    rw [hn] at q
    exact L3 (by omega) W 0 M (by omega) (Mv.refl hO w (fun _ z => z.elim)) rfl rfl (fun j _ => rfl) (fun v' hv' => absurd hv' (by omega))
  | succ c ih =>
    intro k hk
    have nx := ih (k + 1) (by omega)
    rw [show ((k + 1 : Nat) : Int) = (k : Int) + 1 by omega] at nx
    refine k_MM_stateOf_2 hO (i32s (by omega) (by omega)) ⟨w.1.1, fun q => by rw [hn] at q; omega, fun _ => ?_⟩
    suffices L2 : ∀ (t v : Nat) (s : Int), v + t = W → (s = 0 ∨ s = 1) → h_MM_stateOf_14 G d a k s v M (fun x M' => i32 x ∧ mOk M' ∧ soQ M a g n W x M') from L2 W 0 1 (by omega) (Or.inr rfl)
    have fnd : i32 (k : Int) ∧ mOk M ∧ soQ M a g n W k M := ⟨i32s (by omega) (by omega), hO, Or.inr ⟨n, Or.inl rfl, hn5, by omega, by omega, Mv.refl hO w (fun _ z => z.elim), hn, fun _ _ => rfl, hv⟩⟩
    intro t
    induction t with
    | zero =>
      intro v s hv' hs
      have ev : v = W := by omega
      subst ev
      refine k_MM_stateOf_14 hO (i32s (by omega) (by omega)) (i32s (by omega) (by omega)) (i32s (by omega) (by omega)) ⟨w.1.1, ?_⟩
      rw [r9, g12]
      exact ⟨(w.gp hg).1, fun _ => ⟨fun _ => nx, fun _ => fnd⟩, fun q => absurd (Or.inl (Int.le_refl _)) q⟩
    | succ t ih2 =>
      intro v s hv' hs
      refine k_MM_stateOf_14 hO (i32s (by omega) (by omega)) (i32s (by omega) (by omega)) (i32s (by omega) (by omega)) ⟨w.1.1, ?_⟩
      rw [r9, g12, r31, r44]
      refine ⟨(w.gp hg).1, fun _ => ⟨fun _ => nx, fun _ => fnd⟩, fun _ => ⟨A5.1, by rw [A5.2]; omega, A8.1, by rw [A8.2]; omega, fun u hu => ?_⟩⟩
      rw [show (v : Int) + 1 = ((v + 1 : Nat) : Int) by omega]
      exact ih2 (v + 1) u (by omega) (by split at hu <;> omega)
end SET
end
section
/-! The reference: chances of ways are added; what is known of ways and commands. -/
section ADD
variable {G : mG} {d a g T R W C Z n L w Ln : Nat} {M M' M2 : mM} {E : Nat → Nat} {tg : Int} {B : Nat → Nat}
/-- a sum of two chances in lowest terms -/
theorem add_math {A D u v mul q A' D' : Int} (hD : 0 < D) (hv : 0 < v) (hA : 0 < A) (hu : 0 < u) (h1 : D ∣ mul) (h2 : v ∣ mul) (hq : 1 ≤ q) (e1 : A * v + u * D = q * A') (e2 : D * v = q * D') (hg : ∀ z : Int, z ∣ A * v + u * D → z ∣ D * v → z ∣ q) : 0 < A' ∧ 0 < D' ∧ D' ∣ mul ∧ A' * (mul / D') = A * (mul / D) + u * (mul / v) := by
  obtain ⟨p, hp⟩ := h1
  obtain ⟨r, hr⟩ := h2
  have dp : mul / D = p := by rw [hp]; exact Int.mul_ediv_cancel_left p (by omega)
  have dr : mul / v = r := by rw [hr]; exact Int.mul_ediv_cancel_left r (by omega)
  have posm : ∀ {x y : Int}, 0 < x → 0 < x * y → 0 < y := fun {x y} hx hxy => by
    by_cases z : 0 < y
    · exact z
    · have := Int.mul_le_mul_of_nonneg_left (show y ≤ 0 by omega) (show 0 ≤ x by omega)
      omega
  have x0 : 0 < A * v + u * D := by
    have := Int.mul_pos hA hv
    have := Int.mul_pos hu hD
    omega
  have A0 : 0 < A' := posm (x := q) (by omega) (by rw [← e1]; exact x0)
  have D0 : 0 < D' := posm (x := q) (by omega) (by rw [← e2]; exact Int.mul_pos hD hv)
  -- mul * A' = D' * K
  have key : mul * A' = D' * (A * p + u * r) := by
    have k1 : q * (mul * A') = q * (D' * (A * p + u * r)) := by
      have s1 : q * (mul * A') = mul * (A * v + u * D) := by rw [e1]; grind
      have s2 : q * (D' * (A * p + u * r)) = D * v * (A * p + u * r) := by rw [e2]; grind
      have s3 : mul * (A * v + u * D) = (D * p) * (A * v) + (v * r) * (u * D) := by rw [← hp, ← hr]; grind
      rw [s1, s2, s3]
      grind
    exact Int.eq_of_mul_eq_mul_left (show q ≠ 0 by omega) k1
  have cop : Nat.Coprime D'.natAbs A'.natAbs := by
    unfold Nat.Coprime
    have d1 : (Nat.gcd D'.natAbs A'.natAbs : Int) ∣ D' := Int.ofNat_dvd_left.2 (Nat.gcd_dvd_left _ _)
    have d2 : (Nat.gcd D'.natAbs A'.natAbs : Int) ∣ A' := Int.ofNat_dvd_left.2 (Nat.gcd_dvd_right _ _)
    have d3 := hg (q * (Nat.gcd D'.natAbs A'.natAbs : Int)) (by rw [e1]; exact Int.mul_dvd_mul (Int.dvd_refl q) d2) (by rw [e2]; exact Int.mul_dvd_mul (Int.dvd_refl q) d1)
    obtain ⟨t, ht⟩ := d3
    have t1 : (Nat.gcd D'.natAbs A'.natAbs : Int) * t = 1 := by
      have : q * ((Nat.gcd D'.natAbs A'.natAbs : Int) * t) = q * 1 := by rw [Int.mul_one, ← Int.mul_assoc]; exact ht.symm
      exact Int.eq_of_mul_eq_mul_left (show q ≠ 0 by omega) this
    have := Int.eq_one_of_mul_eq_one_right (show (0 : Int) ≤ (Nat.gcd D'.natAbs A'.natAbs : Int) by omega) t1
    omega
  have dm : D' ∣ mul := by
    have : D'.natAbs ∣ A'.natAbs * mul.natAbs := by
      rw [← Int.natAbs_mul, Int.mul_comm, key]
      exact Int.natAbs_dvd_natAbs.2 (Int.dvd_mul_right D' _)
    exact Int.natAbs_dvd_natAbs.1 (cop.dvd_of_dvd_mul_left this)
  refine ⟨A0, D0, dm, ?_⟩
  obtain ⟨m, hm⟩ := dm
  have dd : mul / D' = m := by rw [hm]; exact Int.mul_ediv_cancel_left m (by omega)
  rw [dd, dp, dr]
  rw [hm] at key
  have : D' * (A' * m) = D' * (A * p + u * r) := by rw [← key]; grind
  exact Int.eq_of_mul_eq_mul_left (show D' ≠ 0 by omega) this
/-- the ways that are known -/
def Wy (M : mM) (a n w : Nat) : Prop := ∀ j : Nat, j < w → (0 ≤ mI M (a + 21185) j ∧ mI M (a + 21185) j < n) ∧ (0 < mL M (a + 21186) j ∧ mL M (a + 21186) j < 1000000000) ∧ (0 < mL M (a + 21187) j ∧ mL M (a + 21187) j < 1000000000)
/-- command i is complete: its ways are B i to B (i + 1) - 1 -/
def okc (M : mM) (a : Nat) (B : Nat → Nat) (i : Nat) : Prop := (B i < B (i + 1) ∧ B (i + 1) ≤ B i + 8) ∧ (nt M (a + 111) i = (B i : Int) ∧ nt M (a + 113) i = ((B (i + 1) - B i : Nat) : Int)) ∧ (1 ≤ nt M (a + 115) i ∧ nt M (a + 115) i < 1000000000) ∧ (∀ j : Nat, B i ≤ j → j < B (i + 1) → mL M (a + 21187) j ∣ nt M (a + 115) i) ∧ sm (fun t => mL M (a + 21186) (B i + t) * (nt M (a + 115) i / mL M (a + 21187) (B i + t))) (B (i + 1) - B i) = nt M (a + 115) i
/-- what has been found so far: n states, L complete commands, w ways; the lists hold Ln commands -/
def XD (M : mM) (a g n W L w Ln : Nat) (B : Nat → Nat) : Prop := (mI M a 29 = (n : Int) ∧ 1 ≤ n ∧ n ≤ 512) ∧ (mI M a 40 = (w : Int) ∧ w ≤ 4096) ∧ Vx M a g n W ∧ Wy M a n w ∧ (ln M (a + 109) = Ln ∧ ln M (a + 111) = Ln ∧ ln M (a + 113) = Ln ∧ ln M (a + 115) = Ln) ∧ (B 0 = 0 ∧ B L ≤ w ∧ L ≤ Ln) ∧ ∀ i, i < L → okc M a B i
theorem XD.mono (h : XD M a g n W L w Ln B) : ∀ i j, i ≤ j → j ≤ L → B i + (j - i) ≤ B j := by
  intro i j hij hj
  induction j with
  | zero => have : i = 0 := by omega
            rw [this]; omega
  | succ j ih =>
    by_cases z : i = j + 1
    · rw [z]; omega
    · have := ih (by omega) (by omega)
      have := (h.2.2.2.2.2.2 j (by omega)).1.1
      omega
theorem okc.cg {i : Nat} (h : okc M a B i) (e1 : nt M' (a + 111) i = nt M (a + 111) i) (e2 : nt M' (a + 113) i = nt M (a + 113) i) (e3 : nt M' (a + 115) i = nt M (a + 115) i) (e4 : ∀ j, B i ≤ j → j < B (i + 1) → mL M' (a + 21186) j = mL M (a + 21186) j ∧ mL M' (a + 21187) j = mL M (a + 21187) j) : okc M' a B i := by
  obtain ⟨h1, h2, h3, h4, h5⟩ := h
  unfold okc
  rw [e1, e2, e3]
  refine ⟨h1, h2, h3, fun j j1 j2 => by rw [(e4 j j1 j2).2]; exact h4 j j1 j2, ?_⟩
  refine Eq.trans (sm_congr _ (fun t ht => ?_)) h5
  have := e4 (B i + t) (by omega) (by omega)
  show mL M' (a + 21186) (B i + t) * (nt M (a + 115) i / mL M' (a + 21187) (B i + t)) = mL M (a + 21186) (B i + t) * (nt M (a + 115) i / mL M (a + 21187) (B i + t))
  rw [this.1, this.2]
/-- a step that leaves all this -/
theorem XD.same (h : XD M a g n W L w Ln B) (f29 : mI M' a 29 = mI M a 29) (f40 : mI M' a 40 = mI M a 40) (gs : Gs M M' g) (c105 : mI M' (a + 105) = mI M (a + 105)) (c85 : mI M' (a + 21185) = mI M (a + 21185)) (c86 : mL M' (a + 21186) = mL M (a + 21186)) (c87 : mL M' (a + 21187) = mL M (a + 21187)) (l9 : sl M M' (a + 109)) (l11 : sl M M' (a + 111)) (l13 : sl M M' (a + 113)) (l15 : sl M M' (a + 115)) : XD M' a g n W L w Ln B := by
  obtain ⟨h1, h2, h3, h4, h5, h6, h7⟩ := h
  refine ⟨by rw [f29]; exact h1, by rw [f40]; exact h2, fun k v hk hv => ?_, fun j hj => ?_, by rw [l9.1, l11.1, l13.1, l15.1]; exact h5, h6, fun i hi => (h7 i hi).cg (l11.2 i) (l13.2 i) (l15.2 i) (fun j _ _ => by rw [c86, c87]; exact ⟨rfl, rfl⟩)⟩
  · rw [(gs.2.1 19 (by omega) (by omega)).1, (gs.2.1 20 (by omega) (by omega)).1, c105]
    exact h3 k v hk hv
  · rw [c85, c86, c87]
    exact h4 j hj
theorem k109 : a + 109 ∈ nums a := nums_o (by decide)
theorem k111 : a + 111 ∈ nums a := nums_o (by decide)
theorem k113 : a + 113 ∈ nums a := nums_o (by decide)
theorem k115 : a + 115 ∈ nums a := nums_o (by decide)
theorem XD.mv {P S : Nat → Prop} (h : XD M a g n W L w Ln B) (w0 : Wd M a) (m : Mv P S M a M') (hin : ∀ q, P q → q ∈ nums a) (hP : ∀ q, P q → q ≠ a + 109 ∧ q ≠ a + 111 ∧ q ≠ a + 113 ∧ q ≠ a + 115) (hS : ∀ x, S x → x ≠ a + 105 ∧ x ≠ a + 21185 ∧ x ≠ a + 21186 ∧ x ≠ a + 21187) (gs : Gs M M' g) (f29 : mI M' a 29 = mI M a 29) (f40 : mI M' a 40 = mI M a 40) : XD M' a g n W L w Ln B :=
  h.same f29 f40 gs (m.cellL w0 hin (offx (a := a) (o := 105) (by decide)) (fun z => (hS _ z).1 rfl)).1 (m.cellL w0 hin (offx (a := a) (o := 21185) (by decide)) (fun z => (hS _ z).2.1 rfl)).1 (m.cellL w0 hin (offx (a := a) (o := 21186) (by decide)) (fun z => (hS _ z).2.2.1 rfl)).2 (m.cellL w0 hin (offx (a := a) (o := 21187) (by decide)) (fun z => (hS _ z).2.2.2 rfl)).2 (m.lst k109 (fun z => (hP _ z).1 rfl)).sl (m.lst k111 (fun z => (hP _ z).2.1 rfl)).sl (m.lst k113 (fun z => (hP _ z).2.2.1 rfl)).sl (m.lst k115 (fun z => (hP _ z).2.2.2 rfl)).sl
end ADD
end
section
/-! The reference: a way's chance grows, or a way is new. -/
section AWY
variable {G : mG} {d a g T R W C Z n L w w0 : Nat} {M M' M2 M3 M4 : mM} {E : Nat → Nat} {tg mul Sm : Int} {B : Nat → Nat}
/-- the command that is being explored -/
def Op (M : mM) (a L w0 w : Nat) (mul Sm : Int) : Prop := w0 ≤ w ∧ (nt M (a + 111) L = (w0 : Int) ∧ nt M (a + 113) L = ((w - w0 : Nat) : Int) ∧ nt M (a + 115) L = mul) ∧ (1 ≤ mul ∧ mul < 1000000000) ∧ (∀ j : Nat, w0 ≤ j → j < w → mL M (a + 21187) j ∣ mul) ∧ sm (fun t => mL M (a + 21186) (w0 + t) * (mul / mL M (a + 21187) (w0 + t))) (w - w0) = Sm
theorem sm_upd {f f' : Nat → Int} {t0 : Nat} : ∀ (n : Nat), t0 < n → (∀ t, t < n → t ≠ t0 → f' t = f t) → sm f' n = sm f n - f t0 + f' t0
  | 0, h, _ => absurd h (by omega)
  | n + 1, h, k => by
    show sm f' n + f' n = sm f n + f n - f t0 + f' t0
    by_cases z : t0 = n
    · have : sm f' n = sm f n := sm_congr n (fun t ht => k t (by omega) (by omega))
      rw [this, z]
      omega
    · have := sm_upd n (by omega) (fun t ht hne => k t (by omega) hne)
      rw [this, k n (by omega) (fun y => z y.symm)]
      omega
theorem sm_le1 {f : Nat → Int} {t0 : Nat} : ∀ (n : Nat), t0 < n → (∀ t, t < n → 0 ≤ f t) → f t0 ≤ sm f n
  | 0, h, _ => absurd h (by omega)
  | n + 1, h, k => by
    show f t0 ≤ sm f n + f n
    have kn := k n (by omega)
    by_cases z : t0 = n
    · have : 0 ≤ sm f n := by
        clear h z
        induction n with
        | zero => exact Int.le_refl 0
        | succ n ih =>
          show 0 ≤ sm f n + f n
          have := ih (fun t ht => k t (by omega)) (k n (by omega))
          have := k n (by omega)
          omega
      rw [z]; omega
    · have := sm_le1 (f := f) (t0 := t0) n (by omega) (fun t ht => k t (by omega))
      omega
/-- the sum of chances grows -/
theorem s_MM_add {j : Nat} {A D : Int} (hg : g = a + 13 ∨ g = a + 49) (o : mOk M) (w' : Wd M a) (h : XD M a g n W L w (L + 1) B) (hw0 : B L = w0) (hp : Op M a L w0 w mul Sm) (j0 : w0 ≤ j) (j1 : j < w) (hA : 0 < A ∧ A < 1000000000) (hD : 0 < D ∧ D < 1000000000) (hdm : D ∣ mul) (hle : Sm + A * (mul / D) ≤ mul) : Cv G y_MM_add (d + 1) [vr a, vi j, vl A, vl D] M (fun M' => mOk M' ∧ Mv (fun _ => False) (fun x => a + 21186 ≤ x ∧ x ≤ a + 21187) M a M' ∧ mI M' = mI M ∧ XD M' a g n W L w (L + 1) B ∧ Op M' a L w0 w mul (Sm + A * (mul / D))) := by
  obtain ⟨y1, y2, y3⟩ := h.2.2.2.1 j j1
  have hw4 := h.2.1.2
  obtain ⟨p1, p2, p3, p4, p5⟩ := id hp
  have r42 : mR M a 42 = a + 21186 := w'.1.2.2.2.2.2.2.1.2.1
  have r43 : mR M a 43 = a + 21187 := w'.1.2.2.2.2.2.2.1.2.2.1
  have A6 : mK M (a + 21186) = 33 ∧ mN M (a + 21186) = 4096 := w'.1.2.2.2.2.2.2.2.2.2.1.2.1
  have A7 : mK M (a + 21187) = 33 ∧ mN M (a + 21187) = 4096 := w'.1.2.2.2.2.2.2.2.2.2.1.2.2.1
  have bj : ((0 : Int) ≤ (j : Int) ∧ (j : Int) < ((4096 : Nat) : Int)) := by omega
  refine k_MM_add o (i32s (by omega) (by omega)) ⟨by omega, by omega⟩ ⟨by omega, by omega⟩ ⟨w'.1.1, ?_⟩
  rw [r42, r43, Int.toNat_natCast]
  generalize hXA : mL M (a + 21186) j = XA at *
  generalize hXD : mL M (a + 21187) j = XDn at *
  have m1 : 0 ≤ XA * D ∧ XA * D ≤ 1000000000 * 1000000000 := ⟨Int.mul_nonneg (by omega) (by omega), Int.mul_le_mul (by omega) (by omega) (by omega) (by omega)⟩
  have m2 : 0 ≤ A * XDn ∧ A * XDn ≤ 1000000000 * 1000000000 := ⟨Int.mul_nonneg (by omega) (by omega), Int.mul_le_mul (by omega) (by omega) (by omega) (by omega)⟩
  have m3 : 0 < XDn * D ∧ XDn * D ≤ 1000000000 * 1000000000 := ⟨Int.mul_pos (by omega) (by omega), Int.mul_le_mul (by omega) (by omega) (by omega) (by omega)⟩
  have is : i64 (XA * D + A * XDn) := ⟨by omega, by omega⟩
  have iy : i64 (XDn * D) := ⟨by omega, by omega⟩
  refine ⟨A6.1, by rw [A6.2]; exact bj, A7.1, by rw [A7.2]; exact bj, by rw [A7.2]; exact bj, (s_MM_divisor2 (by omega) ⟨by omega, iy⟩ o).mono (fun q M1 h1 => ?_)⟩
  obtain ⟨e1, q1, q2, ⟨A', hA'⟩, ⟨D', hD'⟩, hgcd⟩ := h1
  subst e1
  have qn : q ≠ 0 := by omega
  have t1 : Int.tdiv (XA * D + A * XDn) q = A' := by rw [hA']; exact Int.mul_tdiv_cancel_left A' qn
  have t2 : Int.tdiv (XDn * D) q = D' := by rw [hD']; exact Int.mul_tdiv_cancel_left D' qn
  have xdm : XDn ∣ mul := by rw [← hXD]; exact p4 j j0 j1
  obtain ⟨A0, D0, dm, key⟩ := add_math (mul := mul) y3.1 hD.1 y2.1 hA.1 xdm hdm q1 hA' hD' hgcd
  -- the terms of the sum
  have nn : ∀ t, t < w - w0 → 0 ≤ mL M1 (a + 21186) (w0 + t) * (mul / mL M1 (a + 21187) (w0 + t)) := fun t ht => by
    have := h.2.2.2.1 (w0 + t) (by omega)
    exact Int.mul_nonneg (by omega) (Int.ediv_nonneg (by omega) (by omega))
  have le1 := sm_le1 (f := fun t => mL M1 (a + 21186) (w0 + t) * (mul / mL M1 (a + 21187) (w0 + t))) (t0 := j - w0) (w - w0) (by omega) nn
  rw [p5] at le1
  have le1' : XA * (mul / XDn) ≤ Sm := by
    have e : w0 + (j - w0) = j := by omega
    have : mL M1 (a + 21186) (w0 + (j - w0)) * (mul / mL M1 (a + 21187) (w0 + (j - w0))) ≤ Sm := le1
    rw [e, hXA, hXD] at this
    exact this
  obtain ⟨m, hm⟩ := dm
  have mm : mul / D' = m := by rw [hm]; exact Int.mul_ediv_cancel_left m (by omega)
  have m0 : 0 < m := by
    by_cases z : 0 < m
    · exact z
    · have := Int.mul_le_mul_of_nonneg_left (show m ≤ 0 by omega) (show 0 ≤ D' by omega)
      omega
  have AD : A' ≤ D' := by
    by_cases z : A' ≤ D'
    · exact z
    · have k1 := Int.mul_lt_mul_of_pos_right (show D' < A' by omega) m0
      rw [mm] at key
      omega
  have Dm : D' ≤ mul := by
    have := Int.mul_le_mul_of_nonneg_left (show 1 ≤ m by omega) (show 0 ≤ D' by omega)
    omega
  have iA' : i64 A' := ⟨by omega, by omega⟩
  have iD' : i64 D' := ⟨by omega, by omega⟩
  rw [t1, t2]
  refine ⟨⟨by omega, by have := iy.2; omega⟩, o, w'.1.1, is, qn, ?_⟩
  rw [r42]
  refine ⟨A6.1, by rw [A6.2]; exact bj, iA', fun M2 e2 => ⟨iy, qn, ?_⟩⟩
  obtain ⟨k2, f2, n2, i2⟩ := mv_ulx iA' o w' e2
  have w2 := k2.2.1
  rw [show mR M2 a 43 = a + 21187 from w2.1.2.2.2.2.2.2.1.2.2.1]
  have A72 : mK M2 (a + 21187) = 33 ∧ mN M2 (a + 21187) = 4096 := w2.1.2.2.2.2.2.2.2.2.2.1.2.2.1
  refine ⟨A72.1, by rw [A72.2]; exact bj, iD', fun M3 e3 => ?_⟩
  obtain ⟨k3, f3, n3, i3⟩ := mv_ulx iD' k2.1 w2 e3
  have iI : mI M3 = mI M1 := by rw [i3, i2]
  have l86 : ∀ k, mL M3 (a + 21186) k = if k = j then A' else mL M1 (a + 21186) k := fun k => by rw [n3 _ (by omega), f2]
  have l87 : ∀ k, mL M3 (a + 21187) k = if k = j then D' else mL M1 (a + 21187) k := fun k => by rw [f3, n2 _ (by omega)]
  have kk : Mv (fun _ => False) (fun x => a + 21186 ≤ x ∧ x ≤ a + 21187) M1 a M3 := (k2.mono (fun _ z => z) (fun x z => by omega) (fun _ z => z.elim)).trans (k3.mono (fun _ z => z) (fun x z => by omega) (fun _ z => z.elim))
  have no : ∀ q : Nat, False → q ∈ nums a := fun _ z => z.elim
  have gs := gs_st w' hg kk no (fun _ z => z.elim) (fun x z => by omega)
  have s : ∀ {q}, q ∈ nums a → sameN M1 M3 q := fun hq => kk.lst hq (fun z => z)
  obtain ⟨h1, h2, h3, h4, h5, h6, h7⟩ := id h
  have mB := h.mono
  refine ⟨kk.1, kk, iI, ⟨by rw [iI]; exact h1, by rw [iI]; exact h2, fun k v hk hv => ?_, fun i hi => ?_, by rw [(s k109).1, (s k111).1, (s k113).1, (s k115).1]; exact h5, h6, fun i hi => (h7 i hi).cg ((s k111).2.1 i) ((s k113).2.1 i) ((s k115).2.1 i) (fun t _ t2 => ?_)⟩, p1, by rw [(s k111).2.1, (s k113).2.1, (s k115).2.1]; exact p2, p3, fun i i1 i2' => ?_, ?_⟩
  · rw [iI]; exact h3 k v hk hv
  · rw [iI, l86, l87]
    by_cases z : i = j
    · rw [if_pos z, if_pos z]
      exact ⟨(h4 i hi).1, by omega, by omega⟩
    · rw [if_neg z, if_neg z]
      exact h4 i hi
  · have := mB (i + 1) L (by omega) (Nat.le_refl _)
    rw [l86, l87, if_neg (by omega), if_neg (by omega)]
    exact ⟨rfl, rfl⟩
  · rw [l87]
    by_cases z : i = j
    · rw [if_pos z, hm]; exact Int.dvd_mul_right D' m
    · rw [if_neg z]; exact p4 i i1 i2'
  · rw [sm_upd (f := fun t => mL M1 (a + 21186) (w0 + t) * (mul / mL M1 (a + 21187) (w0 + t))) (t0 := j - w0) (w - w0) (by omega) (fun t ht hne => ?_), p5]
    · show Sm - mL M1 (a + 21186) (w0 + (j - w0)) * (mul / mL M1 (a + 21187) (w0 + (j - w0))) + mL M3 (a + 21186) (w0 + (j - w0)) * (mul / mL M3 (a + 21187) (w0 + (j - w0))) = _
      rw [show w0 + (j - w0) = j by omega, l86, l87, if_pos rfl, if_pos rfl, hXA, hXD, key]
      omega
    · show mL M3 (a + 21186) (w0 + t) * (mul / mL M3 (a + 21187) (w0 + t)) = mL M1 (a + 21186) (w0 + t) * (mul / mL M1 (a + 21187) (w0 + t))
      rw [l86, l87, if_neg (by omega), if_neg (by omega)]
end AWY
end
