/-! The reference: a variable's next value; a state is found or made. -/
section SET
variable {G : mG} {d a g T R W C Z n : Nat} {M M' M2 : mM} {E : Nat → Nat} {tg : Int}
/-- the next values stand in their ranges -/
def Nxv (M : mM) (a g W : Nat) : Prop := ∀ v : Nat, v < W → mI M (g + 19) v ≤ mI M (a + 21188) v ∧ mI M (a + 21188) v ≤ mI M (g + 20) v
/-- working out, and next values -/
abbrev sxS (a : Nat) : Nat → Prop := fun x => woS a x ∨ x = a + 21188
/-- a next value has been set -/
def seQ (M : mM) (a g T R W C Z : Nat) (E : Nat → Nat) (tg : Int) (M' : mM) : Prop := Mv (fun x => x = a + 99) (sxS a) M a M' ∧ (∀ i, i ≠ 16 → i ≠ 17 → i ≠ 23 → mI M' a i = mI M a i) ∧ GG M' a g T R W C Z E tg ∧ En M' a g R W ∧ (mI M' a 16 = 0 → Nxv M' a g W)
theorem s_MM_set1 {v : Nat} {root pl : Int} (h : GG M a g T R W C Z E tg) (hn : En M a g R W) (hx : Nxv M a g W) (hv : v < W) (hr : Rt M g R W T E root (tn M g (100 + (v : Int)))) (ipl : i32 pl) : Cv G y_MM_set1 (d + 6) [vr a, vi v, vi root, vi pl] M (fun M' => mOk M' ∧ seQ M a g T R W C Z E tg M') := by
  have w := h.2.1
  have hg := h.2.2.1.2
  have hD := h.2.2.2.2.2.2.2.1
  have hBd := hD.1
  obtain ⟨v1, v2, v3, v4, v5, v6⟩ := hD.2.2.2.1 v hv
  have e1 : tn M g (100 + (v : Int)) = mI M (g + 18) v := by
    unfold tn
    rw [if_pos (show (100 : Int) ≤ 100 + (v : Int) by omega), show (100 + (v : Int) - 100).toNat = v by omega]
    rcases v6 with y | y <;> rw [y] <;> rfl
  have ir : i32 root := by
    obtain ⟨n', b, f, e, r1, r2, r3, r4, r5⟩ := hr
    have := r4.tn.lt
    have := h.2.2.2.2.1
    rw [r1]
    exact i32s (by omega) (by omega)
  have b12 : ((0 : Int) ≤ (v : Int) ∧ (v : Int) < ((12 : Nat) : Int)) := by omega
  have toS : ∀ {Mx : mM}, Mv (fun x => x = a + 99) (woS a) M a Mx → Mv (fun x => x = a + 99) (sxS a) M a Mx := fun m => m.mono (fun q hq => hq) (fun x z => Or.inl z) (lt99 w)
  refine k_MM_set1 h.1 (i32s (by omega) (by omega)) ir ipl ⟨w.1.1, (s_MM_reach (d := d) h hn hr).mono (fun M2 t2 => ?_)⟩
  obtain ⟨o2, x2, gg2, en2, v2'⟩ := t2
  have w2 := gg2.2.1
  have gs2 := (x2.xe w).gs w hg
  have c88 : mI M2 (a + 21188) = mI M (a + 21188) := (x2.1.cellL w in99 (offx (a := a) (o := 21188) (by decide)) (fun z => by
    have z' : a + 21188 = a ∨ a + 21188 = a + 97 ∨ a + 21188 = a + 98 ∨ a + 21188 = a + 102 ∨ a + 21188 = a + 103 ∨ a + 21188 = a + 104 := z
    omega)).1
  have nx2 : Nxv M2 a g W := fun v' hv' => by
    rw [(gs2.2.1 19 (by omega) (by omega)).1, (gs2.2.1 20 (by omega) (by omega)).1, c88]
    exact hx v' hv'
  refine ⟨o2, w2.1.1, fun z16 => ?_, fun z16 => ⟨o2, toS x2.1, x2.2, gg2, en2, fun z => absurd z z16⟩⟩
  have vk : vok (mI M (g + 18) v) (mL M2 (a + 97) 0) (mL M2 (a + 98) 0) := by
    rcases v2' with y | ⟨-, y⟩
    · exact absurd z16 y
    · rw [e1] at y; exact y
  have B2 : mR M2 a 21 = a + 97 ∧ mR M2 a 22 = a + 98 ∧ mR M2 a 44 = a + 21188 := ⟨w2.1.2.2.2.2.1.2.2.2.2.2.2.1, w2.1.2.2.2.2.1.2.2.2.2.2.2.2.1, w2.1.2.2.2.2.2.2.1.2.2.2.1⟩
  have A2 : (mK M2 (a + 97) = 33 ∧ mN M2 (a + 97) = 16400) ∧ (mK M2 (a + 98) = 33 ∧ mN M2 (a + 98) = 16400) ∧ (mK M2 (a + 21188) = 30 ∧ mN M2 (a + 21188) = 12) := ⟨w2.1.2.2.2.2.2.2.2.1.1, w2.1.2.2.2.2.2.2.2.1.2.1, w2.1.2.2.2.2.2.2.2.2.2.1.2.2.2.1⟩
  rw [gg2.2.2.1.1, show mR M2 g 13 = g + 18 from (w2.gp hg).2.2.1.1, show mR M2 g 14 = g + 19 from (w2.gp hg).2.2.1.2.1, show mR M2 g 15 = g + 20 from (w2.gp hg).2.2.1.2.2.1, B2.1, B2.2.1, B2.2.2, Int.toNat_natCast, (gs2.2.1 18 (by omega) (by omega)).1, (gs2.2.1 19 (by omega) (by omega)).1, (gs2.2.1 20 (by omega) (by omega)).1]
  have stp : ∀ c : Int, c ≠ 0 → i32 c → Cv G y_MM_stop (d + 5) [vr a, vi c, vi pl] M2 (fun M3 => mOk M3 ∧ (mOk M3 ∧ seQ M a g T R W C Z E tg M3)) := fun c hc ic => by
    refine (s_MM_stop ic ipl o2 w2).mono (fun M3 h3 => ?_)
    have X : xg M a g T R W C Z E tg M2 := ⟨x2.xe w, gg2, en2⟩
    have X3 := X.stp h3
    refine ⟨h3.1.1, h3.1.1, (toS x2.1).trans (h3.1.mono (fun _ z => z.elim) (fun x z => Or.inl (Or.inl z)) (lt99 w2)), fun i i1 i2 i3 => (h3.2.2.2 i i1 i2).trans (x2.2 i i1 i2 i3), X3.2.1, X3.2.2, fun z => ?_⟩
    rw [h3.2.1] at z
    exact absurd z hc
  refine ⟨(w2.gp hg).1, (w2.gp hg).2.2.2.2.1.1.1, by rw [(w2.gp hg).2.2.2.2.1.1.2]; exact b12, fun _ => ⟨A2.2.1.1, by rw [A2.2.1.2]; decide⟩, fun q => ⟨A2.1.1, by rw [A2.1.2]; decide, (w2.gp hg).2.2.2.2.1.2.1.1, by rw [(w2.gp hg).2.2.2.2.1.2.1.2]; exact b12, fun _ => ⟨by rw [A2.1.2]; decide, (w2.gp hg).2.2.2.2.1.2.2.1.1, by rw [(w2.gp hg).2.2.2.2.1.2.2.1.2]; exact b12⟩, fun _ => stp 12 (by decide) ⟨by decide, by decide⟩, fun q2 => ?_⟩, fun _ => stp 8 (by decide) ⟨by decide, by decide⟩⟩
  have c1 := (cmpz (mL M2 (a + 97) 0) (mI M (g + 19) v)).2.2.1
  have c2 := (cmpz (mL M2 (a + 97) 0) (mI M (g + 20) v)).2.1
  rw [c1, c2] at q2
  have rng : mI M (g + 19) v ≤ mL M2 (a + 97) 0 ∧ mL M2 (a + 97) 0 ≤ mI M (g + 20) v := by omega
  have i97 : i32 (mL M2 (a + 97) 0) := ⟨by omega, by omega⟩
  refine ⟨by rw [A2.1.2]; decide, A2.2.2.1, by rw [A2.2.2.2]; exact b12, i97, fun M3 e3 => ?_⟩
  obtain ⟨m3, f3, l3⟩ := mv_cell i97 o2 w2 (show a ≤ a + 21188 by omega) (offx (a := a) (o := 21188) (by decide)) e3
  have no : ∀ q : Nat, False → q ∈ nums a := fun _ z => z.elim
  have aI := (m3.fld w2 no (by omega)).1
  have X : xg M a g T R W C Z E tg M2 := ⟨x2.xe w, gg2, en2⟩
  have X3 := X.st m3 (fun _ z => z.elim) (fun x z => Or.inr (Or.inr (by omega))) (fun i _ _ _ => by rw [aI])
  refine ⟨m3.1, (toS x2.1).trans (m3.mono (fun _ z => z.elim) (fun x z => Or.inr z) (lt99 w2)), fun i i1 i2 i3 => by rw [aI]; exact x2.2 i i1 i2 i3, X3.2.1, X3.2.2, fun _ v' hv' => ?_⟩
  have gs3 := gs_st w2 hg m3 no (fun _ z => z.elim) (fun x z => by omega)
  rw [(gs3.2.1 19 (by omega) (by omega)).1, (gs3.2.1 20 (by omega) (by omega)).1, f3]
  by_cases y : v' = v
  · rw [if_pos ⟨rfl, y⟩, y, (gs2.2.1 19 (by omega) (by omega)).1, (gs2.2.1 20 (by omega) (by omega)).1]
    exact rng
  · rw [if_neg (fun z => y z.2)]
    exact nx2 v' hv'
/-- the states' variables stand in their ranges -/
def Vx (M : mM) (a g n W : Nat) : Prop := ∀ k v : Nat, k < n → v < W → mI M (g + 19) v ≤ mI M (a + 105) (12 * k + v) ∧ mI M (a + 105) (12 * k + v) ≤ mI M (g + 20) v
/-- a state has been found or made -/
def soQ (M : mM) (a g n W : Nat) (x : Int) (M' : mM) : Prop := (x = -1 ∧ M' = M) ∨ ∃ n' : Nat, (n' = n ∨ n' = n + 1) ∧ n' ≤ 512 ∧ 0 ≤ x ∧ x < n' ∧ Mv (fun _ => False) (fun y => y = a ∨ y = a + 105) M a M' ∧ mI M' a 29 = (n' : Int) ∧ (∀ i, i ≠ 29 → mI M' a i = mI M a i) ∧ Vx M' a g n' W
theorem s_MM_stateOf (h : GG M a g T R W C Z E tg) (hn : mI M a 29 = (n : Int)) (hn5 : n ≤ 512) (hv : Vx M a g n W) (hx : Nxv M a g W) : Ci G y_MM_stateOf d [vr a] M (fun x M' => i32 x ∧ mOk M' ∧ soQ M a g n W x M') := by
  have hO := h.1
  have w := h.2.1
  have hg := h.2.2.1.2
  have hBd := h.2.2.2.2.2.2.2.1.1
  have g12 := h.2.2.2.2.2.1.2.1
  have r9 := h.2.2.1.1
  have no : ∀ q : Nat, False → q ∈ nums a := fun _ z => z.elim
  -- a new state is filled in
  have L3 : n < 512 → ∀ (c v : Nat) (M2 : mM), v + c = W → Mv (fun _ => False) (fun y => y = a ∨ y = a + 105) M a M2 → mI M2 a = mI M a → mI M2 (a + 21188) = mI M (a + 21188) → (∀ j, (12 * n ≤ j → 12 * n + v ≤ j) → mI M2 (a + 105) j = mI M (a + 105) j) → (∀ v', v' < v → mI M2 (a + 105) (12 * n + v') = mI M (a + 21188) v') → h_MM_stateOf_87 G d a v M2 (fun x M' => i32 x ∧ mOk M' ∧ soQ M a g n W x M') := by
    intro hn' c
    induction c with
    | zero =>
      intro v M2 hc m2 a2 x2 o2 f2
      have ev : v = W := by omega
      subst ev
      have w2 := m2.2.1
      have gs := gs_st w hg m2 no (fun _ z => z.elim) (fun x z => by omega)
      refine k_MM_stateOf_87 m2.1 (i32s (by omega) (by omega)) ⟨w2.1.1, ?_⟩
      rw [m2.rfl_a w no, r9, gs.1, g12, a2, hn]
      refine ⟨(w2.gp hg).1, fun _ => ⟨i32s (by omega) (by omega), fun M3 e3 => ?_⟩, fun q => absurd (Int.le_refl _) q⟩
      obtain ⟨m3, f3⟩ := mv_fld (v := (n : Int) + 1) (i32s (by omega) (by omega)) m2.1 w2 e3
      have mm := m2.trans (m3.mono (fun _ z => z.elim) (fun x z => Or.inl z) (fun _ z => z.elim))
      have gs3 := gs_st w hg mm no (fun _ z => z.elim) (fun x z => by omega)
      have c105 := m3.cell m2.2.1 no (by omega) (offx (a := a) (o := 105) (by decide)).2.1 (offx (a := a) (o := 105) (by decide)).2.2 (by omega)
      have e29 : mI M3 a 29 = (n : Int) + 1 := by rw [f3, if_pos rfl]
      rw [e29]
      refine ⟨i32s (by omega) (by omega), m3.1, Or.inr ⟨n + 1, Or.inr rfl, by omega, by omega, by omega, mm, by rw [e29]; omega, fun i hi => by rw [f3, if_neg hi, a2], fun k v' hk hv' => ?_⟩⟩
      rw [(gs3.2.1 19 (by omega) (by omega)).1, (gs3.2.1 20 (by omega) (by omega)).1, c105]
      by_cases y : k = n
      · rw [y, f2 v' hv']
        exact hx v' hv'
      · rw [o2 _ (by omega)]
        exact hv k v' (by omega) hv'
    | succ c ih =>
      intro v M2 hc m2 a2 x2 o2 f2
      have w2 := m2.2.1
      have gs := gs_st w hg m2 no (fun _ z => z.elim) (fun x z => by omega)
      have A5 : mK M2 (a + 105) = 30 ∧ mN M2 (a + 105) = 6144 := w2.1.2.2.2.2.2.2.2.2.1.1
      have A8 : mK M2 (a + 21188) = 30 ∧ mN M2 (a + 21188) = 12 := w2.1.2.2.2.2.2.2.2.2.2.1.2.2.2.1
      have r31 : mR M2 a 31 = a + 105 := w2.1.2.2.2.2.2.1.1
      have r44 : mR M2 a 44 = a + 21188 := w2.1.2.2.2.2.2.2.1.2.2.2.1
      have e9 : mR M2 a 9 = g := by rw [m2.rfl_a w no]; exact r9
      refine k_MM_stateOf_87 m2.1 (i32s (by omega) (by omega)) ⟨w2.1.1, ?_⟩
      rw [e9, gs.1, g12, a2, hn, r31, r44, Int.toNat_natCast, show 12 * (n : Int) + (v : Int) = ((12 * n + v : Nat) : Int) by omega, Int.toNat_natCast, x2]
      refine ⟨(w2.gp hg).1, fun q => absurd q (by omega), fun _ => ⟨A8.1, by rw [A8.2]; omega, A5.1, by rw [A5.2]; omega, fun M3 e3 => ?_⟩⟩
      obtain ⟨m3, f3, l3⟩ := mv_cell (hO _ _).1 m2.1 w2 (show a ≤ a + 105 by omega) (offx (a := a) (o := 105) (by decide)) e3
      have nx := ih (v + 1) M3 (by omega) (m2.trans (m3.mono (fun _ z => z.elim) (fun x z => Or.inr z) (fun _ z => z.elim))) (by rw [(m3.fld w2 no (by omega)).1]; exact a2) (by rw [m3.cell w2 no (by omega) (offx (a := a) (o := 21188) (by decide)).2.1 (offx (a := a) (o := 21188) (by decide)).2.2 (by omega)]; exact x2) (fun j hj => by rw [f3, if_neg (fun z => by omega)]; exact o2 j (by omega)) (fun v' hv' => ?_)
      · rw [show ((v + 1 : Nat) : Int) = (v : Int) + 1 by omega] at nx
        exact nx
      · rw [f3]
        by_cases y : v' = v
        · rw [if_pos ⟨rfl, by omega⟩, y]
        · rw [if_neg (fun z => by omega)]
          exact f2 v' (by omega)
  have A5 : mK M (a + 105) = 30 ∧ mN M (a + 105) = 6144 := w.1.2.2.2.2.2.2.2.2.1.1
  have A8 : mK M (a + 21188) = 30 ∧ mN M (a + 21188) = 12 := w.1.2.2.2.2.2.2.2.2.2.1.2.2.2.1
  have r31 : mR M a 31 = a + 105 := w.1.2.2.2.2.2.1.1
  have r44 : mR M a 44 = a + 21188 := w.1.2.2.2.2.2.2.1.2.2.2.1
  refine k_MM_stateOf hO ?_
  suffices L1 : ∀ (c k : Nat), k + c = n → h_MM_stateOf_2 G d a k M (fun x M' => i32 x ∧ mOk M' ∧ soQ M a g n W x M') from L1 n 0 (by omega)
  intro c
  induction c with
  | zero =>
    intro k hk
    have ek : k = n := by omega
    subst ek
    refine k_MM_stateOf_2 hO (i32s (by omega) (by omega)) ⟨w.1.1, fun _ => ⟨fun _ => ⟨⟨by decide, by decide⟩, hO, Or.inl ⟨rfl, rfl⟩⟩, fun q => ?_⟩, fun q => absurd (by rw [hn]; exact Int.le_refl _) q⟩
    rw [hn] at q
    exact L3 (by omega) W 0 M (by omega) (Mv.refl hO w (fun _ z => z.elim)) rfl rfl (fun j _ => rfl) (fun v' hv' => absurd hv' (by omega))
  | succ c ih =>
    intro k hk
    have nx := ih (k + 1) (by omega)
    rw [show ((k + 1 : Nat) : Int) = (k : Int) + 1 by omega] at nx
    refine k_MM_stateOf_2 hO (i32s (by omega) (by omega)) ⟨w.1.1, fun q => by rw [hn] at q; omega, fun _ => ?_⟩
    suffices L2 : ∀ (t v : Nat) (s : Int), v + t = W → (s = 0 ∨ s = 1) → h_MM_stateOf_14 G d a k s v M (fun x M' => i32 x ∧ mOk M' ∧ soQ M a g n W x M') from L2 W 0 1 (by omega) (Or.inr rfl)
    have fnd : i32 (k : Int) ∧ mOk M ∧ soQ M a g n W k M := ⟨i32s (by omega) (by omega), hO, Or.inr ⟨n, Or.inl rfl, hn5, by omega, by omega, Mv.refl hO w (fun _ z => z.elim), hn, fun _ _ => rfl, hv⟩⟩
    intro t
    induction t with
    | zero =>
      intro v s hv' hs
      have ev : v = W := by omega
      subst ev
      refine k_MM_stateOf_14 hO (i32s (by omega) (by omega)) (i32s (by omega) (by omega)) (i32s (by omega) (by omega)) ⟨w.1.1, ?_⟩
      rw [r9, g12]
      exact ⟨(w.gp hg).1, fun _ => ⟨fun _ => nx, fun _ => fnd⟩, fun q => absurd (Or.inl (Int.le_refl _)) q⟩
    | succ t ih2 =>
      intro v s hv' hs
      refine k_MM_stateOf_14 hO (i32s (by omega) (by omega)) (i32s (by omega) (by omega)) (i32s (by omega) (by omega)) ⟨w.1.1, ?_⟩
      rw [r9, g12, r31, r44]
      refine ⟨(w.gp hg).1, fun _ => ⟨fun _ => nx, fun _ => fnd⟩, fun _ => ⟨A5.1, by rw [A5.2]; omega, A8.1, by rw [A8.2]; omega, fun u hu => ?_⟩⟩
      rw [show (v : Int) + 1 = ((v + 1 : Nat) : Int) by omega]
      exact ih2 (v + 1) u (by omega) (by split at hu <;> omega)
end SET
