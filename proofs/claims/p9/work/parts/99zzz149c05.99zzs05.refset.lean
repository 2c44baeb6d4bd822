/-! The reference: a variable's next value, and a state is found or made, exactly. -/
section SEX
variable {G : mG} {d a g T R W C Z n k : Nat} {M M' M2 : mM} {E : Eg9} {tg : Int} {ww pl : Nat → Int} {XV : List Int → Int → vrs} {ev : List Int → Nat → Nat → vrs} {sg : List Int}
/-- what setting comes to: v the rule's value, f the fault of the range -/
def seY9 (v : vrs) (f : Int × Int) (q : Nat) (xv : Int → vrs) (a g R W : Nat) (M M' : mM) : Prop := fvq M' a v ∨ (v.1 = 0 ∧ f.1 ≠ 0 ∧ mI M' a 16 = f.1 ∧ mI M' a 17 = f.2) ∨ (v.1 = 0 ∧ f = (0, 0) ∧ mI M' a 16 = 0 ∧ (∀ v', mI M' (a + 21188) v' = if v' = q then v.2.1 else mI M (a + 21188) v') ∧ XVq M' a g R W xv)
theorem x_MM_set1 {v i9 j9 : Nat} {root pc lv hv9 : Int} (h : GG M a g T R W C Z E tg) (hn : En M a g R W) (hx : Nxv M a g W) (hv : v < W) (hf : ∀ sg, FmX ww pl (XV sg) M g R E.1) (xv : XVq M a g R W (XV sg)) (z0 : mI M a 16 = 0) (elo : mI M (g + 19) v = lv) (ehi : mI M (g + 20) v = hv9) (hr : Rtq ww pl XV ev M g R W T E root (tn M g (100 + (v : Int))) i9 j9) (ipl : i32 pc) : Cv G y_MM_set1 (d + 6) [vr a, vi v, vi root, vi pc] M (fun M' => mOk M' ∧ seQ M a g T R W C Z E tg M' ∧ seY9 (ev sg i9 j9) (stfq (ev sg i9 j9).2.1 (ev sg i9 j9).2.2 lv hv9 pc) v (XV sg) a g R W M M') := by
  have w := h.2.1
  have hg := h.2.2.1.2
  have hD := h.2.2.2.2.2.2.2.1
  have hBd := hD.1
  obtain ⟨v1, v2, v3, v4, v5, v6⟩ := hD.2.2.2.1 v hv
  have e1 : tn M g (100 + (v : Int)) = mI M (g + 18) v := by
    unfold tn
    rw [if_pos (show (100 : Int) ≤ 100 + (v : Int) by omega), show (100 + (v : Int) - 100).toNat = v by omega]
    rcases v6 with y | y <;> rw [y] <;> rfl
  have ir : i32 root := by
    obtain ⟨n', b, f, e, nv, ⟨r1, r2, r3, r4, r5⟩, -⟩ := hr
    have := r4.tn.lt
    have := h.2.2.2.2.1
    rw [r1]
    exact i32s (by omega) (by omega)
  have b12 : ((0 : Int) ≤ (v : Int) ∧ (v : Int) < ((12 : Nat) : Int)) := by omega
  have toS : ∀ {Mx : mM}, Mv (fun x => x = a + 99) (woS a) M a Mx → Mv (fun x => x = a + 99) (sxS a) M a Mx := fun m => m.mono (fun q hq => hq) (fun x z => Or.inl z) (lt99 w)
  refine k_MM_set1 h.1 (i32s (by omega) (by omega)) ir ipl ⟨w.1.1, (x_MM_reach (d := d) h hn hf xv hr z0).mono (fun M2 t2 => ?_)⟩
  obtain ⟨o2, ⟨x2, gg2, en2, v2'⟩, u2⟩ := t2
  have w2 := gg2.2.1
  have gs2 := (x2.xe w).gs w hg
  have c88 : mI M2 (a + 21188) = mI M (a + 21188) := (x2.1.cellL w in99 (offx (a := a) (o := 21188) (by decide)) (fun z => by
    have z' : a + 21188 = a ∨ a + 21188 = a + 97 ∨ a + 21188 = a + 98 ∨ a + 21188 = a + 102 ∨ a + 21188 = a + 103 ∨ a + 21188 = a + 104 := z
    omega)).1
  have nx2 : Nxv M2 a g W := fun v' hv' => by
    rw [(gs2.2.1 19 (by omega) (by omega)).1, (gs2.2.1 20 (by omega) (by omega)).1, c88]
    exact hx v' hv'
  refine ⟨o2, w2.1.1, fun z16 => ?_, fun z16 => ⟨o2, ⟨toS x2.1, x2.2, gg2, en2, fun z => absurd z z16⟩, Or.inl (u2.elim id (fun u => absurd u.1 z16))⟩⟩
  have vk : vok (mI M (g + 18) v) (mL M2 (a + 97) 0) (mL M2 (a + 98) 0) := by
    rcases v2' with y | ⟨-, y⟩
    · exact absurd z16 y
    · rw [e1] at y; exact y
  obtain ⟨u3, u4⟩ : ev sg i9 j9 = vr9 (mI M (g + 18) v) (mL M2 (a + 97) 0) (mL M2 (a + 98) 0) ∧ XVq M2 a g R W (XV sg) := by
    rcases u2 with u | ⟨-, u, y⟩
    · exact absurd (u.2.1.symm.trans z16) u.1
    · rw [e1] at u
      exact ⟨u, y⟩
  have f1 : (ev sg i9 j9).1 = 0 := by rw [u3]; rfl
  have f2 : (ev sg i9 j9).2.1 = mL M2 (a + 97) 0 := by rw [u3]; rfl
  have f3 : (ev sg i9 j9).2.2 = if mI M (g + 18) v = 1 then 1 else mL M2 (a + 98) 0 := by rw [u3]; rfl
  have B2 : mR M2 a 21 = a + 97 ∧ mR M2 a 22 = a + 98 ∧ mR M2 a 44 = a + 21188 := ⟨w2.1.2.2.2.2.1.2.2.2.2.2.2.1, w2.1.2.2.2.2.1.2.2.2.2.2.2.2.1, w2.1.2.2.2.2.2.2.1.2.2.2.1⟩
  have A2 : (mK M2 (a + 97) = 33 ∧ mN M2 (a + 97) = 16400) ∧ (mK M2 (a + 98) = 33 ∧ mN M2 (a + 98) = 16400) ∧ (mK M2 (a + 21188) = 30 ∧ mN M2 (a + 21188) = 12) := ⟨w2.1.2.2.2.2.2.2.2.1.1, w2.1.2.2.2.2.2.2.2.1.2.1, w2.1.2.2.2.2.2.2.2.2.2.1.2.2.2.1⟩
  rw [gg2.2.2.1.1, show mR M2 g 13 = g + 18 from (w2.gp hg).2.2.1.1, show mR M2 g 14 = g + 19 from (w2.gp hg).2.2.1.2.1, show mR M2 g 15 = g + 20 from (w2.gp hg).2.2.1.2.2.1, B2.1, B2.2.1, B2.2.2, Int.toNat_natCast, (gs2.2.1 18 (by omega) (by omega)).1, (gs2.2.1 19 (by omega) (by omega)).1, (gs2.2.1 20 (by omega) (by omega)).1]
  have stp : ∀ c : Int, c ≠ 0 → i32 c → stfq (ev sg i9 j9).2.1 (ev sg i9 j9).2.2 lv hv9 pc = (c, pc) → Cv G y_MM_stop (d + 5) [vr a, vi c, vi pc] M2 (fun M3 => mOk M3 ∧ (mOk M3 ∧ seQ M a g T R W C Z E tg M3 ∧ seY9 (ev sg i9 j9) (stfq (ev sg i9 j9).2.1 (ev sg i9 j9).2.2 lv hv9 pc) v (XV sg) a g R W M M3)) := fun c hc ic ef => by
    refine (s_MM_stop ic ipl o2 w2).mono (fun M3 h3 => ?_)
    have X : xg M a g T R W C Z E tg M2 := ⟨x2.xe w, gg2, en2⟩
    have X3 := X.stp h3
    refine ⟨h3.1.1, h3.1.1, ⟨(toS x2.1).trans (h3.1.mono (fun _ z => z.elim) (fun x z => Or.inl (Or.inl z)) (lt99 w2)), fun i i1 i2 i3 => (h3.2.2.2 i i1 i2).trans (x2.2 i i1 i2 i3), X3.2.1, X3.2.2, fun z => ?_⟩, Or.inr (Or.inl ⟨f1, by rw [ef]; exact hc, by rw [ef]; exact h3.2.1, by rw [ef]; exact h3.2.2.1⟩)⟩
    rw [h3.2.1] at z
    exact absurd z hc
  have hq1 : (¬ mI M (g + 18) v = 0 ∨ cmpL (mL M2 (a + 98) 0) 1 = 0) → (if mI M (g + 18) v = 1 then (1 : Int) else mL M2 (a + 98) 0) = 1 := fun q => by
    rcases q with q | q
    · rw [if_pos (by omega)]
    · have := (cmpz _ _).2.2.2.1.1 q
      split <;> omega
  have hq8 : ¬ (¬ mI M (g + 18) v = 0 ∨ cmpL (mL M2 (a + 98) 0) 1 = 0) → (if mI M (g + 18) v = 1 then (1 : Int) else mL M2 (a + 98) 0) ≠ 1 := fun q u => by
    have q1 : mI M (g + 18) v = 0 := Classical.byContradiction (fun z => q (Or.inl z))
    rw [if_neg (by omega)] at u
    exact q (Or.inr ((cmpz _ _).2.2.2.1.2 u))
  refine ⟨(w2.gp hg).1, (w2.gp hg).2.2.2.2.1.1.1, by rw [(w2.gp hg).2.2.2.2.1.1.2]; exact b12, fun _ => ⟨A2.2.1.1, by rw [A2.2.1.2]; decide⟩, fun q => ⟨A2.1.1, by rw [A2.1.2]; decide, (w2.gp hg).2.2.2.2.1.2.1.1, by rw [(w2.gp hg).2.2.2.2.1.2.1.2]; exact b12, fun _ => ⟨by rw [A2.1.2]; decide, (w2.gp hg).2.2.2.2.1.2.2.1.1, by rw [(w2.gp hg).2.2.2.2.1.2.2.1.2]; exact b12⟩, fun q2 => stp 12 (by decide) ⟨by decide, by decide⟩ (by
      have c1 := (cmpz (mL M2 (a + 97) 0) (mI M (g + 19) v)).2.2.1
      have c2 := (cmpz (mL M2 (a + 97) 0) (mI M (g + 20) v)).2.1
      rw [c1, c2] at q2
      unfold stfq
      rw [f3, f2, if_neg (fun u => u (hq1 q)), if_pos (by omega)]), fun q2 => ?_⟩, fun q => stp 8 (by decide) ⟨by decide, by decide⟩ (by unfold stfq; rw [f3, if_pos (hq8 q)])⟩
  have c1 := (cmpz (mL M2 (a + 97) 0) (mI M (g + 19) v)).2.2.1
  have c2 := (cmpz (mL M2 (a + 97) 0) (mI M (g + 20) v)).2.1
  rw [c1, c2] at q2
  have rng : mI M (g + 19) v ≤ mL M2 (a + 97) 0 ∧ mL M2 (a + 97) 0 ≤ mI M (g + 20) v := by omega
  have i97 : i32 (mL M2 (a + 97) 0) := ⟨by omega, by omega⟩
  refine ⟨by rw [A2.1.2]; decide, A2.2.2.1, by rw [A2.2.2.2]; exact b12, i97, fun M3 e3 => ?_⟩
  obtain ⟨m3, g3, l3⟩ := mv_cell i97 o2 w2 (show a ≤ a + 21188 by omega) (offx (a := a) (o := 21188) (by decide)) e3
  have no : ∀ q : Nat, False → q ∈ nums a := fun _ z => z.elim
  have aI := (m3.fld w2 no (by omega)).1
  have X : xg M a g T R W C Z E tg M2 := ⟨x2.xe w, gg2, en2⟩
  have X3 := X.st m3 (fun _ z => z.elim) (fun x z => Or.inr (Or.inr (by omega))) (fun i _ _ _ => by rw [aI])
  have gs3 := gs_st w2 hg m3 no (fun _ z => z.elim) (fun x z => by omega)
  refine ⟨m3.1, ⟨(toS x2.1).trans (m3.mono (fun _ z => z.elim) (fun x z => Or.inr z) (lt99 w2)), fun i i1 i2 i3 => by rw [aI]; exact x2.2 i i1 i2 i3, X3.2.1, X3.2.2, fun _ v' hv' => ?_⟩, Or.inr (Or.inr ⟨f1, ?_, by rw [aI]; exact z16, fun v' => ?_, u4.mv w2 m3 no gs3 (fun x z => by omega)⟩)⟩
  rotate_left
  · unfold stfq
    rw [f3, f2, if_neg (fun u => u (hq1 q)), if_neg (by omega)]
  · rw [g3, f2, c88]
    by_cases y : v' = v
    · rw [if_pos ⟨rfl, y⟩, if_pos y]
    · rw [if_neg (fun z => y z.2), if_neg y]
  rw [(gs3.2.1 19 (by omega) (by omega)).1, (gs3.2.1 20 (by omega) (by omega)).1, g3]
  by_cases y : v' = v
  · rw [if_pos ⟨rfl, y⟩, y, (gs2.2.1 19 (by omega) (by omega)).1, (gs2.2.1 20 (by omega) (by omega)).1]
    exact rng
  · rw [if_neg (fun z => y z.2)]
    exact nx2 v' hv'
/-- the states -/
def SmR (M : mM) (a W n : Nat) : List (List Int) := (List.range n).map (lsR M a W)
/-- the next state -/
def nxR (M : mM) (a W : Nat) : List Int := (List.range W).map (fun v => mI M (a + 21188) v)
theorem SmR_len : (SmR M a W n).length = n := by
  unfold SmR
  rw [List.length_map, List.length_range]
theorem SmR_get (h : k < n) : (SmR M a W n)[k]? = some (lsR M a W k) := by
  unfold SmR
  rw [List.getElem?_map, List.getElem?_range h]
  rfl
theorem SmR_s : SmR M a W (n + 1) = SmR M a W n ++ [lsR M a W n] := by
  unfold SmR
  rw [List.range_succ, List.map_append]
  rfl
theorem SmR_cg (hW : W ≤ 12) (h : ∀ j, j < 12 * n → mI M' (a + 105) j = mI M (a + 105) j) : SmR M' a W n = SmR M a W n := by
  unfold SmR
  refine List.map_congr_left (fun k hk => ?_)
  unfold lsR
  exact List.map_congr_left (fun v hv => h _ (by have := List.mem_range.mp hk; have := List.mem_range.mp hv; omega))
theorem enR_k {x : List Int} (hk : k < n) (hnf : ∀ j, j < k → lsR M a W j ≠ x) (hq : lsR M a W k = x) : enq9 (SmR M a W n) x = some (k, SmR M a W n) := by
  have f : (SmR M a W n).findIdx? (fun y => y == x) = some k := by
    rw [List.findIdx?_eq_some_iff_getElem]
    have gt : ∀ (j : Nat) (h : j < (SmR M a W n).length), (SmR M a W n)[j] = lsR M a W j := fun j h => by
      have := SmR_get (M := M) (a := a) (W := W) (k := j) (n := n) (by rw [SmR_len] at h; exact h)
      rw [List.getElem?_eq_getElem h] at this
      exact Option.some.inj this
    refine ⟨by rw [SmR_len]; exact hk, ?_, fun j hj => ?_⟩
    · rw [gt k]
      exact beq_iff_eq.mpr hq
    · rw [gt j]
      intro u
      exact hnf j hj (beq_iff_eq.mp u)
  unfold enq9
  rw [f]
theorem enR_n {x : List Int} (h : ∀ k, k < n → lsR M a W k ≠ x) : enq9 (SmR M a W n) x = if n = 512 then none else some (n, SmR M a W n ++ [x]) := by
  have f : (SmR M a W n).findIdx? (fun y => y == x) = none := by
    rw [List.findIdx?_eq_none_iff]
    intro y hy
    unfold SmR at hy
    obtain ⟨k, hk, e⟩ := List.mem_map.mp hy
    rw [← e]
    exact beq_eq_false_iff_ne.mpr (h k (List.mem_range.mp hk))
  unfold enq9
  rw [f]
  show (if (SmR M a W n).length = 512 then none else some ((SmR M a W n).length, SmR M a W n ++ [x])) = _
  rw [SmR_len]
/-- what finding a state comes to -/
def soX (S : List (List Int)) (x : List Int) (r : Int) (a W : Nat) (M' : mM) : Prop := (enq9 S x = none ∧ r = -1) ∨ ∃ (k : Nat) (S' : List (List Int)), enq9 S x = some (k, S') ∧ r = (k : Int) ∧ mI M' a 29 = ((S'.length : Nat) : Int) ∧ SmR M' a W S'.length = S'
theorem x_MM_stateOf (h : GG M a g T R W C Z E tg) (hn : mI M a 29 = (n : Int)) (hn5 : n ≤ 512) (hv : Vx M a g n W) (hx : Nxv M a g W) : Ci G y_MM_stateOf d [vr a] M (fun x M' => i32 x ∧ mOk M' ∧ soQ M a g n W x M' ∧ soX (SmR M a W n) (nxR M a W) x a W M') := by
  have hO := h.1
  have w := h.2.1
  have hg := h.2.2.1.2
  have hBd := h.2.2.2.2.2.2.2.1.1
  have g12 := h.2.2.2.2.2.1.2.1
  have r9 := h.2.2.1.1
  have no : ∀ q : Nat, False → q ∈ nums a := fun _ z => z.elim
  have hW12 := hBd.2.1
  -- a new state is filled in
  have L3 : n < 512 → (∀ k, k < n → lsR M a W k ≠ nxR M a W) → ∀ (c v : Nat) (M2 : mM), v + c = W → Mv (fun _ => False) (fun y => y = a ∨ y = a + 105) M a M2 → mI M2 a = mI M a → mI M2 (a + 21188) = mI M (a + 21188) → (∀ j, (12 * n ≤ j → 12 * n + v ≤ j) → mI M2 (a + 105) j = mI M (a + 105) j) → (∀ v', v' < v → mI M2 (a + 105) (12 * n + v') = mI M (a + 21188) v') → h_MM_stateOf_87 G d a v M2 (fun x M' => i32 x ∧ mOk M' ∧ soQ M a g n W x M' ∧ soX (SmR M a W n) (nxR M a W) x a W M') := by
    intro hn' hnf c
    induction c with
    | zero =>
      intro v M2 hc m2 a2 x2 o2 f2
      have ev : v = W := by omega
      subst ev
      have w2 := m2.2.1
      have gs := gs_st w hg m2 no (fun _ z => z.elim) (fun x z => by omega)
      refine k_MM_stateOf_87 m2.1 (i32s (by omega) (by omega)) ⟨w2.1.1, ?_⟩
      rw [m2.rfl_a w no, r9, gs.1, g12, a2, hn]
      refine ⟨(w2.gp hg).1, fun _ => ⟨i32s (by omega) (by omega), fun M3 e3 => ?_⟩, fun q => absurd (Int.le_refl _) q⟩
      obtain ⟨m3, f3⟩ := mv_fld (v := (n : Int) + 1) (i32s (by omega) (by omega)) m2.1 w2 e3
      have mm := m2.trans (m3.mono (fun _ z => z.elim) (fun x z => Or.inl z) (fun _ z => z.elim))
      have gs3 := gs_st w hg mm no (fun _ z => z.elim) (fun x z => by omega)
      have c105 := m3.cell m2.2.1 no (by omega) (offx (a := a) (o := 105) (by decide)).2.1 (offx (a := a) (o := 105) (by decide)).2.2 (by omega)
      have e29 : mI M3 a 29 = (n : Int) + 1 := by rw [f3, if_pos rfl]
      rw [e29]
      refine ⟨i32s (by omega) (by omega), m3.1, Or.inr ⟨n + 1, Or.inr rfl, by omega, by omega, by omega, mm, by rw [e29]; omega, fun i hi => by rw [f3, if_neg hi, a2], fun k v' hk hv' => ?_⟩, Or.inr ⟨n, SmR M a v n ++ [nxR M a v], ?_, by omega, by rw [e29, List.length_append, SmR_len]; show (n : Int) + 1 = ((n + 1 : Nat) : Int); omega, ?_⟩⟩
      rotate_left
      · rw [enR_n hnf, if_neg (by omega)]
      · rw [List.length_append, SmR_len]
        show SmR M3 a v (n + 1) = _
        rw [SmR_s, SmR_cg (M := M) hW12 (fun j hj => by rw [c105]; exact o2 j (by omega))]
        congr 2
        unfold lsR nxR
        exact List.map_congr_left (fun v' hv' => by rw [c105]; exact f2 v' (List.mem_range.mp hv'))
      rw [(gs3.2.1 19 (by omega) (by omega)).1, (gs3.2.1 20 (by omega) (by omega)).1, c105]
      by_cases y : k = n
      · rw [y, f2 v' hv']
        exact hx v' hv'
      · rw [o2 _ (by omega)]
        exact hv k v' (by omega) hv'
    | succ c ih =>
      intro v M2 hc m2 a2 x2 o2 f2
      have w2 := m2.2.1
      have gs := gs_st w hg m2 no (fun _ z => z.elim) (fun x z => by omega)
      have A5 : mK M2 (a + 105) = 30 ∧ mN M2 (a + 105) = 6144 := w2.1.2.2.2.2.2.2.2.2.1.1
      have A8 : mK M2 (a + 21188) = 30 ∧ mN M2 (a + 21188) = 12 := w2.1.2.2.2.2.2.2.2.2.2.1.2.2.2.1
      have r31 : mR M2 a 31 = a + 105 := w2.1.2.2.2.2.2.1.1
      have r44 : mR M2 a 44 = a + 21188 := w2.1.2.2.2.2.2.2.1.2.2.2.1
      have e9 : mR M2 a 9 = g := by rw [m2.rfl_a w no]; exact r9
      refine k_MM_stateOf_87 m2.1 (i32s (by omega) (by omega)) ⟨w2.1.1, ?_⟩
      rw [e9, gs.1, g12, a2, hn, r31, r44, Int.toNat_natCast, show 12 * (n : Int) + (v : Int) = ((12 * n + v : Nat) : Int) by omega, Int.toNat_natCast, x2]
      refine ⟨(w2.gp hg).1, fun q => absurd q (by omega), fun _ => ⟨A8.1, by rw [A8.2]; omega, A5.1, by rw [A5.2]; omega, fun M3 e3 => ?_⟩⟩
      obtain ⟨m3, f3, l3⟩ := mv_cell (hO _ _).1 m2.1 w2 (show a ≤ a + 105 by omega) (offx (a := a) (o := 105) (by decide)) e3
      have nx := ih (v + 1) M3 (by omega) (m2.trans (m3.mono (fun _ z => z.elim) (fun x z => Or.inr z) (fun _ z => z.elim))) (by rw [(m3.fld w2 no (by omega)).1]; exact a2) (by rw [m3.cell w2 no (by omega) (offx (a := a) (o := 21188) (by decide)).2.1 (offx (a := a) (o := 21188) (by decide)).2.2 (by omega)]; exact x2) (fun j hj => by rw [f3, if_neg (fun z => by omega)]; exact o2 j (by omega)) (fun v' hv' => ?_)
      · rw [show ((v + 1 : Nat) : Int) = (v : Int) + 1 by omega] at nx
        exact nx
      · rw [f3]
        by_cases y : v' = v
        · rw [if_pos ⟨rfl, by omega⟩, y]
        · rw [if_neg (fun z => by omega)]
          exact f2 v' (by omega)
  have A5 : mK M (a + 105) = 30 ∧ mN M (a + 105) = 6144 := w.1.2.2.2.2.2.2.2.2.1.1
  have A8 : mK M (a + 21188) = 30 ∧ mN M (a + 21188) = 12 := w.1.2.2.2.2.2.2.2.2.2.1.2.2.2.1
  have r31 : mR M a 31 = a + 105 := w.1.2.2.2.2.2.1.1
  have r44 : mR M a 44 = a + 21188 := w.1.2.2.2.2.2.2.1.2.2.2.1
  refine k_MM_stateOf hO ?_
  suffices L1 : ∀ (c k : Nat), k + c = n → (∀ k', k' < k → lsR M a W k' ≠ nxR M a W) → h_MM_stateOf_2 G d a k M (fun x M' => i32 x ∧ mOk M' ∧ soQ M a g n W x M' ∧ soX (SmR M a W n) (nxR M a W) x a W M') from L1 n 0 (by omega) (fun k' hk' => absurd hk' (by omega))
  intro c
  induction c with
  | zero =>
    intro k hk hnf
    have ek : k = n := by omega
    subst ek
    refine k_MM_stateOf_2 hO (i32s (by omega) (by omega)) ⟨w.1.1, fun _ => ⟨fun q => ⟨⟨by decide, by decide⟩, hO, Or.inl ⟨rfl, rfl⟩, Or.inl ⟨?_, rfl⟩⟩, fun q => ?_⟩, fun q => absurd (by rw [hn]; exact Int.le_refl _) q⟩
    · rw [hn] at q
      rw [enR_n hnf, if_pos (by omega)]
    rw [hn] at q
    exact L3 (by omega) hnf W 0 M (by omega) (Mv.refl hO w (fun _ z => z.elim)) rfl rfl (fun j _ => rfl) (fun v' hv' => absurd hv' (by omega))
  | succ c ih =>
    intro k hk hnf
    have nx : lsR M a W k ≠ nxR M a W → h_MM_stateOf_2 G d a ((k : Int) + 1) M (fun x M' => i32 x ∧ mOk M' ∧ soQ M a g n W x M' ∧ soX (SmR M a W n) (nxR M a W) x a W M') := fun hne => by
      have nx := ih (k + 1) (by omega) (fun k' hk' => by
        by_cases y : k' = k
        · rw [y]; exact hne
        · exact hnf k' (by omega))
      rw [show ((k + 1 : Nat) : Int) = (k : Int) + 1 by omega] at nx
      exact nx
    refine k_MM_stateOf_2 hO (i32s (by omega) (by omega)) ⟨w.1.1, fun q => by rw [hn] at q; omega, fun _ => ?_⟩
    suffices L2 : ∀ (t v : Nat) (s : Int), v + t = W → ((s = 0 ∧ lsR M a W k ≠ nxR M a W) ∨ (s = 1 ∧ ∀ v', v' < v → mI M (a + 105) (12 * k + v') = mI M (a + 21188) v')) → h_MM_stateOf_14 G d a k s v M (fun x M' => i32 x ∧ mOk M' ∧ soQ M a g n W x M' ∧ soX (SmR M a W n) (nxR M a W) x a W M') from L2 W 0 1 (by omega) (Or.inr ⟨rfl, fun v' hv' => absurd hv' (by omega)⟩)
    have fnd : lsR M a W k = nxR M a W → i32 (k : Int) ∧ mOk M ∧ soQ M a g n W k M ∧ soX (SmR M a W n) (nxR M a W) k a W M := fun hq => ⟨i32s (by omega) (by omega), hO, Or.inr ⟨n, Or.inl rfl, hn5, by omega, by omega, Mv.refl hO w (fun _ z => z.elim), hn, fun _ _ => rfl, hv⟩, Or.inr ⟨k, SmR M a W n, enR_k (by omega) hnf hq, rfl, by rw [SmR_len]; exact hn, by rw [SmR_len]⟩⟩
    intro t
    induction t with
    | zero =>
      intro v s hv' hs
      have ev : v = W := by omega
      subst ev
      refine k_MM_stateOf_14 hO (i32s (by omega) (by omega)) (i32s (by omega) (by omega)) (i32s (by omega) (by omega)) ⟨w.1.1, ?_⟩
      rw [r9, g12]
      refine ⟨(w.gp hg).1, fun _ => ⟨fun q0 => nx ?_, fun q0 => fnd ?_⟩, fun q => absurd (Or.inl (Int.le_refl _)) q⟩
      · rcases hs with ⟨-, y⟩ | ⟨y, -⟩
        · exact y
        · omega
      · rcases hs with ⟨y, -⟩ | ⟨-, y⟩
        · omega
        · unfold lsR nxR
          exact List.map_congr_left (fun v' hv' => y v' (List.mem_range.mp hv'))
    | succ t ih2 =>
      intro v s hv' hs
      refine k_MM_stateOf_14 hO (i32s (by omega) (by omega)) (i32s (by omega) (by omega)) (i32s (by omega) (by omega)) ⟨w.1.1, ?_⟩
      rw [r9, g12, r31, r44]
      refine ⟨(w.gp hg).1, fun q => ⟨fun q0 => nx ?_, fun q0 => absurd q0 (by omega)⟩, fun q => ⟨A5.1, by rw [A5.2]; omega, A8.1, by rw [A8.2]; omega, fun u hu => ?_⟩⟩
      · rcases hs with ⟨-, y⟩ | ⟨y, -⟩
        · exact y
        · omega
      rw [show (v : Int) + 1 = ((v + 1 : Nat) : Int) by omega]
      refine ih2 (v + 1) u (by omega) ?_
      have s1 : s = 1 := by omega
      rcases hs with ⟨y, -⟩ | ⟨-, y⟩
      · omega
      rw [show 12 * (k : Int) + (v : Int) = ((12 * k + v : Nat) : Int) by omega, Int.toNat_natCast, Int.toNat_natCast] at hu
      by_cases e : mI M (a + 105) (12 * k + v) = mI M (a + 21188) v
      · refine Or.inr ⟨by rw [hu, if_pos e], fun v' hv' => ?_⟩
        by_cases e2 : v' = v
        · rw [e2]; exact e
        · exact y v' (by omega)
      · refine Or.inl ⟨by rw [hu, if_neg e], fun hq => e ?_⟩
        unfold lsR nxR at hq
        rw [List.map_inj_left] at hq
        exact hq v (List.mem_range.mpr (by omega))
end SEX
