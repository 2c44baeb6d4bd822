/-! The reference: varItem. -/
section VI4
variable {G : mG} {d a g R W C Z T T2 N K : Nat} {M M2 : mM} {E : Nat → Nat} {tg : Int}
theorem Lc.ub {i j : Nat} {s : Int} {Q : Int → mM → Prop} (h : Lc M a g N T K) (hij : i ≤ j) (hb : Bl (wk M a) i (j - i)) (hj : j < N) (h1 : wk M a j = s) (hs : s = 16 ∨ s = 17 ∨ s = 33) (hQ : Q j M) : Ci G y_MM_until (d + 2) [vr a, vi i, vi s] M Q := by
  refine (s_until_bl (d := d) h.1 h.2.1.1 hij hb hj h1 hs).mono (fun x M1 e1 => ?_)
  obtain ⟨e1, hx⟩ := e1
  subst e1
  rw [hx]
  exact hQ
theorem Lc.io {p i e : Nat} {Q : Int → mM → Prop} (h : Lc M a g N T K) (h1 : p ≤ i) (h2 : i ≤ e) (he : e < N) (hn : ∀ m, p ≤ m → m < i → wk M a m ≠ 9) (hi : i = e ∨ wk M a i = 9) (hQ : Q i M) : Ci G y_MM_initOf (d + 2) [vr a, vi p, vi e] M Q := by
  refine (s_MM_initOf (d := d) h h1 h2 he hn hi).mono (fun x M1 e1 => ?_)
  obtain ⟨e1, hx⟩ := e1
  subst e1
  rw [hx]
  exact hQ
theorem vI.g6 {bl : Int} (v : vI M a g N T K R W C Z bl T2 M2) (h : Df M a g N T K R W C Z E tg) : mI M2 g 6 = R := by rw [v.2.2.1]; exact h.2.1.1
theorem s_vi185 {k e i j lo hi : Nat} {l6 : Int} (h : Df M a g N T K R W C Z E tg) (hW : W < 12) (hk : k + 3 < N) (hie : i ≤ e) (heN : e < N) (hj : j + 1 < N) (hki : k ≤ i) (hZ : Z ≤ k) (v2 : vI M a g N T K R W C Z 0 T2 M2) (hT2 : T2 ≤ i) (c6 : l6 = 0 ∨ l6 = 1) (z16 : mI M2 a 16 = 0) (cl : Cte M2 g R W T2 lo 0) (ch : Cte M2 g R W T2 hi 0) (h9 : l6 ≠ 0 → Eo (wk M a) 6 (i + 1) e) : h_MM_varItem_185 G (d + 7) a k e W 0 i l6 lo j hi M2 (fun M' => mOk M' ∧ itQ M a g N (e + 1) M') := by
  have hN := h.1.2.1.1.2.2
  have hg := h.1.2.2.2.2.2.1
  have hR := h.2.2.2.2.1.1
  have L2 := v2.1
  have w2 := L2.2.1.1.1
  have iz : i32 (0 : Int) := ⟨by decide, by decide⟩
  have im : i32 (-1 : Int) := ⟨by decide, by decide⟩
  have ik : i32 (k : Int) := i32s (by omega) (by omega)
  have iW : i32 (W : Int) := i32s (by omega) (by omega)
  have ii : i32 (i : Int) := i32s (by omega) (by omega)
  have ij : i32 (j : Int) := i32s (by omega) (by omega)
  have ie : i32 (e : Int) := i32s (by omega) (by omega)
  have i6 : i32 l6 := i32s (by omega) (by omega)
  have ilo : i32 (lo : Int) := by
    obtain ⟨f, e', t, t'⟩ := cl
    have := t.tn.lt
    exact i32s (by omega) (by omega)
  have ihi : i32 (hi : Int) := by
    obtain ⟨f, e', t, t'⟩ := ch
    have := t.tn.lt
    exact i32s (by omega) (by omega)
  have hiN : i < N := by omega
  refine k_MM_varItem_185 L2.1 ik ie iW iz ii i6 ilo ij ihi ⟨fun _ => w2.1.1, fun q => ?_, fun q => ⟨w2.1.1, ?_⟩⟩
  · have z6 : l6 = 0 := q.elim (fun z => z) (fun z => absurd z16 z)
    exact s_vi215n h hW hk hiN (fun z => absurd z6 z) hj v2 (by omega) (by omega) (by omega) i6 im z16 cl ch (fun z => absurd z6 z)
  · have n6 : l6 ≠ 0 := fun z => q (Or.inl z)
    have eo := h9 n6
    have hlt := eo.pr.1
    have wkE := v2.2.1.wk hg
    rw [show (i : Int) + 1 = ((i + 1 : Nat) : Int) by omega]
    refine (s_MM_rule1 (d := d) (co := 1) (tr := 0) ⟨by decide, by decide⟩ (Or.inl rfl) L2 (by omega) (by rw [wkE]; exact eo) heN).mono (fun x M3 q3 => ?_)
    obtain ⟨ex, T3, t1, t2, Rl⟩ := q3
    subst ex
    have L3 := Rl.2.1
    refine ⟨i32s (by omega) (by omega), L3.1, ?_⟩
    by_cases z3 : mI M3 a 16 = 0
    · have v3 := v2.rl (Nat.le_of_lt t1) Rl z3
      have G3 := (rlR.ge (R := R) (W := W) (C := C) (Z := Z) L2 Rl).2.1 z3
      have hT := Nat.le_of_lt t1
      exact s_vi215n h hW hk hiN (fun _ => by omega) hj v3 (by omega) (by omega) (by omega) i6 (i32s (by omega) (by omega)) z3 ((cl.gn G3.1 hR).up hT) ((ch.gn G3.1 hR).up hT) (fun _ => ⟨T2, rfl, rl_cte L2 (v2.g6 h) hR Rl z3⟩)
    · exact s_vi215x L3 (v2.2.1.trans (rlR.ge (R := R) (W := W) (C := C) (Z := Z) L2 Rl).1) z3 ik iW iz ii i6 ilo ihi ij (i32s (by omega) (by omega))
theorem s_vi91 {k e i : Nat} {bl : Int} (h : Df M a g N T K R W C Z E tg) (h16 : mI M a 16 = 0) (hW : W < 12) (heN : e < N) (hT : T ≤ k) (hZ : Z ≤ k) (hb : (bl = 1 ∧ i = k + 4) ∨ (bl = 0 ∧ ∃ j, Eo (wk M a) 6 (k + 3) j ∧ wk M a j = 16 ∧ Eo (wk M a) 6 (j + 1) i)) (hi : (wk M a i ≠ 9 ∧ i = e) ∨ (wk M a i = 9 ∧ Eo (wk M a) 6 (i + 1) e)) : h_MM_varItem_91 G (d + 7) a k e W bl i M (fun M' => mOk M' ∧ itQ M a g N (e + 1) M') := by
  have hN := h.1.2.1.1.2.2
  have hg := h.1.2.2.2.2.2.1
  have hR := h.2.2.2.2.1.1
  have hL := h.1
  have w := hL.2.1.1.1
  have hie : i ≤ e := by
    rcases hi with ⟨-, z⟩ | ⟨-, z⟩
    · omega
    · have := z.pr.1; omega
  have hki : k + 4 ≤ i := by
    rcases hb with ⟨-, z⟩ | ⟨-, j, z1, -, z2⟩
    · omega
    · have := z1.pr.1; have := z2.pr.1; omega
  have h9 : wk M a i = 9 → Eo (wk M a) 6 (i + 1) e := fun z => by
    rcases hi with ⟨y, -⟩ | ⟨-, y⟩
    · exact absurd z y
    · exact y
  have bl01 : bl = 0 ∨ bl = 1 := by
    rcases hb with ⟨z, -⟩ | ⟨z, -⟩
    · exact Or.inr z
    · exact Or.inl z
  have iz : i32 (0 : Int) := ⟨by decide, by decide⟩
  have im : i32 (-1 : Int) := ⟨by decide, by decide⟩
  have ik : i32 (k : Int) := i32s (by omega) (by omega)
  have iW : i32 (W : Int) := i32s (by omega) (by omega)
  have ii : i32 (i : Int) := i32s (by omega) (by omega)
  have ie : i32 (e : Int) := i32s (by omega) (by omega)
  have ib : i32 bl := by rcases bl01 with z | z <;> rw [z] <;> exact ⟨by decide, by decide⟩
  have W12 : ((0 : Int) ≤ W ∧ (W : Int) < ((12 : Nat) : Int)) := by omega
  have hiN : i < N := by omega
  have hkN : k + 3 < N := by omega
  have hZe : Z ≤ e + 1 := by omega
  clear hi
  refine k_MM_varItem_91 hL.1 ik ie iW ib ii ⟨w.1.1, hL.wd (d := d + 6) hiN (fun x hx ix => ⟨ix, hL.1, fun v hv => ⟨w.1.1, ?_⟩⟩)⟩
  rw [show mR M a 10 = g from hL.2.2.2.2.1, show mR M g 13 = g + 18 from (w.gp hg).2.2.1.1, Int.toNat_natCast]
  refine ⟨(w.gp hg).1, (w.gp hg).2.2.2.2.1.1.1, by rw [(w.gp hg).2.2.2.2.1.1.2]; exact W12, bl01, fun M2 e2 => ?_⟩
  obtain ⟨v2, a2⟩ := vI.new h bl01 e2
  have L2 := v2.1
  have w2 := L2.2.1.1.1
  have wkE := v2.2.1.wk hg
  have z2 : mI M2 a 16 = 0 := by rw [a2]; exact h16
  have v01 : v = 0 ∨ v = 1 := by split at hv <;> omega
  have v9 : v ≠ 0 → Eo (wk M a) 6 (i + 1) e := fun z => h9 (by
    split at hv
    · rename_i y; exact hx.symm.trans y
    · exact absurd hv z)
  have i6 : i32 v := by rcases v01 with z | z <;> rw [z] <;> exact ⟨by decide, by decide⟩
  clear hv hx h9 e2
  rcases hb with ⟨z, -⟩ | ⟨z, j, j1, j2, j3⟩
  · subst z
    refine ⟨fun y => absurd y (by decide), fun _ => ⟨fun q => ?_, fun q => ?_⟩⟩
    · have z6 : v = 0 := q.elim (fun z => z) (fun z => absurd z2 z)
      exact s_vi215b h hW hkN hiN (fun z => absurd z6 z) v2 (by omega) hZe (by omega) i6 im z2 (fun z => absurd z6 z)
    · have n6 : v ≠ 0 := fun z => q (Or.inl z)
      have eo := v9 n6
      have hlt := eo.pr.1
      rw [show (i : Int) + 1 = ((i + 1 : Nat) : Int) by omega]
      refine (s_MM_rule1 (d := d) (co := 1) (tr := 1) ⟨by decide, by decide⟩ (Or.inr rfl) L2 (by omega) (by rw [wkE]; exact eo) heN).mono (fun x M3 q3 => ?_)
      obtain ⟨ex, T3, t1, t2, Rl⟩ := q3
      subst ex
      have L3 := Rl.2.1
      refine ⟨i32s (by omega) (by omega), L3.1, ?_⟩
      by_cases z3 : mI M3 a 16 = 0
      · have v3 := v2.rl (Nat.le_of_lt t1) Rl z3
        exact s_vi215b h hW hkN hiN (fun _ => by omega) v3 (by omega) hZe (by omega) i6 (i32s (by omega) (by omega)) z3 (fun _ => ⟨T, rfl, rl_cte L2 (v2.g6 h) hR Rl z3⟩)
      · exact s_vi215x L3 (v2.2.1.trans (rlR.ge (R := R) (W := W) (C := C) (Z := Z) L2 Rl).1) z3 ik iW ⟨by decide, by decide⟩ ii i6 im im (i32s (by omega) (by omega)) (i32s (by omega) (by omega))
  · subst z
    have p1 := j1.pr.1
    have p3 := j3.pr.1
    have hjN : j < N := by omega
    refine ⟨fun _ => ?_, fun y => absurd rfl y⟩
    rw [show (k : Int) + 3 = ((k + 3 : Nat) : Int) by omega]
    refine L2.ub (d := d + 5) (by omega) (by rw [wkE]; exact j1.pr.2.2.2.2.1) hjN (by rw [wkE]; exact j2) (Or.inl rfl) ⟨i32s (by omega) (by omega), L2.1, w2.1.1, ?_⟩
    refine (s_MM_rule1 (d := d) (co := 1) (tr := 0) ⟨by decide, by decide⟩ (Or.inl rfl) L2 (by omega) (by rw [wkE]; exact j1) hjN).mono (fun x M3 q3 => ?_)
    obtain ⟨ex, T3, t1, t2, Rl⟩ := q3
    subst ex
    have L3 := Rl.2.1
    have w3 := L3.2.1.1.1
    have I3 := v2.2.1.trans (rlR.ge (R := R) (W := W) (C := C) (Z := Z) L2 Rl).1
    have iT : i32 (T : Int) := i32s (by omega) (by omega)
    have ij : i32 (j : Int) := i32s (by omega) (by omega)
    refine ⟨iT, L3.1, w3.1.1, fun z3 => ?_, fun z3 => s_vi185x L3 I3 z3 ik ie iW iz ii i6 iT ij im⟩
    have v3 := v2.rl (Nat.le_of_lt t1) Rl z3
    have cl := rl_cte (W := W) L2 (v2.g6 h) hR Rl z3
    have wkE3 := v3.2.1.wk hg
    rw [show (j : Int) + 1 = ((j + 1 : Nat) : Int) by omega]
    refine (s_MM_rule1 (d := d) (co := 1) (tr := 0) ⟨by decide, by decide⟩ (Or.inl rfl) L3 (by omega) (by rw [wkE3]; exact j3) hiN).mono (fun x M4 q4 => ?_)
    obtain ⟨ex, T4, u1, u2, Rm⟩ := q4
    subst ex
    have L4 := Rm.2.1
    have iT3 : i32 (T3 : Int) := i32s (by omega) (by omega)
    refine ⟨iT3, L4.1, ?_⟩
    by_cases z4 : mI M4 a 16 = 0
    · have v4 := v3.rl (Nat.le_of_lt u1) Rm z4
      have G4 := (rlR.ge (R := R) (W := W) (C := C) (Z := Z) L3 Rm).2.1 z4
      exact s_vi185 h hW hkN hie heN (by omega) (by omega) hZ v4 (by omega) v01 z4 ((cl.gn G4.1 hR).up (Nat.le_of_lt u1)) (rl_cte L3 (v3.g6 h) hR Rm z4) v9
    · exact s_vi185x L4 (I3.trans (rlR.ge (R := R) (W := W) (C := C) (Z := Z) L3 Rm).1) z4 ik ie iW iz ii i6 iT ij iT3
theorem s_MM_varItem {k e i : Nat} (h : Df M a g N T K R W C Z E tg) (h16 : mI M a 16 = 0) (heN : e < N) (hT : T ≤ k) (hZ : Z ≤ k) (hv : Vs (wk M a) (k + 3) i) (hi : (wk M a i ≠ 9 ∧ i = e) ∨ (wk M a i = 9 ∧ Eo (wk M a) 6 (i + 1) e)) : Cv G y_MM_varItem (d + 8) [vr a, vi k, vi e] M (fun M' => mOk M' ∧ itQ M a g N (e + 1) M') := by
  have hN := h.1.2.1.1.2.2
  have hg := h.1.2.2.2.2.2.1
  have hBd := h.2.2.2.2.1
  have hL := h.1
  have w := hL.2.1.1.1
  have g12 := h.2.1.2.1
  have hie : i ≤ e := by
    rcases hi with ⟨-, z⟩ | ⟨-, z⟩
    · omega
    · have := z.pr.1; omega
  have hki : k + 4 ≤ i := by
    rcases hv with ⟨-, z⟩ | ⟨-, j, z1, -, z2⟩
    · omega
    · have := z1.pr.1; have := z2.pr.1; omega
  have hlast : i = e ∨ wk M a i = 9 := hi.elim (fun z => Or.inl z.2) (fun z => Or.inr z.1)
  have n9 : wk M a (k + 3) ≠ 5 → ∀ m, k + 3 ≤ m → m < i → wk M a m ≠ 9 := fun z m m1 m2 => by
    rcases hv with ⟨y, -⟩ | ⟨-, j, z1, z2, z3⟩
    · exact absurd y z
    · by_cases q : m < j
      · have := rwd_all z1 m1 q; unfold rwd at this; omega
      · by_cases q2 : m = j
        · rw [q2, z2]; decide
        · have := rwd_all z3 (show j + 1 ≤ m by omega) m2; unfold rwd at this; omega
  have iW : i32 (W : Int) := i32s (by omega) (by omega)
  refine k_MM_varItem hL.1 (i32s (by omega) (by omega)) (i32s (by omega) (by omega)) ⟨w.1.1, ?_⟩
  rw [show mR M a 10 = g from hL.2.2.2.2.1, g12, show (k : Int) + 1 = ((k + 1 : Nat) : Int) by omega]
  refine ⟨(w.gp hg).1, fun q => s_st_it (d := d + 6) (c := 5) (by decide) ⟨by decide, by decide⟩ hL (by omega), fun q => ?_⟩
  have hW : W < 12 := by omega
  have hK : K ≤ 200 := hL.2.2.1.2.2.2.1
  refine hL.fd (d := d + 4) (by omega) (fun r r0 r1 => ⟨i32s (by omega) (by omega), hL.1, fun q2 => ⟨w.1.1, ?_⟩, fun q2 => ⟨w.1.1, s_st_it (d := d + 6) (c := 2) (by decide) ⟨by decide, by decide⟩ hL (by omega)⟩⟩)
  rw [show mR M a 10 = g from hL.2.2.2.2.1, g12, show (k : Int) + 3 = ((k + 3 : Nat) : Int) by omega]
  refine ⟨(w.gp hg).1, hL.wd (d := d + 6) (by omega) (fun x hx ix => ⟨ix, hL.1, fun v hv' => ⟨fun z => ⟨w.1.1, ?_⟩, fun z => ?_⟩⟩)⟩
  · have x5 : wk M a (k + 3) ≠ 5 := fun y => by
      rw [if_pos (hx.trans y)] at hv'
      omega
    subst z
    refine hL.io (d := d + 5) (by omega) hie heN (n9 x5) hlast ⟨i32s (by omega) (by omega), hL.1, s_vi91 h h16 hW heN hT hZ (Or.inr ⟨rfl, ?_⟩) hi⟩
    rcases hv with ⟨y, -⟩ | ⟨-, y⟩
    · exact absurd y x5
    · exact y
  · have x5 : wk M a (k + 3) = 5 := by
      split at hv'
      · rename_i y; exact hx.symm.trans y
      · exact absurd hv' z
    have i4 : i = k + 4 := by
      rcases hv with ⟨-, y⟩ | ⟨y, -⟩
      · omega
      · exact absurd x5 y
    have v1 : v = 1 := by rw [if_pos (hx.trans x5)] at hv'; exact hv'
    subst v1
    rw [show (k : Int) + 4 = (i : Int) by omega]
    exact s_vi91 h h16 hW heN hT hZ (Or.inl ⟨rfl, i4⟩) hi
end VI4
