/-! The class's game, exactly: discover, the whole. -/
section GBP
variable {G : mG} {d z g p O P K V F L cnt U Ab Be C n N : Nat} {M : mM} {ns : Nat → Int} {sf ef : Nat → Nat} {F1 : Nat} {ns1 : Nat → Int} {sf1 ef1 : Nat → Nat} {W pl nq : Nat → Int} {sm : Nat → Nat → Prop} {nms : List nm9} {tg : Nat × Nat} {cms : List cm9}
theorem x_Ga_discover (hF : FMx G) (hz : GZ M z g p O P K V F1 ns1 sf1 ef1 L cnt U Ab Be C) (cx : gcx M g p O P L V F Ab Be ns sf ef W pl nq sm N n nms) (px : PGx M p O P L V cnt W pl nq sm n ns ef nms tg cms) : Ci G y_Ga_discover (d + 7) [vr g, vr p] M (fun r M' => dcQ M z g p O P K V F1 ns1 sf1 ef1 L cnt Ab Be C (mI M (g + 10) 9) r M' ∧ dcX (xpl9 (evq W pl nq sm N nms) (stpq W pl nq sm N nms V (mI M (p + 3)) (mI M (p + 4))) tg cms ((List.range V).map (mI M (p + 5)))) g V r M') := by
  obtain ⟨h1, h2, h3, hU, h4, ⟨h61, h62, h63⟩, h7, h8⟩ := hz
  obtain ⟨o1, o2, -, o4⟩ := h4.1.2.2.2.1
  obtain ⟨a1, a2, a3, a4⟩ := h3.2.2.2.2.2.1
  have ne := ga_ne h61 h62 h63 o1 o2 o4 a1 a2
  have z1 := h3.2.2.2.2.2.2.1.1
  have zg : g < mZ M ∧ g + 10 < mZ M ∧ ∀ i, i ≤ 22 → g + i < mZ M := ⟨by omega, by omega, fun i hi => by omega⟩
  have pz : ∀ i, i ≤ 15 → p + i < mZ M := fun i hi => by omega
  have pg : ∀ i j, i ≤ 15 → j ≤ 22 → p + i ≠ g + j := fun i j hi hj => by omega
  refine k_Ga_discover h1 ⟨h2.1, (s_Ga_clear h1 h2.1).mono (fun M2 q => ?_)⟩
  obtain ⟨q1, q2, q3⟩ := q
  refine ⟨q1, by rw [q2.1]; exact h2.1, fun M6 e6 => ?_⟩
  have f6 : FA (fun _ => False) (fun x => x = g) M2 M6 := FA.ur rfl e6
  have r6 : ∀ y i, mR M6 y i = if y = g ∧ i = 14 then p else mR M y i := fun y i => by rw [e6, mR_UR, q2.2.2.1]
  have kn6 : ∀ y, mK M6 y = mK M y ∧ mN M6 y = mN M y ∧ mI M6 y = mI M2 y := fun y => by rw [e6]; exact ⟨by rw [mK_UR, q2.1], by rw [mN_UR, q2.2.1], by rw [mI_UR]⟩
  have r615 : mR M6 g 15 = g + 10 := by rw [r6, if_neg (fun t => absurd t.2 (by decide))]; exact h2.2.1.2.2.2.2.2.2.2.2.2.1
  rw [r615, r6 g 14, if_pos ⟨rfl, rfl⟩]
  refine ⟨by rw [(kn6 _).1]; exact h3.1, fun M9 e9 => ?_⟩
  have r9 : ∀ y i, mR M9 y i = if y = g + 10 ∧ i = 0 then p else if y = g ∧ i = 14 then p else mR M y i := fun y i => by rw [e9, mR_UR, r6]
  have kn9 : ∀ y, mK M9 y = mK M y ∧ mN M9 y = mN M y ∧ mI M9 y = mI M2 y := fun y => by rw [e9]; exact ⟨by rw [mK_UR, (kn6 y).1], by rw [mN_UR, (kn6 y).2.1], by rw [mI_UR, (kn6 y).2.2]⟩
  have z9 : mZ M9 = mZ M ∧ mS M9 = mS M := by rw [e9, mZ_UR, mS_UR, e6, mZ_UR, mS_UR, q2.2.2.2.2.1, q2.2.2.2.2.2.1]; exact ⟨rfl, rfl⟩
  have o9 : mOk M9 := by rw [e9]; exact mOk_UR (by rw [e6]; exact mOk_UR q1)
  have F9 : FA (gaS g Ab Be) (gaR g) M M9 := by
    have b2 : FA (gaS g Ab Be) (gaR g) M M2 := (FI.fa q2).mono (fun x _ y => Or.inl (by have y' : x = g := y; omega)) (fun x _ y => y)
    exact (b2.trans2 f6 (fun _ _ y => y.elim) (fun x _ y => Or.inl y)).trans2 (FA.ur (S := fun _ => False) (R := fun x => x = g + 10) rfl e9) (fun _ _ y => y.elim) (fun x _ y => Or.inr y)
  have g16 : mR M9 g 16 = g + 20 := by rw [r9, if_neg (fun t => absurd t.2 (by decide)), if_neg (fun t => absurd t.2 (by decide))]; exact h2.2.1.2.2.2.2.2.2.2.2.2.2.1
  have k20 := h2.2.2.1.2.2.2.2.2.2.2.2.2.1
  have n20 := h2.2.2.2.2.2.2.2.2.2.2.2.2.1
  rw [g16]
  refine (s_JA_fill (v := -1) o9 (by rw [(kn9 _).1]; exact k20) (by rw [(kn9 _).2.1, n20]; omega) ⟨by decide, by decide⟩).mono (fun M11 q => ?_)
  obtain ⟨o11, f11, v11⟩ := q
  rw [(kn9 _).2.1, n20] at v11
  have r11 : mR M11 g 15 = g + 10 := by rw [f11.2.2.1, r9, if_neg (fun t => absurd t.2 (by decide)), if_neg (fun t => absurd t.2 (by decide))]; exact h2.2.1.2.2.2.2.2.2.2.2.2.1
  have r11m : mR M11 (g + 10) 5 = g + 12 := by rw [f11.2.2.1, r9, if_neg (fun t => absurd t.2 (by decide)), if_neg (fun t => absurd t.2 (by decide))]; exact h3.2.1.2.1
  have km2 := h3.2.2.1.2.1
  have nm2 := h3.2.2.2.1.1
  rw [r11, r11m]
  refine ⟨o11, by rw [f11.1, (kn9 _).1]; exact h2.1, by rw [f11.1, (kn9 _).1]; exact h3.1, (s_JA_fill (v := 0) o11 (by rw [f11.1, (kn9 _).1]; exact km2) (by rw [f11.2.1, (kn9 _).2.1]; exact (by rw [nm2]; omega)) ⟨by decide, by decide⟩).mono (fun M16 q => ?_)⟩
  obtain ⟨o16, f16, -⟩ := q
  have fa16 : FI (fun x => x = g + 20 ∨ x = g + 12) M9 M16 := (f11.mono (fun _ y => Or.inl y)).trans (f16.mono (fun _ y => Or.inr y))
  have rp : ∀ i, mR M16 p i = mR M p i := fun i => by rw [fa16.2.2.1, r9, if_neg (fun t => pg 0 10 (by omega) (by omega) t.1), if_neg (fun t => pg 0 0 (by omega) (by omega) t.1)]
  have r1614 : mR M16 g 14 = p := by rw [fa16.2.2.1, r9, if_neg (fun t => absurd t.2 (by decide)), if_pos ⟨rfl, rfl⟩]
  have r1615 : mR M16 g 15 = g + 10 := by rw [f16.2.2.1]; exact r11
  have r16m : mR M16 (g + 10) 5 = g + 12 := by rw [f16.2.2.1]; exact r11m
  have p6 := h4.1.2.2.2.2.2.2.1.2.2.1
  have kp6 := h4.1.2.2.2.2.2.2.2.1.2.2.1
  have np6 := h4.1.2.2.2.2.2.2.2.2.2.2.1
  have i16 : ∀ x, x ≠ g + 20 → x ≠ g + 12 → x ≠ g → mI M16 x = mI M x := fun x a b c => by rw [fa16.2.2.2.2.2.2 x (fun y => y.elim a b), (kn9 x).2.2, q2.2.2.2.2.2.2 x c]
  have p3 : mI M16 p 3 = ((V : Nat) : Int) := by rw [i16 p (pg 0 20 (by omega) (by omega)) (pg 0 12 (by omega) (by omega)) (pg 0 0 (by omega) (by omega))]; exact h4.2.2.1.1
  have V12 := h4.2.2.1.2
  rw [r1614, r1615, rp 6, p6, r16m, p3, fa16.1, fa16.2.1, (kn9 _).1, (kn9 _).1, (kn9 _).1, (kn9 _).1, (kn9 _).1, (kn9 _).2.1, (kn9 _).2.1]
  refine ⟨o16, h2.1, h4.1.1, h3.1, kp6, km2, ⟨by omega, by omega, by omega, by rw [np6]; omega, by rw [nm2]; omega⟩, fun M25 e25 => ?_⟩
  have f25 : FI (fun x => x = g + 12) M16 M25 := by
    rw [e25]
    refine ⟨rfl, rfl, rfl, rfl, rfl, rfl, fun x hx => ?_⟩
    funext j
    exact if_neg (fun t => hx t.1)
  have o25 : mOk M25 := by rw [e25]; exact mOk_Cpy o16
  have fa25 : FI (fun x => x = g + 20 ∨ x = g + 12) M9 M25 := fa16.trans (f25.mono (fun _ y => Or.inr y))
  have i25 : ∀ x, x ≠ g + 20 → x ≠ g + 12 → x ≠ g → mI M25 x = mI M x := fun x a b c => by rw [f25.2.2.2.2.2.2 x b, i16 x a b c]
  have r25 : ∀ y i, mR M25 y i = if y = g + 10 ∧ i = 0 then p else if y = g ∧ i = 14 then p else mR M y i := fun y i => by rw [fa25.2.2.1, r9]
  have kn25 : ∀ y, mK M25 y = mK M y ∧ mN M25 y = mN M y := fun y => ⟨by rw [fa25.1, (kn9 y).1], by rw [fa25.2.1, (kn9 y).2.1]⟩
  have z25 : mZ M25 = mZ M ∧ mS M25 = mS M := ⟨by rw [fa25.2.2.2.2.1]; exact z9.1, by rw [fa25.2.2.2.2.2.1]; exact z9.2⟩
  have F25 : FA (gaS g Ab Be) (gaR g) M M25 := F9.trans2 (FI.fa (R := fun _ => False) fa25) (fun x _ y => Or.inl (by have y' : x = g + 20 ∨ x = g + 12 := y; omega)) (fun _ _ y => y.elim)
  have ig : ∀ i, mI M25 g i = mI M2 g i := fun i => by rw [fa25.2.2.2.2.2.2 g (fun y => by have y' : g = g + 20 ∨ g = g + 12 := y; omega), (kn9 g).2.2]
  have y25 : GY U 0 M z g p O P K V F1 ns1 sf1 ef1 L cnt Ab Be C M25 Ab Be C := by
    refine ⟨o25, h2.eq2 (fun i _ => kn25 _) (fun i hi => by rw [r25, if_neg (fun t => absurd t.1 (by omega)), if_neg (fun t => hi t.2)]), h3.eq2 (fun x _ => kn25 x) (fun i hi => by rw [r25, if_neg (fun t => absurd t.2 (by omega)), if_neg (fun t => absurd t.1 (by omega))]) (by rw [i25 (g + 10) (by omega) (by omega) (by omega)]) (by rw [z25.1]; exact Nat.le_refl _), h4.fa F25 ne.2.2.2 ne.1 ne.2.1 ne.2.2.1, ⟨by rw [r25, if_neg (fun t => absurd t.1 (by omega)), if_pos ⟨rfl, rfl⟩], by rw [r25, if_pos ⟨rfl, rfl⟩]⟩, ⟨h61, h62, h63⟩, fun x hx => absurd hx.2 (by decide), ⟨F25, ⟨Or.inl rfl, Or.inl rfl⟩, by rw [z25.2], by rw [z25.1]; exact Nat.le_refl _⟩, fun x hx => by rw [i25 (g + 15) (by omega) (by omega) (by omega), i25 (g + 10) (by omega) (by omega) (by omega)]; exact h7 x hx, fun i hi => by rw [i25 _ (pg i 20 hi (by omega)) (pg i 12 hi (by omega)) (pg i 0 hi (by omega))]⟩
  have s25 : SLt M25 g 0 := fun i hi => Or.inl (by rw [f25.2.2.2.2.2.2 _ (show ¬ g + 20 = g + 12 by omega), f16.2.2.2.2.2.2 _ (show ¬ g + 20 = g + 12 by omega)]; exact v11 i hi)
  have st25 : mI M25 (g + 10) 9 = mI M (g + 10) 9 := by rw [i25 (g + 10) (by omega) (by omega) (by omega)]
  have c0 : mI M25 g 0 = ((0 : Nat) : Int) := by rw [ig, q3, if_neg (by decide), if_neg (by decide), if_pos rfl]; rfl
  have c12 : mI M25 g 12 = ((0 : Nat) : Int) := by rw [ig, q3, if_neg (by decide), if_pos rfl]; rfl
  have c13 : mI M25 g 13 = ((0 : Nat) : Int) := by rw [ig, q3, if_pos rfl]; rfl
  have slm25 : SLm M25 g V 0 := ⟨SLq.nil (fun j hj => by
    rw [f25.2.2.2.2.2.2 _ (show ¬ g + 20 = g + 12 by omega), f16.2.2.2.2.2.2 _ (show ¬ g + 20 = g + 12 by omega)]
    exact v11 j hj), fun i j hi => absurd hi (by omega)⟩
  have nx25 : nxm M25 g V = (List.range V).map (mI M (p + 5)) := by
    unfold nxm
    refine List.map_congr_left (fun v hv => ?_)
    have hv := List.mem_range.mp hv
    rw [e25]
    show (if g + 10 + 2 = g + 12 ∧ Int.toNat 0 ≤ v ∧ v < Int.toNat 0 + Int.toNat ((V : Nat) : Int) then mI M16 (p + 5) (Int.toNat 0 + (v - Int.toNat 0)) else mI M16 (g + 10 + 2) v) = _
    rw [if_pos ⟨rfl, Nat.zero_le _, by show v < 0 + V; omega⟩, i16 (p + 5) (pg 5 20 (by omega) (by omega)) (pg 5 12 (by omega) (by omega)) (pg 5 0 (by omega) (by omega))]
    show mI M (p + 5) (0 + (v - 0)) = _
    rw [Nat.zero_add, Nat.sub_zero]
  refine (x_Ga_enter (d := d + 4) y25 c0 (by omega) slm25).mono (fun x28 M27 q => ?_)
  obtain ⟨⟨x27, f27, r27, cn', cn27, -, cn5', sl27, hto, i28, hm1⟩, ex⟩ := q
  have ge27 : cn' = 1 ∧ gxe M27 g V cn' [(List.range V).map (mI M (p + 5))] := by
    rcases ex with ⟨k', e1, -⟩ | ⟨no, ⟨e1, -⟩ | ⟨e1, e2, e3, e4, e5, e6⟩⟩
    · omega
    · omega
    · have cc' : cn' = 1 := by rw [cn27] at e3; omega
      subst cc'
      refine ⟨rfl, e3, e4, ?_⟩
      rw [Sm9_s e5 V12 e6, nx25]
      rfl
  obtain ⟨ecn, ge27⟩ := ge27
  refine ⟨i28, x27.1, ?_⟩
  have s27 : mI M27 (g + 10) 9 = mI M (g + 10) 9 + ((0 : Nat) : Int) := by
    rw [f27.2.2.2.2.2.2 (g + 10) (fun y => by have y' : g + 10 = g ∨ g + 10 = g + 1 ∨ g + 10 = g + 20 := y; omega), st25]
    omega
  refine x_dc72 hF cx px h8 512 0 M27 U 0 Ab Be C cn' 0 0 [(List.range V).map (mI M (p + 5))] [] (by omega) (by omega) hU x27 cn5' (by omega) (by omega) (by rw [r27 12 (by decide)]; exact c12) (by rw [r27 13 (by decide)]; exact c13) (Or.inl ⟨rfl, rfl, rfl⟩) s27 (fun s hs => ?_) ge27 rfl rfl rfl
  rw [List.mem_singleton.mp hs]
  intro l1 e l2 he h3
  have e9 : vcn (e :: l2) = vcn l2 + 1 := by
    show vcn l2 + (if e.2.1 = 3 then 1 else 0) = _
    rw [if_pos h3]
  have vl : vcn l1 < V := by
    rw [← cx.2.2.2.2.2, he, vcn_app, e9]
    omega
  have eq9 := getD_map (f := mI M (p + 5)) vl
  show (((List.range V).map (mI M (p + 5))).getD (vcn l1) 0).natAbs ≤ 999999999 ∧ (e.2.2.1 = 1 → ((List.range V).map (mI M (p + 5))).getD (vcn l1) 0 = 0 ∨ ((List.range V).map (mI M (p + 5))).getD (vcn l1) 0 = 1)
  rw [eq9]
  exact px.2.1 l1 e l2 he h3
end GBP
