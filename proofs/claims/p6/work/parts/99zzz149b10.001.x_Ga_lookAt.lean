section
variable {G : mG} {d z g p O P K V F L cnt U w9 Ab Be C Ab0 Be0 C0 n N c cn k cc bc : Nat} {M0 M M' : mM} {ns : Nat → Int} {sf ef : Nat → Nat} {F1 : Nat} {ns1 : Nat → Int} {sf1 ef1 : Nat → Nat} {W pl nq : Nat → Int} {sm : Nat → Nat → Prop} {nms : List nm9} {T : xt9}
theorem x_Ga_lookAt {tg : Nat × Nat} {S : List (List Int)} (hF : FMx G) (cx : gcx M0 g p O P L V F Ab0 Be0 ns sf ef W pl nq sm N n nms) (hT : ∃ s : Nat, mI M0 p 11 = ((s : Nat) : Int) ∧ RuC M0 O P L W pl nq sm n ns ef nms tg.1 tg.2 s) (so : SoO nms S) (ge : gxe M g V cn S) (hkn : k < cn) (hxt : xtm M g k = T) (hnb : nbx9 T = bc) (hU : U = g + 1 ∨ U = g + 11) (hx : GY U w9 M0 z g p O P K V F1 ns1 sf1 ef1 L cnt Ab0 Be0 C0 M Ab Be C) (hk : k < 512) (hcn : mI M g 0 = ((cn : Nat) : Int) ∧ cn ≤ 512 ∧ SLt M g cn) (hcc : mI M g 12 = ((cc : Nat) : Int)) (hbc : mI M g 13 = ((bc : Nat) : Int)) (hst : 0 ≤ mI M (g + 10) 9 ∧ mI M (g + 10) 9 < 1000000000) (hgt : (k = 0 ∧ cc = 0 ∧ bc = 0) ∨ (∃ k', k = k' + 1 ∧ GT M g cn k' cc bc)) (hgs : ∀ j, j < k → GS1 M g j) : Ci G y_Ga_lookAt (d + 5) [vr g, vi k] M (fun r M' => (i32 r ∧ (∃ Ab' Be' C', GX M0 z g p O P K V F1 ns1 sf1 ef1 L cnt Ab0 Be0 C0 M' Ab' Be' C') ∧ mI M' (g + 10) 9 = mI M (g + 10) 9 + 1 ∧ (r = 0 → GQ M' g cn k cc bc ∧ GS M' g k)) ∧ lkX9 (evq W pl nq sm N nms (lsm M g V k) tg.1 tg.2) S T g V F ns W pl nq sm N nms k (lsm M g V k) r M') := by
  obtain ⟨h1, h2, h3, h4, h5, h6, h7, h8, h9, h10⟩ := id hx
  obtain ⟨g0, ⟨r1, r2, r3, r4, -, -, -, -, -, r15, -⟩, ⟨k1, k2, k3, k4, -⟩, ⟨n1, n2, n3, n4, -⟩⟩ := id h2
  refine k_Ga_lookAt h1 (i32s (by omega) (by omega)) ?_
  rw [r4, n4, hcc, Int.toNat_natCast]
  refine ⟨g0, k4, by omega, fun M4 e4 => ?_⟩
  have f4 : FI (fun x => x = g + 4) M M4 := by rw [e4]; exact FI.ui rfl
  rw [f4.1, f4.2.1, f4.2.2.1, r4, n4, f4.2.2.2.2.2.2 g (show ¬ g = g + 4 by omega), hcc, show Int.toNat ((k : Int) + 1) = k + 1 by omega]
  refine ⟨k4, by omega, fun M8 e8 => ?_⟩
  have f8 : FI (fun x => x = g + 4) M4 M8 := by rw [e8]; exact FI.ui rfl
  rw [f8.1, f8.2.1, f8.2.2.1, f4.1, f4.2.1, f4.2.2.1, r3, n3]
  refine ⟨k3, by omega, fun M12 e12 => ?_⟩
  have f12 : FI (fun x => x = g + 3) M8 M12 := by rw [e12]; exact FI.ui rfl
  have ff : FI (fun x => x = g + 4 ∨ x = g + 3) M M12 := ((f4.mono (fun _ y => Or.inl y)).trans (f8.mono (fun _ y => Or.inl y))).trans (f12.mono (fun _ y => Or.inr y))
  have bcc : i32 ((cc : Nat) : Int) := by rw [← hcc]; exact (h1 _ _).1
  have o12 : mOk M12 := by rw [e12]; exact mOk_UI (by rw [e8]; exact mOk_UI (by rw [e4]; exact mOk_UI h1 bcc) bcc) ⟨by decide, by decide⟩
  have x12 := hx.fi o12 (ff.mono (fun x y => Or.inl (by have y' : x = g + 4 ∨ x = g + 3 := y; omega)))
  have nb : ∀ x, x ≠ g + 4 → x ≠ g + 3 → mI M12 x = mI M x := fun x a b => ff.2.2.2.2.2.2 x (fun y => y.elim a b)
  have t4 : ∀ i, mI M12 (g + 4) i = if i = k + 1 then ((cc : Nat) : Int) else if i = k then ((cc : Nat) : Int) else mI M (g + 4) i := fun i => by
    rw [f12.2.2.2.2.2.2 _ (show ¬ g + 4 = g + 3 by omega), mI_ui _ i e8]
    by_cases y : i = k + 1
    · rw [if_pos ⟨rfl, y⟩, if_pos y]
    · rw [if_neg (fun t => y t.2), if_neg y, mI_ui _ i e4]
      by_cases y2 : i = k
      · rw [if_pos ⟨rfl, y2⟩, if_pos y2]
      · rw [if_neg (fun t => y2 t.2), if_neg y2]
  have gs12 : (∀ j, j < k → GS1 M12 g j) ∧ mI M12 (g + 3) k = 0 := by
    have t3 : ∀ i, mI M12 (g + 3) i = if i = k then 0 else mI M (g + 3) i := fun i => by
      rw [mI_ui _ i e12]
      by_cases y : i = k
      · rw [if_pos ⟨rfl, y⟩, if_pos y]
      · rw [if_neg (fun t => y t.2), if_neg y, f8.2.2.2.2.2.2 _ (show ¬ g + 3 = g + 4 by omega), f4.2.2.2.2.2.2 _ (show ¬ g + 3 = g + 4 by omega)]
    refine ⟨fun j hj => (hgs j hj).cg (by rw [nb _ (by omega) (by omega)]) (by rw [t3, if_neg (by omega)]) (by rw [t4, if_neg (by omega), if_neg (by omega)]) ?_, by rw [t3, if_pos rfl]⟩
    rw [t4, if_neg (by omega)]
    by_cases y : j + 1 = k
    · rw [if_pos y]
      rcases hgt with ⟨k0, -⟩ | ⟨k', ek, -, -, -, -, -, -, -, s8⟩
      · omega
      · rw [y, ← s8, ← ek]
    · rw [if_neg y]
  have q12 : GQ M12 g cn k cc bc := by
    have e0 := nb g (by omega) (by omega)
    refine ⟨⟨by rw [e0]; exact hcn.1, hcn.2.1, fun i hi => by rw [nb _ (by omega) (by omega)]; exact hcn.2.2 i hi⟩, by rw [e0]; exact hcc, by rw [e0]; exact hbc, ?_⟩
    rcases hgt with ⟨k0, c0, b0⟩ | ⟨k', ek, s1, s2, s3, s4, s5, s6, s7, s8⟩
    · subst k0
      subst c0
      subst b0
      exact ⟨Nat.le_refl _, by omega, fun c hc => absurd hc (by omega), fun y => absurd y (by omega), fun _ => rfl, fun j hj => ⟨0, 0, by rw [t4, if_neg (by omega), if_pos (by omega)], by rw [t4, if_pos (by omega)], Nat.le_refl _, Nat.le_refl _⟩, by rw [t4, if_neg (by omega), if_pos rfl]; rfl, by rw [t4, if_pos rfl]⟩
    · subst ek
      have e7 := nb (g + 7) (by omega) (by omega)
      refine ⟨s1, s2, fun c hc => (s3 c hc).cg ⟨by rw [e7], by rw [e7]⟩ (by rw [nb (g + 6) (by omega) (by omega)]) (by rw [nb (g + 5) (by omega) (by omega)]) (fun i _ => ⟨by rw [nb (g + 8) (by omega) (by omega)], by rw [nb (g + 9) (by omega) (by omega)]⟩) (Nat.le_refl _) (Nat.le_refl _), by rw [e7]; exact s4, s5, fun j hj => ?_, by rw [t4, if_neg (by omega), if_neg (by omega)]; exact s7, by rw [t4, if_pos rfl]⟩
      by_cases y : j = k' + 1
      · rw [y]
        exact ⟨cc, cc, by rw [t4, if_neg (by omega), if_pos rfl], by rw [t4, if_pos rfl], Nat.le_refl _, Nat.le_refl _⟩
      · obtain ⟨a, b, f1, f2, f3, f4'⟩ := s6 j (by omega)
        refine ⟨a, b, by rw [t4, if_neg (by omega), if_neg (by omega)]; exact f1, ?_, f3, f4'⟩
        rw [t4, if_neg (by omega)]
        by_cases y2 : j + 1 = k' + 1
        · rw [if_pos y2, ← s8, ← y2]; exact f2
        · rw [if_neg y2]; exact f2
  have s12 : mI M12 (g + 10) 9 = mI M (g + 10) 9 := by rw [nb _ (by omega) (by omega)]
  have V12 := h4.2.2.1.2
  have F60 := cx.1.2.2.2.2
  have ge12 : gxe M12 g V cn S := ge.cg V12 (by rw [nb g (by omega) (by omega)]) (nb _ (by omega) (by omega)) (nb _ (by omega) (by omega))
  have t12 : xtm M12 g k = T := by
    rw [← hxt]
    rcases hgt with ⟨k0, -⟩ | ⟨k', ek, -, -, -, -, -, s6, -, s8⟩
    · subst k0; rfl
    · refine xtm_cg (cc := cc) k (fun j _ => by rw [nb _ (by omega) (by omega)]) (fun j hj => ?_) (fun j hj => ?_) (fun c' _ => cmm_eq (fun i i5 i9 => nb _ (by omega) (by omega)))
      · rw [t4, if_neg (by omega)]
        by_cases y : j = k
        · rw [if_pos y, y, ek, s8]
        · rw [if_neg y]
      · obtain ⟨x, y', f1, f2, f3, f4⟩ := s6 j (by omega)
        rw [f2, Int.toNat_natCast]
        exact f4
  have f12k : mI M12 (g + 4) k = ((cc : Nat) : Int) := by rw [t4, if_neg (by omega), if_pos rfl]
  have c12 : mI M12 g 12 = ((cc : Nat) : Int) ∧ mI M12 g 13 = ((bc : Nat) : Int) := by rw [nb g (by omega) (by omega)]; exact ⟨hcc, hbc⟩
  clear f4 f8 f12 ff t4 e4 e8 e12 nb
  obtain ⟨-, a2, a3, a4, a5, a6, a7, a8, a9, a10⟩ := id x12
  obtain ⟨b0, ⟨b1, -, -, -, -, -, -, -, -, b15, -⟩, ⟨bk1, -⟩, ⟨bn1, -⟩⟩ := id a2
  rw [b15, b1]
  have zU : g + 1 < mZ M12 ∧ g + 10 < mZ M12 := by have := a3.2.2.2.2.2.2.1.1; omega
  refine ⟨a3.1, ?_⟩
  refine k_Ma_enter o12 ⟨by omega, by omega⟩ ⟨a3.1, fun N2 e2 N4 e4 => ?_⟩
  have i4 : mI N4 (g + 10) 9 = mI M (g + 10) 9 := by rw [mI_ui _ _ e4, if_neg (fun t => absurd t.2 (by decide)), e2, mI_UR]; exact s12
  rw [i4]
  refine ⟨⟨by omega, by omega⟩, fun N7 e7 => ?_⟩
  have fu : FA (fun _ => False) (fun x => x = g + 10) M12 N2 := FA.ur rfl e2
  have c4 : FI (fun x => x = g + 10) N2 N4 := by rw [e4]; exact FI.ui rfl
  have c7 : FI (fun x => x = g + 10) N4 N7 := by rw [e7]; exact FI.ui rfl
  have cc7 := c4.trans c7
  have F7 : FA (fun x => x = g + 10) (fun x => x = g + 10) M12 N7 := (fu.mono (fun _ _ y => y.elim) (fun _ _ y => y)).trans (FI.fa cc7)
  have o7 : mOk N7 := by rw [e7]; exact mOk_UI (by rw [e4]; exact mOk_UI (by rw [e2]; exact mOk_UR o12) ⟨by omega, by omega⟩) ⟨by omega, by omega⟩
  have r7 : ∀ i, mR N7 (g + 10) i = if i = 3 then g + 1 else mR M12 (g + 10) i := fun i => by
    rw [cc7.2.2.1, e2, mR_UR]
    by_cases y : i = 3
    · rw [if_pos ⟨rfl, y⟩, if_pos y]
    · rw [if_neg (fun t => y t.2), if_neg y]
  have i7 : mI N7 (g + 10) 9 = mI M (g + 10) 9 + 1 ∧ mI N7 (g + 10) 4 = (k : Int) * 12 := by
    refine ⟨by rw [mI_ui _ _ e7, if_pos ⟨rfl, rfl⟩], by rw [mI_ui _ _ e7, if_neg (fun t => absurd t.2 (by decide)), mI_ui _ _ e4, if_pos ⟨rfl, rfl⟩]⟩
  have nb7 : ∀ x, x < mZ M12 → x ≠ g + 10 → mI N7 x = mI M12 x ∧ mR N7 x = mR M12 x := fun x hx hne => ⟨(F7.2 x hx).2.2.2.2 hne, (F7.2 x hx).2.2.2.1 hne⟩
  have Z7 : mZ N7 = mZ M12 ∧ mS N7 = mS M12 := by rw [cc7.2.2.2.2.1, cc7.2.2.2.2.2.1, e2]; exact ⟨rfl, rfl⟩
  have ne := x12.ne
  have cl : ∀ x, mK N7 x = mK M12 x ∧ mN N7 x = mN M12 x := fun x => by rw [cc7.1, cc7.2.1, e2]; exact ⟨rfl, rfl⟩
  have q7 : GQ N7 g cn k cc bc := q12.eq (fun i hi => (nb7 (g + i) (by have := a3.2.2.2.2.2.2.1.1; omega) (by omega)).1)
  have gs7 : (∀ j, j < k → GS1 N7 g j) ∧ mI N7 (g + 3) k = 0 := by
    have e9 : ∀ i, i ≤ 9 → mI N7 (g + i) = mI M12 (g + i) := fun i hi => (nb7 (g + i) (by have := a3.2.2.2.2.2.2.1.1; omega) (by omega)).1
    exact ⟨fun j hj => (gs12.1 j hj).cg (by rw [e9 2 (by omega)]) (by rw [e9 3 (by omega)]) (by rw [e9 4 (by omega)]) (by rw [e9 4 (by omega)]), by rw [e9 3 (by omega)]; exact gs12.2⟩
  have rg : mR N7 g = mR M12 g := (nb7 g (by omega) (by omega)).2
  have e79 : ∀ i, i ≤ 9 ∨ (20 ≤ i ∧ i ≤ 22) → mI N7 (g + i) = mI M12 (g + i) := fun i hi => (nb7 (g + i) (by have := a3.2.2.2.2.2.2.1.1; omega) (by omega)).1
  have e70 : mI N7 g = mI M12 g := (nb7 g (by omega) (by omega)).1
  have ge7 : gxe N7 g V cn S := ge12.cg V12 (by rw [e70]) (e79 1 (by omega)) (e79 20 (by omega))
  have t7x : xtm N7 g k = T := by rw [xtm_eq (fun i _ i9 => e79 i (by omega))]; exact t12
  have f7k : mI N7 (g + 4) k = ((cc : Nat) : Int) := by rw [e79 4 (by omega)]; exact f12k
  have cg7 : mI N7 g 12 = ((cc : Nat) : Int) ∧ mI N7 g 13 = ((bc : Nat) : Int) := by rw [e70]; exact c12
  have lsk : lsm M g V k = lsm N7 g V k := by
    have a := Sm9_get (M := M) (g := g) (V := V) hkn
    have b := Sm9_get (M := N7) (g := g) (V := V) hkn
    rw [ge.2.2] at a
    rw [ge7.2.2] at b
    rw [a] at b
    exact Option.some.inj b
  have mS7 : lsm M g V k ∈ S := by
    have a := Sm9_get (M := M) (g := g) (V := V) hkn
    rw [ge.2.2] at a
    exact List.mem_of_getElem? a
  have st7 : gst9 N7 g V F ns W pl nq sm N nms k (fun v => (lsm M g V k).getD v 0) := by
    refine ⟨by rw [i7.2]; omega, fun v hv => ?_, so _ mS7, fun x hx _ u => ?_⟩
    · rw [lsk]
      unfold lsm
      exact (getD_map (f := fun v => mI N7 (g + 1) (12 * k + v)) hv).symm
    · exfalso
      have l := a9 x (by omega)
      rw [show g + 15 = g + 10 + 5 by omega, s12] at l
      have e5 := (nb7 (g + 10 + 5) (by have := a3.2.2.2.2.2.2.1.1; omega) (by omega)).1
      rw [e5, i7.1] at u
      omega
  have x7 : GX M0 z g p O P K V F1 ns1 sf1 ef1 L cnt Ab0 Be0 C0 N7 Ab Be C := by
    have F9 : FA (gaS g Ab Be) (gaR g) M12 N7 := F7.mono (fun x _ y => Or.inl (by have y' : x = g + 10 := y; omega)) (fun x _ y => Or.inr y)
    refine ⟨o7, a2.eq2 (fun i _ => cl _) (fun i _ => by rw [rg]), ?_, a4.fa F9 ne.2.2.2 ne.1 ne.2.1 ne.2.2.1, ⟨by rw [rg]; exact a5.1, by rw [r7, if_neg (by decide)]; exact a5.2⟩, a6, fun x hx => ?_, a8.trans ⟨F9, ⟨Or.inl rfl, Or.inl rfl⟩, by rw [Z7.2], by rw [Z7.1]; exact Nat.le_refl _⟩, fun x hx => ?_, fun i hi => ?_⟩
    · obtain ⟨e1, ⟨e21, e22, e23, e24, e25, e26, e27, e28, e29⟩, ⟨e31, e32⟩, e41, e5, e6, ⟨z1, z2, z3, z4⟩, e8⟩ := a3
      refine ⟨by rw [(cl _).1]; exact e1, ⟨by rw [r7, if_pos rfl], by rw [r7, if_neg (by decide)]; exact e22, by rw [r7, if_neg (by decide)]; exact e23, by rw [r7, if_neg (by decide)]; exact e24, by rw [r7, if_neg (by decide)]; exact e25, by rw [r7, if_neg (by decide)]; exact e26, by rw [r7, if_neg (by decide)]; exact e27, by rw [r7, if_neg (by decide)]; exact e28, by rw [r7, if_neg (by decide)]; exact e29⟩, ?_, ?_, ?_, e6, ⟨by rw [Z7.1]; exact z1, by rw [Z7.1]; exact z2, by rw [Z7.1]; exact z3, by rw [Z7.1]; exact zU.1⟩, e8⟩
      · rw [(cl _).1, (cl _).1, (cl _).1, (cl _).1, (cl _).1, (cl _).1, (cl _).1, (cl _).1, (cl _).1]
        exact ⟨bk1, e32⟩
      · rw [(cl _).2, (cl _).2, (cl _).2, (cl _).2, (cl _).2, (cl _).2, (cl _).2, (cl _).2]
        exact e41
      · rw [i7.2, (cl _).2, bn1]
        omega
    · have l := a9 x hx.1
      rw [show g + 15 = g + 10 + 5 by omega] at l
      have e5 := (nb7 (g + 10 + 5) (by have := a3.2.2.2.2.2.2.1.1; omega) (by omega)).1
      rw [e5, i7.1]
      rw [s12] at l
      exact ⟨by omega, fun t => by omega⟩
    · have l := a9 x hx
      have e5 := (nb7 (g + 15) (by have := a3.2.2.2.2.2.2.1.1; omega) (by omega)).1
      rw [e5, i7.1]
      rw [s12] at l
      omega
    · have pz := a4.1.2.2.2.2.1.1
      have po := a4.1.2.2.2.1.2.2.2
      rw [(F9.2 (p + i) (by omega)).2.2.2.2 (ne.1 i hi)]
      exact a10 i hi
  clear x12 a2 a3 a4 a5 a6 a7 a8 a9 a10 F7 cc7 c4 c7 fu r7 nb7 ne cl rg Z7 q12 e2 e4 e7 i4
  obtain ⟨-, l2, l3, l4, l5, -⟩ := id x7
  obtain ⟨m0, ⟨-, m2, -, -, -, -, -, -, -, m15, -⟩, -, -⟩ := id l2
  obtain ⟨sT, e11, ruT⟩ := hT
  have e11 : mI N7 p 11 = ((sT : Nat) : Int) := by
    have a := gx_p x7 0 (by omega)
    rw [Nat.add_zero] at a
    rw [a]
    exact e11
  rw [l5.1, m15, e11]
  refine ⟨o7, m0, l4.1.1, l3.1, (x_Ga_run hF x7 cx st7 ruT).mono (fun x22 M21 kk => ?_)⟩
  obtain ⟨⟨i22, o21, hx22, A1, B1, C1, x21, f21, s21, -⟩, rx, st21x⟩ := kk
  have rx : rnx (g + 10) (evq W pl nq sm N nms (lsm M g V k) tg.1 tg.2) x22 M21 := rx
  obtain ⟨ce1, ce2⟩ := ga_ce x7 f21
  have q21 := q7.eq ce1
  have ce0 := ce1 0 (by omega)
  rw [Nat.add_zero] at ce0
  have ge21 : gxe M21 g V cn S := ge7.cg V12 (by rw [ce0]) (ce1 1 (by omega)) (ce1 20 (by omega))
  have t21x : xtm M21 g k = T := by rw [xtm_eq (fun i _ i9 => ce1 i (by omega))]; exact t7x
  have f21k : mI M21 (g + 4) k = ((cc : Nat) : Int) := by rw [ce1 4 (by omega)]; exact f7k
  have c21 : mI M21 g 12 = ((cc : Nat) : Int) ∧ mI M21 g 13 = ((bc : Nat) : Int) := by rw [ce0]; exact cg7
  have gs21 : (∀ j, j < k → GS1 M21 g j) ∧ mI M21 (g + 3) k = 0 := ⟨fun j hj => (gs7.1 j hj).cg (by rw [ce1 2 (by omega)]) (by rw [ce1 3 (by omega)]) (by rw [ce1 4 (by omega)]) (by rw [ce1 4 (by omega)]), by rw [ce1 3 (by omega)]; exact gs7.2⟩
  obtain ⟨-, y2, y3, y4, y5, -⟩ := id x21
  obtain ⟨w0, ⟨-, w2, -, -, -, -, -, -, -, w15, -⟩, ⟨-, wk2, -⟩, ⟨-, wn2, -⟩⟩ := id y2
  have mA := y3.2.1.2.2.1
  have kA := y3.2.2.1.2.2.1
  have nA := y3.2.2.2.1.2.1
  have c64 := y3.2.2.2.2.2.2.2.1
  have st21 : mI M21 (g + 10) 9 = mI M (g + 10) 9 + 1 := by rw [s21]; exact i7.1
  rw [w15, mA, nA, w2, wn2]
  refine ⟨i22, o21, fun y => ⟨w0, (x_Ga_machineFault o21 w0 w15 y3.1).mono (fun r M' q => ?_)⟩, fun y => ⟨w0, y3.1, kA, ⟨by omega, by omega⟩, fun v39 e39 => ⟨wk2, by omega, fun M45 e45 => ?_⟩⟩⟩
  · obtain ⟨q1, q2, ⟨q3, q4, q5⟩, q6⟩ := q
    obtain ⟨-, rx1, rx2, rx3⟩ := rx.resolve_right (fun u => by have := u.1; omega)
    have r0 : r ≠ 0 := by rw [q2, rx2]; exact rx1
    exact ⟨q1, q3, ⟨q1, ⟨A1, B1, C1, x21.fi q3 (q4.mono (fun x y => Or.inl (by have y' : x = g := y; omega)))⟩, by rw [q4.2.2.2.2.2.2 _ (show ¬ g + 10 = g by omega)]; exact st21, fun t => absurd t r0⟩, Or.inl ⟨r0, rx1, by rw [q2, rx2, q6, rx3]⟩⟩
  · have f45 : FI (fun x => x = g + 2) M21 M45 := by rw [e45]; exact FI.ui rfl
    have i39 : i32 v39 := by rw [e39]; split <;> exact ⟨by decide, by decide⟩
    have o45 : mOk M45 := by rw [e45]; exact mOk_UI o21 i39
    have nb2 : ∀ x, x ≠ g + 2 → mI M45 x = mI M21 x := fun x hx => f45.2.2.2.2.2.2 x hx
    obtain ⟨-, rx1, rx2, -⟩ := rx.resolve_left (fun u => y u.1)
    rw [mA] at rx2
    have e45k : mI M45 (g + 2) k = if (evq W pl nq sm N nms (lsm M g V k) tg.1 tg.2).2.1 = 0 then 0 else 3 := by
      rw [mI_ui _ k e45, if_pos ⟨rfl, rfl⟩, e39, rx2]
    have t45 : xtm M45 g k = T := by
      rw [← t21x]
      obtain ⟨-, -, -, -, -, -, -, -, t6, -⟩ := id q21
      refine xtm_cg (cc := cc) k (fun j hj => by rw [mI_ui _ j e45, if_neg (fun t => by have := t.2; omega)]) (fun j _ => by rw [nb2 _ (by omega)]) (fun j hj => ?_) (fun c' _ => cmm_eq (fun i i5 i9 => nb2 _ (by omega)))
      obtain ⟨x, y', f1, f2, f3, f4⟩ := t6 j (by omega)
      rw [f2, Int.toNat_natCast]
      exact f4
    refine ⟨⟨⟨by decide, by decide⟩, ⟨A1, B1, C1, x21.fi o45 (f45.mono (fun x y => Or.inl (by have y' : x = g + 2 := y; omega)))⟩, by rw [nb2 _ (by omega)]; exact st21, fun _ => ?_⟩, Or.inr ⟨rfl, rx1, ⟨rfl, so, ⟨cn, ge21.cg V12 (by rw [nb2 g (by omega)]) (nb2 _ (by omega)) (nb2 _ (by omega))⟩, t45, e45k, cc, cc, bc, by rw [nb2 _ (by omega)]; exact f21k, Nat.le_refl _, by rw [nb2 g (by omega)]; exact c21.1, by rw [nb2 g (by omega)]; exact c21.2, by rw [Nat.sub_self]; rfl, by rw [hnb]; rfl⟩, st21x.cg (fun i _ => by rw [nb2 _ (by omega)]) (fun v _ => by rw [nb2 _ (by omega)]) (nb2 _ (by omega)) (nb2 _ (by omega)) (nb2 _ (by omega))⟩⟩
    obtain ⟨⟨u1, u2, u3⟩, u4, u5, t1, t2, t3, t4, t5, t6, t7, t8⟩ := q21
    have n0 := nb2 g (by omega)
    have n4 := nb2 (g + 4) (by omega)
    have n7 := nb2 (g + 7) (by omega)
    refine ⟨⟨⟨by rw [n0]; exact u1, u2, fun i hi => by rw [nb2 _ (by omega)]; exact u3 i hi⟩, by rw [n0]; exact u4, by rw [n0]; exact u5, t1, t2, fun c hc => (t3 c hc).cg ⟨by rw [n7], by rw [n7]⟩ (by rw [nb2 _ (by omega)]) (by rw [nb2 _ (by omega)]) (fun i _ => ⟨by rw [nb2 _ (by omega)], by rw [nb2 _ (by omega)]⟩) (Nat.le_refl _) (Nat.le_refl _), by rw [n7]; exact t4, t5, by rw [n4]; exact t6, by rw [n4]; exact t7, by rw [n4]; exact t8⟩, fun j hj => ?_⟩
    by_cases y : j = k
    · subst y
      intro x1 y1 q1 q2
      have e2 : mI M45 (g + 2) j = v39 := by rw [mI_ui _ j e45, if_pos ⟨rfl, rfl⟩]
      rw [nb2 (g + 3) (by omega), gs21.2, e2, e39]
      refine ⟨⟨Int.le_refl _, Or.inr rfl⟩, fun w => ?_⟩
      exfalso
      clear t1 t2 t3 t4 t5 t6 t7 t8 u3
      split at w <;> omega
    · exact (gs21.1 j (by omega)).cg (by rw [mI_ui _ j e45, if_neg (fun t => y t.2)]) (by rw [nb2 (g + 3) (by omega)]) (by rw [n4]) (by rw [n4])
end
