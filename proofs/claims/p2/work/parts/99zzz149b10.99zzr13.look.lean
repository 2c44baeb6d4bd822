section
/-! The class's game, exactly: a state is looked at. -/
/-- what looking at a state comes to; e what the target is worth -/
def lkX9 (e : vrs) (S : List (List Int)) (T : xt9) (g V F : Nat) (ns W pl nq : Nat → Int) (sm : Nat → Nat → Prop) (N : Nat) (nms : List nm9) (k : Nat) (sgL : List Int) (r : Int) (M' : mM) : Prop := (r ≠ 0 ∧ e.1 ≠ 0 ∧ (e.1, e.2.1) = (r, mI M' g 10)) ∨ (r = 0 ∧ e.1 = 0 ∧ GQe M' g V nms k T ((0, 0), S, (if e.2.1 = 0 then 0 else 3), []) ∧ gst9 M' g V F ns W pl nq sm N nms k (fun v => sgL.getD v 0))
section GBM
variable {G : mG} {d z g p O P K V F L cnt U w9 Ab Be C Ab0 Be0 C0 n N c cn k cc bc : Nat} {M0 M M' : mM} {ns : Nat → Int} {sf ef : Nat → Nat} {F1 : Nat} {ns1 : Nat → Int} {sf1 ef1 : Nat → Nat} {W pl nq : Nat → Int} {sm : Nat → Nat → Prop} {nms : List nm9} {T : xt9}
theorem x_Ga_lookAt {tg : Nat × Nat} {S : List (List Int)} (hF : FMx G) (cx : gcx M0 g p O P L V F Ab0 Be0 ns sf ef W pl nq sm N n nms) (hT : ∃ s : Nat, mI M0 p 11 = ((s : Nat) : Int) ∧ RuC M0 O P L W pl nq sm n ns ef nms tg.1 tg.2 s) (so : SoO nms S) (ge : gxe M g V cn S) (hkn : k < cn) (hxt : xtm M g k = T) (hnb : nbx9 T = bc) (hU : U = g + 1 ∨ U = g + 11) (hx : GY U w9 M0 z g p O P K V F1 ns1 sf1 ef1 L cnt Ab0 Be0 C0 M Ab Be C) (hk : k < 512) (hcn : mI M g 0 = ((cn : Nat) : Int) ∧ cn ≤ 512 ∧ SLt M g cn) (hcc : mI M g 12 = ((cc : Nat) : Int)) (hbc : mI M g 13 = ((bc : Nat) : Int)) (hst : 0 ≤ mI M (g + 10) 9 ∧ mI M (g + 10) 9 < 1000000000) (hgt : (k = 0 ∧ cc = 0 ∧ bc = 0) ∨ (∃ k', k = k' + 1 ∧ GT M g cn k' cc bc)) (hgs : ∀ j, j < k → GS1 M g j) : Ci G y_Ga_lookAt (d + 5) [vr g, vi k] M (fun r M' => (i32 r ∧ (∃ Ab' Be' C', GX M0 z g p O P K V F1 ns1 sf1 ef1 L cnt Ab0 Be0 C0 M' Ab' Be' C') ∧ mI M' (g + 10) 9 = mI M (g + 10) 9 + 1 ∧ (r = 0 → GQ M' g cn k cc bc ∧ GS M' g k)) ∧ lkX9 (evq W pl nq sm N nms (lsm M g V k) tg.1 tg.2) S T g V F ns W pl nq sm N nms k (lsm M g V k) r M') := by
  obtain ⟨h1, h2, h3, h4, h5, h6, h7, h8, h9, h10⟩ := id hx
  obtain ⟨g0, ⟨r1, r2, r3, r4, -, -, -, -, -, r15, -⟩, ⟨k1, k2, k3, k4, -⟩, ⟨n1, n2, n3, n4, -⟩⟩ := id h2
  refine k_Ga_lookAt h1 (i32s (by omega) (by omega)) ?_
  rw [r4, n4, hcc, Int.toNat_natCast]
  refine ⟨g0, k4, by omega, fun M4 e4 => ?_⟩
  have f4 : FI (fun x => x = g + 4) M M4 := by rw [e4]; exact FI.ui rfl
  rw [f4.1, f4.2.1, f4.2.2.1, r4, n4, f4.2.2.2.2.2.2 g (show ¬ g = g + 4 by omega), hcc, show Int.toNat ((k : Int) + 1) = k + 1 by omega]
  refine ⟨k4, by omega, fun M8 e8 => ?_⟩
  have f8 : FI (fun x => x = g + 4) M4 M8 := by rw [e8]; exact FI.ui rfl
  rw [f8.1, f8.2.1, f8.2.2.1, f4.1, f4.2.1, f4.2.2.1, r3, n3]
  refine ⟨k3, by omega, fun M12 e12 => ?_⟩
  have f12 : FI (fun x => x = g + 3) M8 M12 := by rw [e12]; exact FI.ui rfl
  have ff : FI (fun x => x = g + 4 ∨ x = g + 3) M M12 := ((f4.mono (fun _ y => Or.inl y)).trans (f8.mono (fun _ y => Or.inl y))).trans (f12.mono (fun _ y => Or.inr y))
  have bcc : i32 ((cc : Nat) : Int) := by rw [← hcc]; exact (h1 _ _).1
  have o12 : mOk M12 := by rw [e12]; exact mOk_UI (by rw [e8]; exact mOk_UI (by rw [e4]; exact mOk_UI h1 bcc) bcc) ⟨by decide, by decide⟩
  have x12 := hx.fi o12 (ff.mono (fun x y => Or.inl (by have y' : x = g + 4 ∨ x = g + 3 := y; omega)))
  have nb : ∀ x, x ≠ g + 4 → x ≠ g + 3 → mI M12 x = mI M x := fun x a b => ff.2.2.2.2.2.2 x (fun y => y.elim a b)
  have t4 : ∀ i, mI M12 (g + 4) i = if i = k + 1 then ((cc : Nat) : Int) else if i = k then ((cc : Nat) : Int) else mI M (g + 4) i := fun i => by
    rw [f12.2.2.2.2.2.2 _ (show ¬ g + 4 = g + 3 by omega), mI_ui _ i e8]
    by_cases y : i = k + 1
    · rw [if_pos ⟨rfl, y⟩, if_pos y]
    · rw [if_neg (fun t => y t.2), if_neg y, mI_ui _ i e4]
      by_cases y2 : i = k
      · rw [if_pos ⟨rfl, y2⟩, if_pos y2]
      · rw [if_neg (fun t => y2 t.2), if_neg y2]
  have gs12 : (∀ j, j < k → GS1 M12 g j) ∧ mI M12 (g + 3) k = 0 := by
    have t3 : ∀ i, mI M12 (g + 3) i = if i = k then 0 else mI M (g + 3) i := fun i => by
      rw [mI_ui _ i e12]
      by_cases y : i = k
      · rw [if_pos ⟨rfl, y⟩, if_pos y]
      · rw [if_neg (fun t => y t.2), if_neg y, f8.2.2.2.2.2.2 _ (show ¬ g + 3 = g + 4 by omega), f4.2.2.2.2.2.2 _ (show ¬ g + 3 = g + 4 by omega)]
    refine ⟨fun j hj => (hgs j hj).cg (by rw [nb _ (by omega) (by omega)]) (by rw [t3, if_neg (by omega)]) (by rw [t4, if_neg (by omega), if_neg (by omega)]) ?_, by rw [t3, if_pos rfl]⟩
    rw [t4, if_neg (by omega)]
    by_cases y : j + 1 = k
    · rw [if_pos y]
      rcases hgt with ⟨k0, -⟩ | ⟨k', ek, -, -, -, -, -, -, -, s8⟩
      · omega
      · rw [y, ← s8, ← ek]
    · rw [if_neg y]
  have q12 : GQ M12 g cn k cc bc := by
    have e0 := nb g (by omega) (by omega)
    refine ⟨⟨by rw [e0]; exact hcn.1, hcn.2.1, fun i hi => by rw [nb _ (by omega) (by omega)]; exact hcn.2.2 i hi⟩, by rw [e0]; exact hcc, by rw [e0]; exact hbc, ?_⟩
    rcases hgt with ⟨k0, c0, b0⟩ | ⟨k', ek, s1, s2, s3, s4, s5, s6, s7, s8⟩
    · subst k0
      subst c0
      subst b0
      exact ⟨Nat.le_refl _, by omega, fun c hc => absurd hc (by omega), fun y => absurd y (by omega), fun _ => rfl, fun j hj => ⟨0, 0, by rw [t4, if_neg (by omega), if_pos (by omega)], by rw [t4, if_pos (by omega)], Nat.le_refl _, Nat.le_refl _⟩, by rw [t4, if_neg (by omega), if_pos rfl]; rfl, by rw [t4, if_pos rfl]⟩
    · subst ek
      have e7 := nb (g + 7) (by omega) (by omega)
      refine ⟨s1, s2, fun c hc => (s3 c hc).cg ⟨by rw [e7], by rw [e7]⟩ (by rw [nb (g + 6) (by omega) (by omega)]) (by rw [nb (g + 5) (by omega) (by omega)]) (fun i _ => ⟨by rw [nb (g + 8) (by omega) (by omega)], by rw [nb (g + 9) (by omega) (by omega)]⟩) (Nat.le_refl _) (Nat.le_refl _), by rw [e7]; exact s4, s5, fun j hj => ?_, by rw [t4, if_neg (by omega), if_neg (by omega)]; exact s7, by rw [t4, if_pos rfl]⟩
      by_cases y : j = k' + 1
      · rw [y]
        exact ⟨cc, cc, by rw [t4, if_neg (by omega), if_pos rfl], by rw [t4, if_pos rfl], Nat.le_refl _, Nat.le_refl _⟩
      · obtain ⟨a, b, f1, f2, f3, f4'⟩ := s6 j (by omega)
        refine ⟨a, b, by rw [t4, if_neg (by omega), if_neg (by omega)]; exact f1, ?_, f3, f4'⟩
        rw [t4, if_neg (by omega)]
        by_cases y2 : j + 1 = k' + 1
        · rw [if_pos y2, ← s8, ← y2]; exact f2
        · rw [if_neg y2]; exact f2
  have s12 : mI M12 (g + 10) 9 = mI M (g + 10) 9 := by rw [nb _ (by omega) (by omega)]
  have V12 := h4.2.2.1.2
  have F60 := cx.1.2.2.2.2
  have ge12 : gxe M12 g V cn S := ge.cg V12 (by rw [nb g (by omega) (by omega)]) (nb _ (by omega) (by omega)) (nb _ (by omega) (by omega))
  have t12 : xtm M12 g k = T := by
    rw [← hxt]
    rcases hgt with ⟨k0, -⟩ | ⟨k', ek, -, -, -, -, -, s6, -, s8⟩
    · subst k0; rfl
    · refine xtm_cg (cc := cc) k (fun j _ => by rw [nb _ (by omega) (by omega)]) (fun j hj => ?_) (fun j hj => ?_) (fun c' _ => cmm_eq (fun i i5 i9 => nb _ (by omega) (by omega)))
      · rw [t4, if_neg (by omega)]
        by_cases y : j = k
        · rw [if_pos y, y, ek, s8]
        · rw [if_neg y]
      · obtain ⟨x, y', f1, f2, f3, f4⟩ := s6 j (by omega)
        rw [f2, Int.toNat_natCast]
        exact f4
  have f12k : mI M12 (g + 4) k = ((cc : Nat) : Int) := by rw [t4, if_neg (by omega), if_pos rfl]
  have c12 : mI M12 g 12 = ((cc : Nat) : Int) ∧ mI M12 g 13 = ((bc : Nat) : Int) := by rw [nb g (by omega) (by omega)]; exact ⟨hcc, hbc⟩
  clear f4 f8 f12 ff t4 e4 e8 e12 nb
  obtain ⟨-, a2, a3, a4, a5, a6, a7, a8, a9, a10⟩ := id x12
  obtain ⟨b0, ⟨b1, -, -, -, -, -, -, -, -, b15, -⟩, ⟨bk1, -⟩, ⟨bn1, -⟩⟩ := id a2
  rw [b15, b1]
  have zU : g + 1 < mZ M12 ∧ g + 10 < mZ M12 := by have := a3.2.2.2.2.2.2.1.1; omega
  refine ⟨a3.1, ?_⟩
  refine k_Ma_enter o12 ⟨by omega, by omega⟩ ⟨a3.1, fun N2 e2 N4 e4 => ?_⟩
  have i4 : mI N4 (g + 10) 9 = mI M (g + 10) 9 := by rw [mI_ui _ _ e4, if_neg (fun t => absurd t.2 (by decide)), e2, mI_UR]; exact s12
  rw [i4]
  refine ⟨⟨by omega, by omega⟩, fun N7 e7 => ?_⟩
  have fu : FA (fun _ => False) (fun x => x = g + 10) M12 N2 := FA.ur rfl e2
  have c4 : FI (fun x => x = g + 10) N2 N4 := by rw [e4]; exact FI.ui rfl
  have c7 : FI (fun x => x = g + 10) N4 N7 := by rw [e7]; exact FI.ui rfl
  have cc7 := c4.trans c7
  have F7 : FA (fun x => x = g + 10) (fun x => x = g + 10) M12 N7 := (fu.mono (fun _ _ y => y.elim) (fun _ _ y => y)).trans (FI.fa cc7)
  have o7 : mOk N7 := by rw [e7]; exact mOk_UI (by rw [e4]; exact mOk_UI (by rw [e2]; exact mOk_UR o12) ⟨by omega, by omega⟩) ⟨by omega, by omega⟩
  have r7 : ∀ i, mR N7 (g + 10) i = if i = 3 then g + 1 else mR M12 (g + 10) i := fun i => by
    rw [cc7.2.2.1, e2, mR_UR]
    by_cases y : i = 3
    · rw [if_pos ⟨rfl, y⟩, if_pos y]
    · rw [if_neg (fun t => y t.2), if_neg y]
  have i7 : mI N7 (g + 10) 9 = mI M (g + 10) 9 + 1 ∧ mI N7 (g + 10) 4 = (k : Int) * 12 := by
    refine ⟨by rw [mI_ui _ _ e7, if_pos ⟨rfl, rfl⟩], by rw [mI_ui _ _ e7, if_neg (fun t => absurd t.2 (by decide)), mI_ui _ _ e4, if_pos ⟨rfl, rfl⟩]⟩
  have nb7 : ∀ x, x < mZ M12 → x ≠ g + 10 → mI N7 x = mI M12 x ∧ mR N7 x = mR M12 x := fun x hx hne => ⟨(F7.2 x hx).2.2.2.2 hne, (F7.2 x hx).2.2.2.1 hne⟩
  have Z7 : mZ N7 = mZ M12 ∧ mS N7 = mS M12 := by rw [cc7.2.2.2.2.1, cc7.2.2.2.2.2.1, e2]; exact ⟨rfl, rfl⟩
  have ne := x12.ne
  have cl : ∀ x, mK N7 x = mK M12 x ∧ mN N7 x = mN M12 x := fun x => by rw [cc7.1, cc7.2.1, e2]; exact ⟨rfl, rfl⟩
  have q7 : GQ N7 g cn k cc bc := q12.eq (fun i hi => (nb7 (g + i) (by have := a3.2.2.2.2.2.2.1.1; omega) (by omega)).1)
  have gs7 : (∀ j, j < k → GS1 N7 g j) ∧ mI N7 (g + 3) k = 0 := by
    have e9 : ∀ i, i ≤ 9 → mI N7 (g + i) = mI M12 (g + i) := fun i hi => (nb7 (g + i) (by have := a3.2.2.2.2.2.2.1.1; omega) (by omega)).1
    exact ⟨fun j hj => (gs12.1 j hj).cg (by rw [e9 2 (by omega)]) (by rw [e9 3 (by omega)]) (by rw [e9 4 (by omega)]) (by rw [e9 4 (by omega)]), by rw [e9 3 (by omega)]; exact gs12.2⟩
  have rg : mR N7 g = mR M12 g := (nb7 g (by omega) (by omega)).2
  have e79 : ∀ i, i ≤ 9 ∨ (20 ≤ i ∧ i ≤ 22) → mI N7 (g + i) = mI M12 (g + i) := fun i hi => (nb7 (g + i) (by have := a3.2.2.2.2.2.2.1.1; omega) (by omega)).1
  have e70 : mI N7 g = mI M12 g := (nb7 g (by omega) (by omega)).1
  have ge7 : gxe N7 g V cn S := ge12.cg V12 (by rw [e70]) (e79 1 (by omega)) (e79 20 (by omega))
  have t7x : xtm N7 g k = T := by rw [xtm_eq (fun i _ i9 => e79 i (by omega))]; exact t12
  have f7k : mI N7 (g + 4) k = ((cc : Nat) : Int) := by rw [e79 4 (by omega)]; exact f12k
  have cg7 : mI N7 g 12 = ((cc : Nat) : Int) ∧ mI N7 g 13 = ((bc : Nat) : Int) := by rw [e70]; exact c12
  have lsk : lsm M g V k = lsm N7 g V k := by
    have a := Sm9_get (M := M) (g := g) (V := V) hkn
    have b := Sm9_get (M := N7) (g := g) (V := V) hkn
    rw [ge.2.2] at a
    rw [ge7.2.2] at b
    rw [a] at b
    exact Option.some.inj b
  have mS7 : lsm M g V k ∈ S := by
    have a := Sm9_get (M := M) (g := g) (V := V) hkn
    rw [ge.2.2] at a
    exact List.mem_of_getElem? a
  have st7 : gst9 N7 g V F ns W pl nq sm N nms k (fun v => (lsm M g V k).getD v 0) := by
    refine ⟨by rw [i7.2]; omega, fun v hv => ?_, so _ mS7, fun x hx _ u => ?_⟩
    · rw [lsk]
      unfold lsm
      exact (getD_map (f := fun v => mI N7 (g + 1) (12 * k + v)) hv).symm
    · exfalso
      have l := a9 x (by omega)
      rw [show g + 15 = g + 10 + 5 by omega, s12] at l
      have e5 := (nb7 (g + 10 + 5) (by have := a3.2.2.2.2.2.2.1.1; omega) (by omega)).1
      rw [e5, i7.1] at u
      omega
  have x7 : GX M0 z g p O P K V F1 ns1 sf1 ef1 L cnt Ab0 Be0 C0 N7 Ab Be C := by
    have F9 : FA (gaS g Ab Be) (gaR g) M12 N7 := F7.mono (fun x _ y => Or.inl (by have y' : x = g + 10 := y; omega)) (fun x _ y => Or.inr y)
    refine ⟨o7, a2.eq2 (fun i _ => cl _) (fun i _ => by rw [rg]), ?_, a4.fa F9 ne.2.2.2 ne.1 ne.2.1 ne.2.2.1, ⟨by rw [rg]; exact a5.1, by rw [r7, if_neg (by decide)]; exact a5.2⟩, a6, fun x hx => ?_, a8.trans ⟨F9, ⟨Or.inl rfl, Or.inl rfl⟩, by rw [Z7.2], by rw [Z7.1]; exact Nat.le_refl _⟩, fun x hx => ?_, fun i hi => ?_⟩
    · obtain ⟨e1, ⟨e21, e22, e23, e24, e25, e26, e27, e28, e29⟩, ⟨e31, e32⟩, e41, e5, e6, ⟨z1, z2, z3, z4⟩, e8⟩ := a3
      refine ⟨by rw [(cl _).1]; exact e1, ⟨by rw [r7, if_pos rfl], by rw [r7, if_neg (by decide)]; exact e22, by rw [r7, if_neg (by decide)]; exact e23, by rw [r7, if_neg (by decide)]; exact e24, by rw [r7, if_neg (by decide)]; exact e25, by rw [r7, if_neg (by decide)]; exact e26, by rw [r7, if_neg (by decide)]; exact e27, by rw [r7, if_neg (by decide)]; exact e28, by rw [r7, if_neg (by decide)]; exact e29⟩, ?_, ?_, ?_, e6, ⟨by rw [Z7.1]; exact z1, by rw [Z7.1]; exact z2, by rw [Z7.1]; exact z3, by rw [Z7.1]; exact zU.1⟩, e8⟩
      · rw [(cl _).1, (cl _).1, (cl _).1, (cl _).1, (cl _).1, (cl _).1, (cl _).1, (cl _).1, (cl _).1]
        exact ⟨bk1, e32⟩
      · rw [(cl _).2, (cl _).2, (cl _).2, (cl _).2, (cl _).2, (cl _).2, (cl _).2, (cl _).2]
        exact e41
      · rw [i7.2, (cl _).2, bn1]
        omega
    · have l := a9 x hx.1
      rw [show g + 15 = g + 10 + 5 by omega] at l
      have e5 := (nb7 (g + 10 + 5) (by have := a3.2.2.2.2.2.2.1.1; omega) (by omega)).1
      rw [e5, i7.1]
      rw [s12] at l
      exact ⟨by omega, fun t => by omega⟩
    · have l := a9 x hx
      have e5 := (nb7 (g + 15) (by have := a3.2.2.2.2.2.2.1.1; omega) (by omega)).1
      rw [e5, i7.1]
      rw [s12] at l
      omega
    · have pz := a4.1.2.2.2.2.1.1
      have po := a4.1.2.2.2.1.2.2.2
      rw [(F9.2 (p + i) (by omega)).2.2.2.2 (ne.1 i hi)]
      exact a10 i hi
  clear x12 a2 a3 a4 a5 a6 a7 a8 a9 a10 F7 cc7 c4 c7 fu r7 nb7 ne cl rg Z7 q12 e2 e4 e7 i4
  obtain ⟨-, l2, l3, l4, l5, -⟩ := id x7
  obtain ⟨m0, ⟨-, m2, -, -, -, -, -, -, -, m15, -⟩, -, -⟩ := id l2
  obtain ⟨sT, e11, ruT⟩ := hT
  have e11 : mI N7 p 11 = ((sT : Nat) : Int) := by
    have a := gx_p x7 0 (by omega)
    rw [Nat.add_zero] at a
    rw [a]
    exact e11
  rw [l5.1, m15, e11]
  refine ⟨o7, m0, l4.1.1, l3.1, (x_Ga_run hF x7 cx st7 ruT).mono (fun x22 M21 kk => ?_)⟩
  obtain ⟨⟨i22, o21, hx22, A1, B1, C1, x21, f21, s21, -⟩, rx, st21x⟩ := kk
  have rx : rnx (g + 10) (evq W pl nq sm N nms (lsm M g V k) tg.1 tg.2) x22 M21 := rx
  obtain ⟨ce1, ce2⟩ := ga_ce x7 f21
  have q21 := q7.eq ce1
  have ce0 := ce1 0 (by omega)
  rw [Nat.add_zero] at ce0
  have ge21 : gxe M21 g V cn S := ge7.cg V12 (by rw [ce0]) (ce1 1 (by omega)) (ce1 20 (by omega))
  have t21x : xtm M21 g k = T := by rw [xtm_eq (fun i _ i9 => ce1 i (by omega))]; exact t7x
  have f21k : mI M21 (g + 4) k = ((cc : Nat) : Int) := by rw [ce1 4 (by omega)]; exact f7k
  have c21 : mI M21 g 12 = ((cc : Nat) : Int) ∧ mI M21 g 13 = ((bc : Nat) : Int) := by rw [ce0]; exact cg7
  have gs21 : (∀ j, j < k → GS1 M21 g j) ∧ mI M21 (g + 3) k = 0 := ⟨fun j hj => (gs7.1 j hj).cg (by rw [ce1 2 (by omega)]) (by rw [ce1 3 (by omega)]) (by rw [ce1 4 (by omega)]) (by rw [ce1 4 (by omega)]), by rw [ce1 3 (by omega)]; exact gs7.2⟩
  obtain ⟨-, y2, y3, y4, y5, -⟩ := id x21
  obtain ⟨w0, ⟨-, w2, -, -, -, -, -, -, -, w15, -⟩, ⟨-, wk2, -⟩, ⟨-, wn2, -⟩⟩ := id y2
  have mA := y3.2.1.2.2.1
  have kA := y3.2.2.1.2.2.1
  have nA := y3.2.2.2.1.2.1
  have c64 := y3.2.2.2.2.2.2.2.1
  have st21 : mI M21 (g + 10) 9 = mI M (g + 10) 9 + 1 := by rw [s21]; exact i7.1
  rw [w15, mA, nA, w2, wn2]
  refine ⟨i22, o21, fun y => ⟨w0, (x_Ga_machineFault o21 w0 w15 y3.1).mono (fun r M' q => ?_)⟩, fun y => ⟨w0, y3.1, kA, ⟨by omega, by omega⟩, fun v39 e39 => ⟨wk2, by omega, fun M45 e45 => ?_⟩⟩⟩
  · obtain ⟨q1, q2, ⟨q3, q4, q5⟩, q6⟩ := q
    obtain ⟨-, rx1, rx2, rx3⟩ := rx.resolve_right (fun u => by have := u.1; omega)
    have r0 : r ≠ 0 := by rw [q2, rx2]; exact rx1
    exact ⟨q1, q3, ⟨q1, ⟨A1, B1, C1, x21.fi q3 (q4.mono (fun x y => Or.inl (by have y' : x = g := y; omega)))⟩, by rw [q4.2.2.2.2.2.2 _ (show ¬ g + 10 = g by omega)]; exact st21, fun t => absurd t r0⟩, Or.inl ⟨r0, rx1, by rw [q2, rx2, q6, rx3]⟩⟩
  · have f45 : FI (fun x => x = g + 2) M21 M45 := by rw [e45]; exact FI.ui rfl
    have i39 : i32 v39 := by rw [e39]; split <;> exact ⟨by decide, by decide⟩
    have o45 : mOk M45 := by rw [e45]; exact mOk_UI o21 i39
    have nb2 : ∀ x, x ≠ g + 2 → mI M45 x = mI M21 x := fun x hx => f45.2.2.2.2.2.2 x hx
    obtain ⟨-, rx1, rx2, -⟩ := rx.resolve_left (fun u => y u.1)
    rw [mA] at rx2
    have e45k : mI M45 (g + 2) k = if (evq W pl nq sm N nms (lsm M g V k) tg.1 tg.2).2.1 = 0 then 0 else 3 := by
      rw [mI_ui _ k e45, if_pos ⟨rfl, rfl⟩, e39, rx2]
    have t45 : xtm M45 g k = T := by
      rw [← t21x]
      obtain ⟨-, -, -, -, -, -, -, -, t6, -⟩ := id q21
      refine xtm_cg (cc := cc) k (fun j hj => by rw [mI_ui _ j e45, if_neg (fun t => by have := t.2; omega)]) (fun j _ => by rw [nb2 _ (by omega)]) (fun j hj => ?_) (fun c' _ => cmm_eq (fun i i5 i9 => nb2 _ (by omega)))
      obtain ⟨x, y', f1, f2, f3, f4⟩ := t6 j (by omega)
      rw [f2, Int.toNat_natCast]
      exact f4
    refine ⟨⟨⟨by decide, by decide⟩, ⟨A1, B1, C1, x21.fi o45 (f45.mono (fun x y => Or.inl (by have y' : x = g + 2 := y; omega)))⟩, by rw [nb2 _ (by omega)]; exact st21, fun _ => ?_⟩, Or.inr ⟨rfl, rx1, ⟨rfl, so, ⟨cn, ge21.cg V12 (by rw [nb2 g (by omega)]) (nb2 _ (by omega)) (nb2 _ (by omega))⟩, t45, e45k, cc, cc, bc, by rw [nb2 _ (by omega)]; exact f21k, Nat.le_refl _, by rw [nb2 g (by omega)]; exact c21.1, by rw [nb2 g (by omega)]; exact c21.2, by rw [Nat.sub_self]; rfl, by rw [hnb]; rfl⟩, st21x.cg (fun i _ => by rw [nb2 _ (by omega)]) (fun v _ => by rw [nb2 _ (by omega)]) (nb2 _ (by omega)) (nb2 _ (by omega)) (nb2 _ (by omega))⟩⟩
    obtain ⟨⟨u1, u2, u3⟩, u4, u5, t1, t2, t3, t4, t5, t6, t7, t8⟩ := q21
    have n0 := nb2 g (by omega)
    have n4 := nb2 (g + 4) (by omega)
    have n7 := nb2 (g + 7) (by omega)
    refine ⟨⟨⟨by rw [n0]; exact u1, u2, fun i hi => by rw [nb2 _ (by omega)]; exact u3 i hi⟩, by rw [n0]; exact u4, by rw [n0]; exact u5, t1, t2, fun c hc => (t3 c hc).cg ⟨by rw [n7], by rw [n7]⟩ (by rw [nb2 _ (by omega)]) (by rw [nb2 _ (by omega)]) (fun i _ => ⟨by rw [nb2 _ (by omega)], by rw [nb2 _ (by omega)]⟩) (Nat.le_refl _) (Nat.le_refl _), by rw [n7]; exact t4, t5, by rw [n4]; exact t6, by rw [n4]; exact t7, by rw [n4]; exact t8⟩, fun j hj => ?_⟩
    by_cases y : j = k
    · subst y
      intro x1 y1 q1 q2
      have e2 : mI M45 (g + 2) j = v39 := by rw [mI_ui _ j e45, if_pos ⟨rfl, rfl⟩]
      rw [nb2 (g + 3) (by omega), gs21.2, e2, e39]
      refine ⟨⟨Int.le_refl _, Or.inr rfl⟩, fun w => ?_⟩
      exfalso
      clear t1 t2 t3 t4 t5 t6 t7 t8 u3
      split at w <;> omega
    · exact (gs21.1 j (by omega)).cg (by rw [mI_ui _ j e45, if_neg (fun t => y t.2)]) (by rw [nb2 (g + 3) (by omega)]) (by rw [n4]) (by rw [n4])
end GBM
end
section
/-! The class's game, exactly: discover. -/
section GBN
variable {ev : List Int → Nat → Nat → vrs} {stp : List Int → List (Nat × Nat × Nat × Nat) → (Int × Int) × List Int} {sg : List Int} {nb c f k : Nat} {cm : cm9} {s : sl9} {l cms : List cm9} {tg : Nat × Nat} {S : List (List Int)} {T : xt9}
theorem tsq_f (h : s.1.1 ≠ 0) : tsq9 ev stp sg nb l c s = s := by
  cases l with
  | nil => rfl
  | cons cm l => exact if_pos h
theorem tsq_c (h : s.1 = (0, 0)) : tsq9 ev stp sg nb (cm :: l) c s = tsq9 ev stp sg nb l (c + 1) (tcq9 ev stp sg nb c cm s) := if_neg (fun u => u (by rw [h]))
theorem tcq_k : (tcq9 ev stp sg nb c cm s).2.2.1 = s.2.2.1 ∨ (tcq9 ev stp sg nb c cm s).2.2.1 = cm.1 := by
  unfold tcq9
  repeat' split
  all_goals first | exact Or.inl rfl | exact Or.inr rfl
theorem ssq_f (h : (ev sg tg.1 tg.2).1 ≠ 0) : ssq9 ev stp tg cms sg nb S = (((ev sg tg.1 tg.2).1, (ev sg tg.1 tg.2).2.1), S, 0, []) := if_pos h
theorem ssq_t (h : (ev sg tg.1 tg.2).1 = 0) (h1 : (ev sg tg.1 tg.2).2.1 ≠ 0) : ssq9 ev stp tg cms sg nb S = ((0, 0), S, 3, []) := (if_neg (fun u => u h)).trans (if_pos h1)
theorem ssq_n (h : (ev sg tg.1 tg.2).1 = 0) (h1 : (ev sg tg.1 tg.2).2.1 = 0) : ssq9 ev stp tg cms sg nb S = tsq9 ev stp sg nb cms 0 ((0, 0), S, 0, []) := (if_neg (fun u => u h)).trans (if_neg (fun u => u h1))
theorem exq_n (h : S[k]? = none) : exq9 ev stp tg cms (f + 1) k S T = ((0, 0), k, S, T) := by
  rw [exq9, h]
theorem exq_f (h : S[k]? = some sg) (h1 : (ssq9 ev stp tg cms sg (nbx9 T) S).1.1 ≠ 0) : exq9 ev stp tg cms (f + 1) k S T = ((ssq9 ev stp tg cms sg (nbx9 T) S).1, k, [], []) := by
  rw [exq9, h]
  exact if_pos h1
theorem exq_s (h : S[k]? = some sg) (h1 : (ssq9 ev stp tg cms sg (nbx9 T) S).1.1 = 0) : exq9 ev stp tg cms (f + 1) k S T = exq9 ev stp tg cms f (k + 1) (ssq9 ev stp tg cms sg (nbx9 T) S).2.1 (T ++ [((ssq9 ev stp tg cms sg (nbx9 T) S).2.2.1, (ssq9 ev stp tg cms sg (nbx9 T) S).2.2.2)]) := by
  rw [exq9, h]
  exact if_neg (fun u => u h1)
end GBN
/-- what discover comes to -/
def dcX (X : (Int × Int) × Nat × List (List Int) × xt9) (g V : Nat) (r : Int) (M' : mM) : Prop := (r ≠ 0 ∧ X.1 = (r, mI M' g 10) ∧ mI M' g 11 = ((X.2.1 : Nat) : Int)) ∨ (r = 0 ∧ X.1 = (0, 0) ∧ ∃ cn : Nat, gxe M' g V cn X.2.2.1 ∧ xtm M' g cn = X.2.2.2)
section GBO
variable {G : mG} {d z g p O P K V F L cnt U w9 Ab Be C Ab0 Be0 C0 n N c cn k cc bc : Nat} {M0 M M' : mM} {ns : Nat → Int} {sf ef : Nat → Nat} {F1 : Nat} {ns1 : Nat → Int} {sf1 ef1 : Nat → Nat} {W pl nq : Nat → Int} {sm : Nat → Nat → Prop} {nms : List nm9} {T : xt9} {tg : Nat × Nat} {cms : List cm9} {sgL : List Int} {RS : sl9} {X : (Int × Int) × Nat × List (List Int) × xt9}
theorem x_dc96 (hF : FMx G) (cx : gcx M0 g p O P L V F Ab0 Be0 ns sf ef W pl nq sm N n nms) (px : PGx M0 p O P L V cnt W pl nq sm n ns ef nms tg cms) {st : Int} (hXf : RS.1.1 ≠ 0 → X = (RS.1, k, [], [])) (nx : ∀ (M : mM) (Ab Be C cn cc bc : Nat), GX M0 z g p O P K V F1 ns1 sf1 ef1 L cnt Ab0 Be0 C0 M Ab Be C → GQ M g cn k cc bc ∧ GS M g k → k < cn → mI M (g + 10) 9 = st + k + 1 → RS.1 = (0, 0) → SoO nms RS.2.1 → gxe M g V cn RS.2.1 → xtm M g (k + 1) = T ++ [(RS.2.2.1, RS.2.2.2)] → nbx9 (T ++ [(RS.2.2.1, RS.2.2.2)]) = bc → h_Ga_discover_72 G (d + 6) g ((k : Int) + 1) M (fun r M' => dcQ M0 z g p O P K V F1 ns1 sf1 ef1 L cnt Ab0 Be0 C0 st r M' ∧ dcX X g V r M')) (hk : k < 512) (hst0 : 0 ≤ st) : ∀ (t i : Nat) (M : mM) (Ab Be C cn cc bc : Nat) (r : Int), cnt ≤ i + t → i ≤ cnt → i32 r → GX M0 z g p O P K V F1 ns1 sf1 ef1 L cnt Ab0 Be0 C0 M Ab Be C → mI M (g + 10) 9 = st + k + 1 → (r = 0 → (GQ M g cn k cc bc ∧ GS M g k) ∧ k < cn) → (r = 0 → ∃ s, GQe M g V nms k T s ∧ gst9 M g V F ns W pl nq sm N nms k (fun v => sgL.getD v 0) ∧ ((s.2.2.1 = 3 ∧ RS = s) ∨ (s.2.2.1 ≠ 3 ∧ RS = tsq9 (evq W pl nq sm N nms) (stpq W pl nq sm N nms V (mI M0 (p + 3)) (mI M0 (p + 4))) sgL (nbx9 T) (cms.drop i) i s))) → (r ≠ 0 → RS.1 = (r, mI M g 10)) → h_Ga_discover_96 G (d + 6) g k r i M (fun r M' => dcQ M0 z g p O P K V F1 ns1 sf1 ef1 L cnt Ab0 Be0 C0 st r M' ∧ dcX X g V r M') := by
  intro t
  obtain ⟨vo, -, -, hlen, hcC⟩ := px
  have fin : ∀ {i : Nat} {M : mM} {Ab Be C cn cc bc : Nat} {r : Int}, i32 r → GX M0 z g p O P K V F1 ns1 sf1 ef1 L cnt Ab0 Be0 C0 M Ab Be C → mI M (g + 10) 9 = st + k + 1 → (r = 0 → (GQ M g cn k cc bc ∧ GS M g k) ∧ k < cn) → (r = 0 → cnt ≤ i ∨ mI M (g + 2) k = 3) → (r = 0 → ∃ s, GQe M g V nms k T s ∧ gst9 M g V F ns W pl nq sm N nms k (fun v => sgL.getD v 0) ∧ ((s.2.2.1 = 3 ∧ RS = s) ∨ (s.2.2.1 ≠ 3 ∧ RS = tsq9 (evq W pl nq sm N nms) (stpq W pl nq sm N nms V (mI M0 (p + 3)) (mI M0 (p + 4))) sgL (nbx9 T) (cms.drop i) i s))) → (r ≠ 0 → RS.1 = (r, mI M g 10)) → ((r = 0) → (h_Ga_discover_72 G (d + 6) g ((k : Int) + 1) M (fun r M' => dcQ M0 z g p O P K V F1 ns1 sf1 ef1 L cnt Ab0 Be0 C0 st r M' ∧ dcX X g V r M'))) ∧ (¬ (r = 0) → (∀ M52, M52 = mUI M g 11 k → Cv G y_Ga_clear (d + 6) [vr g] M52 (fun M54 => mOk M54 ∧ (dcQ M0 z g p O P K V F1 ns1 sf1 ef1 L cnt Ab0 Be0 C0 st r M54 ∧ dcX X g V r M54)))) := fun {i M Ab Be C cn cc bc r} ir hx hst hq hex he hne => by
    refine ⟨fun r0 => ?_, fun r0 M52 e52 => ?_⟩
    · obtain ⟨s, q1, q2, q3⟩ := he r0
      have eRS : RS = s := by
        rcases q3 with q3 | ⟨q3, q4⟩
        · exact q3.2
        · rcases hex r0 with y | y
          · rw [q4, List.drop_eq_nil_of_le (by omega)]
            rfl
          · rw [q1.2.2.2.2.1] at y
            exact absurd y q3
      obtain ⟨x1, x2, ⟨cnx, x3⟩, x4, x5, fcx, ccx, bcx, x6, x7, x8, x9, x10, x11⟩ := q1
      obtain ⟨⟨hQ, hS⟩, hkn⟩ := hq r0
      obtain ⟨⟨u1, -, -⟩, u4, u5, -, -, -, -, -, -, -, t8⟩ := id hQ
      have ecn : cnx = cn := by have a := x3.1; rw [u1] at a; omega
      have ecc : ccx = cc := by rw [u4] at x8; omega
      have ebc : bcx = bc := by rw [u5] at x9; omega
      subst ecn
      subst ecc
      subst ebc
      refine nx M Ab Be C cnx ccx bcx hx ⟨hQ, hS⟩ hkn hst (by rw [eRS]; exact x1) (by rw [eRS]; exact x2) (by rw [eRS]; exact x3) ?_ ?_
      · show xtm M g k ++ [stm M g k] = _
        rw [x4, eRS]
        unfold stm
        rw [x5, x6, t8, Int.toNat_natCast, Int.toNat_natCast, x10]
      · rw [nbx_app, eRS]
        show nbx9 T + (nbq9 s.2.2.2 + 0) = bcx
        omega
    · have f52 : FI (fun x => x = g) M M52 := by rw [e52]; exact FI.ui rfl
      have o52 : mOk M52 := by rw [e52]; exact mOk_UI hx.1 ⟨by omega, by omega⟩
      refine (s_Ga_clear o52 (by rw [f52.1]; exact hx.2.1.1)).mono (fun M54 q => ?_)
      obtain ⟨q1, q2, q3⟩ := q
      have ff := f52.trans q2
      refine ⟨q1, ⟨ir, ⟨g + 1, 1, Ab, Be, C, Or.inl rfl, hx.fi q1 (ff.mono (fun x y => Or.inl (by have y' : x = g := y; omega)))⟩, ?_, fun t => absurd t r0, fun _ => ⟨by rw [q3, if_neg (by decide), if_neg (by decide), if_pos rfl], by rw [q3, if_neg (by decide), if_pos rfl], by rw [q3, if_pos rfl]⟩⟩, Or.inl ⟨r0, ?_, ?_⟩⟩
      · rw [ff.2.2.2.2.2.2 _ (show ¬ g + 10 = g by omega), hst]
        omega
      · have a := hne r0
        rw [hXf (by rw [a]; exact r0), a, q3, if_neg (by decide), if_neg (by decide), if_neg (by decide), mI_ui g 10 e52, if_neg (fun t => absurd t.2 (by decide))]
      · have a := hne r0
        rw [hXf (by rw [a]; exact r0), q3, if_neg (by decide), if_neg (by decide), if_neg (by decide), mI_ui g 11 e52, if_pos ⟨rfl, rfl⟩]
  induction t with
  | zero =>
    intro i M Ab Be C cn cc bc r ht hi ir hx hst hq he hne
    obtain ⟨h1, h2, h3, h4, h5, -⟩ := id hx
    have c12 := h4.2.2.2.2.1.1
    have c60 := h4.2.2.2.2.1.2
    refine k_Ga_discover_96 h1 (i32s (by omega) (by omega)) ir (i32s (by omega) (by omega)) ?_
    rw [h5.1, c12]
    exact ⟨h2.1, h4.1.1, fun y => absurd y (by omega), fun _ => fin ir hx hst hq (fun _ => Or.inl (by omega)) he hne, fun y => absurd (Or.inl (by omega)) y⟩
  | succ t ih =>
    intro i M Ab Be C cn cc bc r ht hi ir hx hst hq he hne
    obtain ⟨h1, h2, h3, h4, h5, -⟩ := id hx
    obtain ⟨g0, ⟨-, r2, -⟩, ⟨-, k2, -⟩, ⟨-, n2, -⟩⟩ := id h2
    have c12 := h4.2.2.2.2.1.1
    have c60 := h4.2.2.2.2.1.2
    refine k_Ga_discover_96 h1 (i32s (by omega) (by omega)) ir (i32s (by omega) (by omega)) ?_
    rw [h5.1, c12, r2, n2, Int.toNat_natCast]
    refine ⟨g0, h4.1.1, fun _ _ => ⟨k2, by omega⟩, fun y => fin ir hx hst hq (fun r0 => ?_) he hne, fun y => ?_⟩
    · rcases y with y | y | y
      · exact Or.inl (by omega)
      · exact absurd r0 y
      · exact Or.inr y
    have r0 : r = 0 := Classical.byContradiction (fun t => y (Or.inr (Or.inl t)))
    have k3 : mI M (g + 2) k ≠ 3 := fun t => y (Or.inr (Or.inr t))
    have ic : i < cnt := by
      by_cases t : ((cnt : Nat) : Int) ≤ i
      · exact absurd (Or.inl t) y
      · omega
    obtain ⟨q1, q2⟩ := hq r0
    obtain ⟨s, v1, v2, v3⟩ := he r0
    have s3 : s.2.2.1 ≠ 3 := by rw [← v1.2.2.2.2.1]; exact k3
    have eRS := (v3.resolve_left (fun a => s3 a.1)).2
    obtain ⟨cm, hcm⟩ : ∃ cm, cms[i]? = some cm := ⟨cms[i], List.getElem?_eq_getElem (by omega)⟩
    have hdr : cms.drop i = cm :: cms.drop (i + 1) := by
      rw [List.drop_eq_getElem_cons (by omega)]
      rw [List.getElem?_eq_getElem (by omega)] at hcm
      rw [Option.some.inj hcm]
    have cC := hcC i cm hcm
    rw [hdr, tsq_c v1.1] at eRS
    refine (x_Ga_tryCommand hF cx vo cC hx v2 v1 q2 ic hk q1.1 q1.2).mono (fun r' M' q => ?_)
    obtain ⟨⟨w1, ⟨A', B', C', w2⟩, w3, w4⟩, w5⟩ := q
    rw [show ((i : Int) + 1) = ((i + 1 : Nat) : Int) by omega]
    by_cases e : r' = 0
    · obtain ⟨cn', cc', bc', y5, y6, y7, y8, y9⟩ := w4 e
      obtain ⟨-, z1, z2⟩ := w5.resolve_left (fun a => a.1 e)
      refine ⟨w1, w2.1, ih (i + 1) M' A' B' C' cn' cc' bc' r' (by omega) (by omega) w1 w2 (by rw [w3]; exact hst) (fun _ => ⟨⟨⟨⟨y5.1, y5.2.2.1, y5.2.2.2⟩, y6, y7, y8⟩, y9⟩, by omega⟩) (fun _ => ⟨_, z1, z2, Or.inr ⟨?_, eRS⟩⟩) (fun t => absurd e t)⟩
      rcases tcq_k (ev := evq W pl nq sm N nms) (stp := stpq W pl nq sm N nms V (mI M0 (p + 3)) (mI M0 (p + 4))) (sg := sgL) (nb := nbx9 T) (c := i) (cm := cm) (s := s) with a | a
      · rw [a]; exact s3
      · rw [a]
        have := cC.2.1
        omega
    · obtain ⟨-, z1⟩ := w5.resolve_right (fun a => e a.1)
      exact ⟨w1, w2.1, ih (i + 1) M' A' B' C' cn cc bc r' (by omega) (by omega) w1 w2 (by rw [w3]; exact hst) (fun t => absurd t e) (fun t => absurd t e) (fun _ => by rw [eRS, tsq_f (by rw [z1]; exact e)]; exact z1)⟩
theorem x_dc72 (hF : FMx G) (cx : gcx M0 g p O P L V F Ab0 Be0 ns sf ef W pl nq sm N n nms) (px : PGx M0 p O P L V cnt W pl nq sm n ns ef nms tg cms) {st : Int} (hst0 : 0 ≤ st ∧ st < 100000000) : ∀ (t k : Nat) (M : mM) (U w9 Ab Be C cn cc bc : Nat) (S : List (List Int)) (T : xt9), 512 ≤ k + t → k ≤ 512 → (U = g + 1 ∨ U = g + 11) → GY U w9 M0 z g p O P K V F1 ns1 sf1 ef1 L cnt Ab0 Be0 C0 M Ab Be C → cn ≤ 512 → 1 ≤ cn → k ≤ cn → mI M g 12 = ((cc : Nat) : Int) → mI M g 13 = ((bc : Nat) : Int) → ((k = 0 ∧ cc = 0 ∧ bc = 0) ∨ (∃ k', k = k' + 1 ∧ GT M g cn k' cc bc ∧ GS M g k')) → mI M (g + 10) 9 = st + k → SoO nms S → gxe M g V cn S → xtm M g k = T → nbx9 T = bc → X = exq9 (evq W pl nq sm N nms) (stpq W pl nq sm N nms V (mI M0 (p + 3)) (mI M0 (p + 4))) tg cms (513 - k) k S T → h_Ga_discover_72 G (d + 6) g k M (fun r M' => dcQ M0 z g p O P K V F1 ns1 sf1 ef1 L cnt Ab0 Be0 C0 st r M' ∧ dcX X g V r M') := by
  intro t
  have done : ∀ {k : Nat} {M : mM} {U w9 Ab Be C cn cc bc : Nat} {S : List (List Int)} {T : xt9}, k ≤ 512 → (U = g + 1 ∨ U = g + 11) → GY U w9 M0 z g p O P K V F1 ns1 sf1 ef1 L cnt Ab0 Be0 C0 M Ab Be C → cn ≤ 512 → 1 ≤ cn → cn = k → mI M g 12 = ((cc : Nat) : Int) → mI M g 13 = ((bc : Nat) : Int) → ((k = 0 ∧ cc = 0 ∧ bc = 0) ∨ (∃ k', k = k' + 1 ∧ GT M g cn k' cc bc ∧ GS M g k')) → mI M (g + 10) 9 = st + k → gxe M g V cn S → xtm M g k = T → X = exq9 (evq W pl nq sm N nms) (stpq W pl nq sm N nms V (mI M0 (p + 3)) (mI M0 (p + 4))) tg cms (513 - k) k S T → dcQ M0 z g p O P K V F1 ns1 sf1 ef1 L cnt Ab0 Be0 C0 st 0 M ∧ dcX X g V 0 M := fun {k M U w9 Ab Be C cn cc bc S T} hk hU hx hcn h1c hck hcc hbc hgt hst ge hxt hX => by
    have hsl : SLt M g cn := fun i hi => (ge.2.1.1.1 i hi).imp id (fun ⟨k, k1, k2⟩ => ⟨by omega, by omega⟩)
    refine ⟨⟨⟨by decide, by decide⟩, ⟨U, w9, Ab, Be, C, hU, hx⟩, by rw [hst]; omega, fun _ => ?_, fun t => absurd rfl t⟩, Or.inr ⟨rfl, ?_⟩⟩
    · rcases hgt with ⟨k0, -⟩ | ⟨k', ek, gt⟩
      · omega
      · exact ⟨cn, cc, bc, h1c, ⟨⟨ge.1, hcn, hsl⟩, hcc, hbc, by rw [show cn - 1 = k' by omega]; exact gt.1⟩, by rw [show cn - 1 = k' by omega]; exact gt.2⟩
    · have sn : S[k]? = none := by
        rw [← ge.2.2, List.getElem?_eq_none_iff, Sm9_len]
        omega
      rw [show 513 - k = (512 - k) + 1 by omega, exq_n sn] at hX
      rw [hX]
      exact ⟨rfl, cn, ge, by rw [hck]; exact hxt⟩
  induction t with
  | zero =>
    intro k M U w9 Ab Be C cn cc bc S T ht hk hU hx hcn h1c hkc hcc hbc hgt hst so ge hxt hnb hX
    refine k_Ga_discover_72 hx.1 (i32s (by omega) (by omega)) ⟨hx.2.1.1, fun _ => done hk hU hx hcn h1c (by omega) hcc hbc hgt hst ge hxt hX, fun y => absurd (Or.inr (by omega)) y⟩
  | succ t ih =>
    intro k M U w9 Ab Be C cn cc bc S T ht hk hU hx hcn h1c hkc hcc hbc hgt hst so ge hxt hnb hX
    refine k_Ga_discover_72 hx.1 (i32s (by omega) (by omega)) ?_
    rw [ge.1]
    refine ⟨hx.2.1.1, fun y => done hk hU hx hcn h1c (by omega) hcc hbc hgt hst ge hxt hX, fun y => ?_⟩
    have k5 : k < 512 ∧ k < cn := by omega
    have hsl : SLt M g cn := fun i hi => (ge.2.1.1.1 i hi).imp id (fun ⟨k, k1, k2⟩ => ⟨by omega, by omega⟩)
    have hSk : S[k]? = some (lsm M g V k) := by rw [← ge.2.2]; exact Sm9_get k5.2
    rw [show 513 - k = (512 - k) + 1 by omega] at hX
    refine (x_Ga_lookAt (d := d + 1) hF cx px.2.2.1 so ge k5.2 hxt hnb hU hx k5.1 ⟨ge.1, hcn, hsl⟩ hcc hbc (by rw [hst]; clear hgt; omega) (hgt.imp id (fun ⟨k', e, q⟩ => ⟨k', e, q.1⟩)) (fun j hj => by
      rcases hgt with ⟨k0, -⟩ | ⟨k', ek, -, q⟩
      · omega
      · exact q j (by omega))).mono (fun r M' q => ?_)
    obtain ⟨⟨w1, ⟨A', B', C', w2⟩, w3, w4⟩, w5⟩ := q
    rw [hst] at w3
    refine ⟨w1, w2.1, x_dc96 (RS := ssq9 (evq W pl nq sm N nms) (stpq W pl nq sm N nms V (mI M0 (p + 3)) (mI M0 (p + 4))) tg cms (lsm M g V k) (nbx9 T) S) (T := T) (sgL := lsm M g V k) hF cx px (fun hf => by rw [hX, exq_f hSk hf]) (fun M2 A2 B2 C2 cn2 cc2 bc2 y1 y2 y3 y4 y5 y6 y7 y8 y9 => ?_) k5.1 hst0.1 cnt 0 M' A' B' C' cn cc bc r (by omega) (by omega) w1 w2 w3 (fun r0 => ⟨w4 r0, k5.2⟩) (fun r0 => ?_) (fun r0 => ?_)⟩
    · rw [show ((k : Int) + 1) = ((k + 1 : Nat) : Int) by omega]
      obtain ⟨⟨z1, z2, z3, z4⟩, z5⟩ := y2
      exact ih (k + 1) M2 (g + 1) 1 A2 B2 C2 cn2 cc2 bc2 _ _ (by omega) (by omega) (Or.inl rfl) y1 z1.2.1 (by omega) (by omega) z2 z3 (Or.inr ⟨k, rfl, z4, z5⟩) (by rw [y4]; omega) y6 y7 y8 y9 (by rw [hX, exq_s hSk (by rw [y5]), show 513 - (k + 1) = 512 - k by omega])
    · obtain ⟨-, e1, e2, e3⟩ := w5.resolve_left (fun a => a.1 r0)
      refine ⟨_, e2, e3, ?_⟩
      by_cases y0 : (evq W pl nq sm N nms (lsm M g V k) tg.1 tg.2).2.1 = 0
      · rw [if_pos y0]
        exact Or.inr ⟨by show (0 : Int) ≠ 3; decide, ssq_n e1 y0⟩
      · rw [if_neg y0]
        exact Or.inl ⟨rfl, ssq_t e1 y0⟩
    · obtain ⟨-, e1, e2⟩ := w5.resolve_right (fun a => r0 a.1)
      rw [ssq_f e1]
      exact e2
end GBO
end
section
/-! The class's game, exactly: discover, the whole. -/
section GBP
variable {G : mG} {d z g p O P K V F L cnt U Ab Be C n N : Nat} {M : mM} {ns : Nat → Int} {sf ef : Nat → Nat} {F1 : Nat} {ns1 : Nat → Int} {sf1 ef1 : Nat → Nat} {W pl nq : Nat → Int} {sm : Nat → Nat → Prop} {nms : List nm9} {tg : Nat × Nat} {cms : List cm9}
theorem x_Ga_discover (hF : FMx G) (hz : GZ M z g p O P K V F1 ns1 sf1 ef1 L cnt U Ab Be C) (cx : gcx M g p O P L V F Ab Be ns sf ef W pl nq sm N n nms) (px : PGx M p O P L V cnt W pl nq sm n ns ef nms tg cms) : Ci G y_Ga_discover (d + 7) [vr g, vr p] M (fun r M' => dcQ M z g p O P K V F1 ns1 sf1 ef1 L cnt Ab Be C (mI M (g + 10) 9) r M' ∧ dcX (xpl9 (evq W pl nq sm N nms) (stpq W pl nq sm N nms V (mI M (p + 3)) (mI M (p + 4))) tg cms ((List.range V).map (mI M (p + 5)))) g V r M') := by
  obtain ⟨h1, h2, h3, hU, h4, ⟨h61, h62, h63⟩, h7, h8⟩ := hz
  obtain ⟨o1, o2, -, o4⟩ := h4.1.2.2.2.1
  obtain ⟨a1, a2, a3, a4⟩ := h3.2.2.2.2.2.1
  have ne := ga_ne h61 h62 h63 o1 o2 o4 a1 a2
  have z1 := h3.2.2.2.2.2.2.1.1
  have zg : g < mZ M ∧ g + 10 < mZ M ∧ ∀ i, i ≤ 22 → g + i < mZ M := ⟨by omega, by omega, fun i hi => by omega⟩
  have pz : ∀ i, i ≤ 15 → p + i < mZ M := fun i hi => by omega
  have pg : ∀ i j, i ≤ 15 → j ≤ 22 → p + i ≠ g + j := fun i j hi hj => by omega
  refine k_Ga_discover h1 ⟨h2.1, (s_Ga_clear h1 h2.1).mono (fun M2 q => ?_)⟩
  obtain ⟨q1, q2, q3⟩ := q
  refine ⟨q1, by rw [q2.1]; exact h2.1, fun M6 e6 => ?_⟩
  have f6 : FA (fun _ => False) (fun x => x = g) M2 M6 := FA.ur rfl e6
  have r6 : ∀ y i, mR M6 y i = if y = g ∧ i = 14 then p else mR M y i := fun y i => by rw [e6, mR_UR, q2.2.2.1]
  have kn6 : ∀ y, mK M6 y = mK M y ∧ mN M6 y = mN M y ∧ mI M6 y = mI M2 y := fun y => by rw [e6]; exact ⟨by rw [mK_UR, q2.1], by rw [mN_UR, q2.2.1], by rw [mI_UR]⟩
  have r615 : mR M6 g 15 = g + 10 := by rw [r6, if_neg (fun t => absurd t.2 (by decide))]; exact h2.2.1.2.2.2.2.2.2.2.2.2.1
  rw [r615, r6 g 14, if_pos ⟨rfl, rfl⟩]
  refine ⟨by rw [(kn6 _).1]; exact h3.1, fun M9 e9 => ?_⟩
  have r9 : ∀ y i, mR M9 y i = if y = g + 10 ∧ i = 0 then p else if y = g ∧ i = 14 then p else mR M y i := fun y i => by rw [e9, mR_UR, r6]
  have kn9 : ∀ y, mK M9 y = mK M y ∧ mN M9 y = mN M y ∧ mI M9 y = mI M2 y := fun y => by rw [e9]; exact ⟨by rw [mK_UR, (kn6 y).1], by rw [mN_UR, (kn6 y).2.1], by rw [mI_UR, (kn6 y).2.2]⟩
  have z9 : mZ M9 = mZ M ∧ mS M9 = mS M := by rw [e9, mZ_UR, mS_UR, e6, mZ_UR, mS_UR, q2.2.2.2.2.1, q2.2.2.2.2.2.1]; exact ⟨rfl, rfl⟩
  have o9 : mOk M9 := by rw [e9]; exact mOk_UR (by rw [e6]; exact mOk_UR q1)
  have F9 : FA (gaS g Ab Be) (gaR g) M M9 := by
    have b2 : FA (gaS g Ab Be) (gaR g) M M2 := (FI.fa q2).mono (fun x _ y => Or.inl (by have y' : x = g := y; omega)) (fun x _ y => y)
    exact (b2.trans2 f6 (fun _ _ y => y.elim) (fun x _ y => Or.inl y)).trans2 (FA.ur (S := fun _ => False) (R := fun x => x = g + 10) rfl e9) (fun _ _ y => y.elim) (fun x _ y => Or.inr y)
  have g16 : mR M9 g 16 = g + 20 := by rw [r9, if_neg (fun t => absurd t.2 (by decide)), if_neg (fun t => absurd t.2 (by decide))]; exact h2.2.1.2.2.2.2.2.2.2.2.2.2.1
  have k20 := h2.2.2.1.2.2.2.2.2.2.2.2.2.1
  have n20 := h2.2.2.2.2.2.2.2.2.2.2.2.2.1
  rw [g16]
  refine (s_JA_fill (v := -1) o9 (by rw [(kn9 _).1]; exact k20) (by rw [(kn9 _).2.1, n20]; omega) ⟨by decide, by decide⟩).mono (fun M11 q => ?_)
  obtain ⟨o11, f11, v11⟩ := q
  rw [(kn9 _).2.1, n20] at v11
  have r11 : mR M11 g 15 = g + 10 := by rw [f11.2.2.1, r9, if_neg (fun t => absurd t.2 (by decide)), if_neg (fun t => absurd t.2 (by decide))]; exact h2.2.1.2.2.2.2.2.2.2.2.2.1
  have r11m : mR M11 (g + 10) 5 = g + 12 := by rw [f11.2.2.1, r9, if_neg (fun t => absurd t.2 (by decide)), if_neg (fun t => absurd t.2 (by decide))]; exact h3.2.1.2.1
  have km2 := h3.2.2.1.2.1
  have nm2 := h3.2.2.2.1.1
  rw [r11, r11m]
  refine ⟨o11, by rw [f11.1, (kn9 _).1]; exact h2.1, by rw [f11.1, (kn9 _).1]; exact h3.1, (s_JA_fill (v := 0) o11 (by rw [f11.1, (kn9 _).1]; exact km2) (by rw [f11.2.1, (kn9 _).2.1]; exact (by rw [nm2]; omega)) ⟨by decide, by decide⟩).mono (fun M16 q => ?_)⟩
  obtain ⟨o16, f16, -⟩ := q
  have fa16 : FI (fun x => x = g + 20 ∨ x = g + 12) M9 M16 := (f11.mono (fun _ y => Or.inl y)).trans (f16.mono (fun _ y => Or.inr y))
  have rp : ∀ i, mR M16 p i = mR M p i := fun i => by rw [fa16.2.2.1, r9, if_neg (fun t => pg 0 10 (by omega) (by omega) t.1), if_neg (fun t => pg 0 0 (by omega) (by omega) t.1)]
  have r1614 : mR M16 g 14 = p := by rw [fa16.2.2.1, r9, if_neg (fun t => absurd t.2 (by decide)), if_pos ⟨rfl, rfl⟩]
  have r1615 : mR M16 g 15 = g + 10 := by rw [f16.2.2.1]; exact r11
  have r16m : mR M16 (g + 10) 5 = g + 12 := by rw [f16.2.2.1]; exact r11m
  have p6 := h4.1.2.2.2.2.2.2.1.2.2.1
  have kp6 := h4.1.2.2.2.2.2.2.2.1.2.2.1
  have np6 := h4.1.2.2.2.2.2.2.2.2.2.2.1
  have i16 : ∀ x, x ≠ g + 20 → x ≠ g + 12 → x ≠ g → mI M16 x = mI M x := fun x a b c => by rw [fa16.2.2.2.2.2.2 x (fun y => y.elim a b), (kn9 x).2.2, q2.2.2.2.2.2.2 x c]
  have p3 : mI M16 p 3 = ((V : Nat) : Int) := by rw [i16 p (pg 0 20 (by omega) (by omega)) (pg 0 12 (by omega) (by omega)) (pg 0 0 (by omega) (by omega))]; exact h4.2.2.1.1
  have V12 := h4.2.2.1.2
  rw [r1614, r1615, rp 6, p6, r16m, p3, fa16.1, fa16.2.1, (kn9 _).1, (kn9 _).1, (kn9 _).1, (kn9 _).1, (kn9 _).1, (kn9 _).2.1, (kn9 _).2.1]
  refine ⟨o16, h2.1, h4.1.1, h3.1, kp6, km2, ⟨by omega, by omega, by omega, by rw [np6]; omega, by rw [nm2]; omega⟩, fun M25 e25 => ?_⟩
  have f25 : FI (fun x => x = g + 12) M16 M25 := by
    rw [e25]
    refine ⟨rfl, rfl, rfl, rfl, rfl, rfl, fun x hx => ?_⟩
    funext j
    exact if_neg (fun t => hx t.1)
  have o25 : mOk M25 := by rw [e25]; exact mOk_Cpy o16
  have fa25 : FI (fun x => x = g + 20 ∨ x = g + 12) M9 M25 := fa16.trans (f25.mono (fun _ y => Or.inr y))
  have i25 : ∀ x, x ≠ g + 20 → x ≠ g + 12 → x ≠ g → mI M25 x = mI M x := fun x a b c => by rw [f25.2.2.2.2.2.2 x b, i16 x a b c]
  have r25 : ∀ y i, mR M25 y i = if y = g + 10 ∧ i = 0 then p else if y = g ∧ i = 14 then p else mR M y i := fun y i => by rw [fa25.2.2.1, r9]
  have kn25 : ∀ y, mK M25 y = mK M y ∧ mN M25 y = mN M y := fun y => ⟨by rw [fa25.1, (kn9 y).1], by rw [fa25.2.1, (kn9 y).2.1]⟩
  have z25 : mZ M25 = mZ M ∧ mS M25 = mS M := ⟨by rw [fa25.2.2.2.2.1]; exact z9.1, by rw [fa25.2.2.2.2.2.1]; exact z9.2⟩
  have F25 : FA (gaS g Ab Be) (gaR g) M M25 := F9.trans2 (FI.fa (R := fun _ => False) fa25) (fun x _ y => Or.inl (by have y' : x = g + 20 ∨ x = g + 12 := y; omega)) (fun _ _ y => y.elim)
  have ig : ∀ i, mI M25 g i = mI M2 g i := fun i => by rw [fa25.2.2.2.2.2.2 g (fun y => by have y' : g = g + 20 ∨ g = g + 12 := y; omega), (kn9 g).2.2]
  have y25 : GY U 0 M z g p O P K V F1 ns1 sf1 ef1 L cnt Ab Be C M25 Ab Be C := by
    refine ⟨o25, h2.eq2 (fun i _ => kn25 _) (fun i hi => by rw [r25, if_neg (fun t => absurd t.1 (by omega)), if_neg (fun t => hi t.2)]), h3.eq2 (fun x _ => kn25 x) (fun i hi => by rw [r25, if_neg (fun t => absurd t.2 (by omega)), if_neg (fun t => absurd t.1 (by omega))]) (by rw [i25 (g + 10) (by omega) (by omega) (by omega)]) (by rw [z25.1]; exact Nat.le_refl _), h4.fa F25 ne.2.2.2 ne.1 ne.2.1 ne.2.2.1, ⟨by rw [r25, if_neg (fun t => absurd t.1 (by omega)), if_pos ⟨rfl, rfl⟩], by rw [r25, if_pos ⟨rfl, rfl⟩]⟩, ⟨h61, h62, h63⟩, fun x hx => absurd hx.2 (by decide), ⟨F25, ⟨Or.inl rfl, Or.inl rfl⟩, by rw [z25.2], by rw [z25.1]; exact Nat.le_refl _⟩, fun x hx => by rw [i25 (g + 15) (by omega) (by omega) (by omega), i25 (g + 10) (by omega) (by omega) (by omega)]; exact h7 x hx, fun i hi => by rw [i25 _ (pg i 20 hi (by omega)) (pg i 12 hi (by omega)) (pg i 0 hi (by omega))]⟩
  have s25 : SLt M25 g 0 := fun i hi => Or.inl (by rw [f25.2.2.2.2.2.2 _ (show ¬ g + 20 = g + 12 by omega), f16.2.2.2.2.2.2 _ (show ¬ g + 20 = g + 12 by omega)]; exact v11 i hi)
  have st25 : mI M25 (g + 10) 9 = mI M (g + 10) 9 := by rw [i25 (g + 10) (by omega) (by omega) (by omega)]
  have c0 : mI M25 g 0 = ((0 : Nat) : Int) := by rw [ig, q3, if_neg (by decide), if_neg (by decide), if_pos rfl]; rfl
  have c12 : mI M25 g 12 = ((0 : Nat) : Int) := by rw [ig, q3, if_neg (by decide), if_pos rfl]; rfl
  have c13 : mI M25 g 13 = ((0 : Nat) : Int) := by rw [ig, q3, if_pos rfl]; rfl
  have slm25 : SLm M25 g V 0 := ⟨SLq.nil (fun j hj => by
    rw [f25.2.2.2.2.2.2 _ (show ¬ g + 20 = g + 12 by omega), f16.2.2.2.2.2.2 _ (show ¬ g + 20 = g + 12 by omega)]
    exact v11 j hj), fun i j hi => absurd hi (by omega)⟩
  have nx25 : nxm M25 g V = (List.range V).map (mI M (p + 5)) := by
    unfold nxm
    refine List.map_congr_left (fun v hv => ?_)
    have hv := List.mem_range.mp hv
    rw [e25]
    show (if g + 10 + 2 = g + 12 ∧ Int.toNat 0 ≤ v ∧ v < Int.toNat 0 + Int.toNat ((V : Nat) : Int) then mI M16 (p + 5) (Int.toNat 0 + (v - Int.toNat 0)) else mI M16 (g + 10 + 2) v) = _
    rw [if_pos ⟨rfl, Nat.zero_le _, by show v < 0 + V; omega⟩, i16 (p + 5) (pg 5 20 (by omega) (by omega)) (pg 5 12 (by omega) (by omega)) (pg 5 0 (by omega) (by omega))]
    show mI M (p + 5) (0 + (v - 0)) = _
    rw [Nat.zero_add, Nat.sub_zero]
  refine (x_Ga_enter (d := d + 4) y25 c0 (by omega) slm25).mono (fun x28 M27 q => ?_)
  obtain ⟨⟨x27, f27, r27, cn', cn27, -, cn5', sl27, hto, i28, hm1⟩, ex⟩ := q
  have ge27 : cn' = 1 ∧ gxe M27 g V cn' [(List.range V).map (mI M (p + 5))] := by
    rcases ex with ⟨k', e1, -⟩ | ⟨no, ⟨e1, -⟩ | ⟨e1, e2, e3, e4, e5, e6⟩⟩
    · omega
    · omega
    · have cc' : cn' = 1 := by rw [cn27] at e3; omega
      subst cc'
      refine ⟨rfl, e3, e4, ?_⟩
      rw [Sm9_s e5 V12 e6, nx25]
      rfl
  obtain ⟨ecn, ge27⟩ := ge27
  refine ⟨i28, x27.1, ?_⟩
  have s27 : mI M27 (g + 10) 9 = mI M (g + 10) 9 + ((0 : Nat) : Int) := by
    rw [f27.2.2.2.2.2.2 (g + 10) (fun y => by have y' : g + 10 = g ∨ g + 10 = g + 1 ∨ g + 10 = g + 20 := y; omega), st25]
    omega
  refine x_dc72 hF cx px h8 512 0 M27 U 0 Ab Be C cn' 0 0 [(List.range V).map (mI M (p + 5))] [] (by omega) (by omega) hU x27 cn5' (by omega) (by omega) (by rw [r27 12 (by decide)]; exact c12) (by rw [r27 13 (by decide)]; exact c13) (Or.inl ⟨rfl, rfl, rfl⟩) s27 (fun s hs => ?_) ge27 rfl rfl rfl
  rw [List.mem_singleton.mp hs]
  intro l1 e l2 he h3
  have e9 : vcn (e :: l2) = vcn l2 + 1 := by
    show vcn l2 + (if e.2.1 = 3 then 1 else 0) = _
    rw [if_pos h3]
  have vl : vcn l1 < V := by
    rw [← cx.2.2.2.2.2, he, vcn_app, e9]
    omega
  have eq9 := getD_map (f := mI M (p + 5)) vl
  show (((List.range V).map (mI M (p + 5))).getD (vcn l1) 0).natAbs ≤ 999999999 ∧ (e.2.2.1 = 1 → ((List.range V).map (mI M (p + 5))).getD (vcn l1) 0 = 0 ∨ ((List.range V).map (mI M (p + 5))).getD (vcn l1) 0 = 1)
  rw [eq9]
  exact px.2.1 l1 e l2 he h3
end GBP
end
section
/-! The reference: what names are worth in a state. -/
section XVA
variable {G : mG} {d a g R W T V X n : Nat} {M M2 M3 : mM} {P S : Nat → Prop} {xv : Int → vrs}
/-- xv tells what names are worth: consts, met formulas, vars -/
def XVq (M : mM) (a g R W : Nat) (xv : Int → vrs) : Prop := (∀ r : Nat, r < R → (mI M (g + 13) r = 0 → xv (r : Int) = vr9 (tn M g r) (mL M (g + 16) r) (mL M (g + 17) r)) ∧ (mI M (g + 13) r ≠ 0 → mI M (a + 102) r ≠ 0 → xv (r : Int) = vr9 (tn M g r) (mL M (a + 103) r) (mL M (a + 104) r))) ∧ ∀ v : Nat, v < W → xv (100 + (v : Int)) = vr9 (tn M g (100 + (v : Int))) (mI M (a + 101) v) (if mI M (g + 18) v = 0 then 1 else 0)
/-- what a word is worth -/
def cvn9 (ww : Nat → Int) (xv : Int → vrs) (nv : Nat → Int) (k : Nat) : vrs := if ww k = 1 then xv (nv k) else if ww k = 2 then (0, nv k, 1) else if ww k = 12 then (0, 1, 1) else (0, 0, 1)
noncomputable abbrev vlX (ww pl : Nat → Int) (xv : Int → vrs) (nv : Nat → Int) (r : Nat × Nat) : vrs := vlr ww (cvn9 ww xv nv) pl r
noncomputable abbrev vfX (ww pl : Nat → Int) (xv : Int → vrs) (nv : Nat → Int) (rs : List (Nat × Nat)) : vrs := vft ww (cvn9 ww xv nv) pl rs
/-- what the trees stand for: intervals of words -/
def TBy9 (ww pl : Nat → Int) (M : mM) (g : Nat) (nv : Nat → Int) (md : Nat) (rs : List (Nat × Nat)) (n e : Nat) : Prop := (∀ r, r ∈ rs → Eo ww 6 r.1 r.2) ∧ if md = 0 then ∃ i j, rs = [(i, j)] ∧ Td ww pl nv (so M g) (pm M g) (va M g) (fp M g) (np M g) 0 0 i j n e else rs.length = md ∧ Tbq ww pl nv (so M g) (pm M g) (va M g) (fp M g) (np M g) (-1) rs n e
/-- the values are what the rules are worth -/
def woX (ww pl : Nat → Int) (xv : Int → vrs) (nv : Nat → Int) (a V : Nat) (rs : List (Nat × Nat)) (u : Nat → Int) (M3 : mM) : Prop := (vfX ww pl xv nv rs).1 = 0 ∧ ∀ j, j < rs.length → vlX ww pl xv nv (rs.getD j (0, 0)) = vr9 (u j) (mL M3 (a + 97) (V + j)) (mL M3 (a + 98) (V + j))
/-- the formulas' trees, and what they are worth -/
def FmX (ww pl : Nat → Int) (xv : Int → vrs) (M : mM) (g R : Nat) (E : Nat → Nat) : Prop := ∀ r : Nat, r < R → mI M (g + 13) r ≠ 0 → ∃ (n : Nat) (nv : Nat → Int) (i j : Nat), mI M (g + 15) r = (n : Int) ∧ Eo ww 6 i j ∧ Td ww pl nv (so M g) (pm M g) (va M g) (fp M g) (np M g) 0 0 i j n (E r) ∧ xv (r : Int) = vlq ww (cvn9 ww xv nv) pl 0 0 i j
theorem XVq.st (hg : g = a + 13 ∨ g = a + 49) (w : Wd M a) (m : Mv P S M a M3) (hP : ∀ q, P q → q = a + 99) (hS : ∀ x, S x → vS a x) (h : XVq M a g R W xv) : XVq M3 a g R W xv := by
  have hin : ∀ q, P q → q ∈ nums a := fun q hq => by rw [hP q hq]; exact n99
  have hS' : ∀ x, S x → woS a x := fun x z => by
    have : x = a ∨ x = a + 97 ∨ x = a + 98 := hS _ z
    show x = a ∨ x = a + 97 ∨ x = a + 98 ∨ x = a + 102 ∨ x = a + 103 ∨ x = a + 104
    omega
  have gs := gs_mv hg w m hin hS'
  have no : ∀ i, 102 ≤ i → i ≤ 104 → ¬ S (a + i) := fun i i1 i2 z => by
    have : a + i = a ∨ a + i = a + 97 ∨ a + i = a + 98 := hS _ z
    omega
  have c102 := (m.cellL w hin (offx (a := a) (o := 102) (by decide)) (no 102 (by omega) (by omega))).1
  have c103 := (m.cellL w hin (offx (a := a) (o := 103) (by decide)) (no 103 (by omega) (by omega))).2
  have c104 := (m.cellL w hin (offx (a := a) (o := 104) (by decide)) (no 104 (by omega) (by omega))).2
  have gt := gs.tyn
  obtain ⟨g13, g14, g15, g18, g16, g17, g101⟩ := gs
  unfold XVq
  rw [gt, g13, g16, g17, c102, c103, c104, g18, g101]
  exact h
theorem XVq.pile (hg : g = a + 13 ∨ g = a + 49) (w : Wd M a) (m : Mv (fun x => x = a + 99) (fun _ => False) M a M3) (h : XVq M a g R W xv) : XVq M3 a g R W xv := h.st hg w m (fun q hq => hq) (fun x hx => hx.elim)
/-- a formula's value is kept -/
theorem XVq.met {r : Nat} {A B : Int} {M4 M5 M6 : mM} (hg : g = a + 13 ∨ g = a + 49) (h : XVq M3 a g R W xv) (hv : xv (r : Int) = vr9 (tn M3 g r) A B) (e4 : M4 = mUI M3 (a + 102) r 1) (e5 : M5 = mUL M4 (a + 103) r A) (e6 : M6 = mUL M5 (a + 104) r B) : XVq M6 a g R W xv := by
  have iI : ∀ x k, ¬ (x = a + 102 ∧ k = r) → mI M6 x k = mI M3 x k := fun x k hx => by
    rw [e6, e5, e4]
    show mI (mUI M3 (a + 102) r 1) x k = _
    rw [mI_UI, if_neg hx]
  have lL : ∀ x k, ¬ (x = a + 103 ∧ k = r) → ¬ (x = a + 104 ∧ k = r) → mL M6 x k = mL M3 x k := fun x k h1 h2 => by
    rw [e6, mL_UL, if_neg h2, e5, mL_UL, if_neg h1, e4]
    rfl
  have l3 : mL M6 (a + 103) r = A := by rw [e6, mL_UL, if_neg (fun z => by omega), e5, mL_UL, if_pos ⟨rfl, rfl⟩]
  have l4 : mL M6 (a + 104) r = B := by rw [e6, mL_UL, if_pos ⟨rfl, rfl⟩]
  have gt : tn M6 g = tn M3 g := by
    funext v
    unfold tn
    rw [iI _ _ (by omega), iI _ _ (by omega)]
  refine ⟨fun r' hr' => ?_, fun v hv' => ?_⟩
  · obtain ⟨h1, h2⟩ := h.1 r' hr'
    rw [gt, iI (g + 13) r' (by omega), lL (g + 16) r' (by omega) (by omega), lL (g + 17) r' (by omega) (by omega)]
    refine ⟨h1, fun z1 z2 => ?_⟩
    by_cases y : r' = r
    · rw [y, l3, l4]
      exact hv
    · rw [iI (a + 102) r' (fun u => y u.2)] at z2
      rw [lL (a + 103) r' (fun u => y u.2) (by omega), lL (a + 104) r' (by omega) (fun u => y u.2)]
      exact h2 z1 z2
  · rw [gt, iI (a + 101) v (by omega), iI (g + 18) v (by omega)]
    exact h.2 v hv'
theorem x_MM_nameT {v : Int} (hx : XVq M a g R W xv) (h : Ev True M a g R W T) (hvn : nme True M g R W v) (hV : mI M a 23 = (V : Int)) (hb : V < 16400) (hl : ln M (a + 99) = (X : Int)) (hX : X ≤ 64000) : Cv G y_MM_name (d + 2) [vr a, vr g, vi v] M (fun M' => mOk M' ∧ ((∃ A B : Int, vok (tn M g v) A B ∧ psQ M a V A B M' ∧ vr9 (tn M g v) A B = xv v) ∨ nfQ True M a g X v M')) := by
  have hv : (0 ≤ v ∧ v < R) ∨ (100 ≤ v ∧ v < 100 + W) := hvn.elim (fun z => Or.inl ⟨z.1, z.2.1⟩) (fun z => Or.inr z.2)
  obtain ⟨hO, w, hg, hn, hB, hr, hw⟩ := h
  have gp := w.gp hg
  have r7 : mR M g 7 = g + 13 := gp.2.1.2.2.2.2.2.2.1
  have r9 : mR M g 9 = g + 15 := gp.2.1.2.2.2.2.2.2.2.2.1
  have r10 : mR M g 10 = g + 16 := gp.2.1.2.2.2.2.2.2.2.2.2.1
  have r11 : mR M g 11 = g + 17 := gp.2.1.2.2.2.2.2.2.2.2.2.2
  have r13 : mR M g 13 = g + 18 := gp.2.2.1.1
  have B := w.1.2.2.2.2.1.2.2.2.2.2.2.2.2.2
  have r25 : mR M a 25 = a + 101 := B.1
  have r26 : mR M a 26 = a + 102 := B.2.1
  have r27 : mR M a 27 = a + 103 := B.2.2.1
  have r28 : mR M a 28 = a + 104 := B.2.2.2
  have A8 := w.1.2.2.2.2.2.2.2.1
  have g13 := gp.2.2.2.1.1
  have g15 := gp.2.2.2.1.2.2.1
  have g16 := gp.2.2.2.1.2.2.2.1
  have g17 := gp.2.2.2.1.2.2.2.2
  have g18 := gp.2.2.2.2.1.1
  refine k_MM_name hO ⟨by omega, by omega⟩ ?_
  rw [r7, r10, r11, r13, r25, r26, r27, r28]
  refine ⟨fun q => ?_, fun q => ?_⟩
  · have hvr : v.toNat < R := by omega
    obtain ⟨b1, b2⟩ := hr v.toNat hvr
    obtain ⟨x1, x2⟩ := hx.1 v.toNat hvr
    rw [show ((v.toNat : Nat) : Int) = v by omega] at b1 b2 x1 x2
    refine ⟨gp.1, g13.1, by rw [g13.2]; omega, fun z => ⟨g16.1, by rw [g16.2]; omega, g17.1, by rw [g17.2]; omega, w.1.1, (s_MM_push (hO _ _).2 (hO _ _).2 hO w hV hb).mono (fun M' t => ⟨t.1, t.1, Or.inl ⟨_, _, b1 z, t.2, (x1 z).symm⟩⟩)⟩, fun z => ⟨w.1.1, A8.2.2.2.1.1, by rw [A8.2.2.2.1.2]; omega, fun z2 => ?_, fun z2 => ⟨A8.2.2.2.2.1.1, by rw [A8.2.2.2.2.1.2]; omega, A8.2.2.2.2.2.1, by rw [A8.2.2.2.2.2.2]; omega, (s_MM_push (hO _ _).2 (hO _ _).2 hO w hV hb).mono (fun M' t => ⟨t.1, t.1, Or.inl ⟨_, _, b2 trivial z z2, t.2, (x2 z z2).symm⟩⟩)⟩⟩⟩
    refine (s_MM_todo (d := d) ⟨by omega, by omega⟩ ⟨by omega, by omega⟩ hO w hl (by omega)).mono (fun M2 t => ?_)
    obtain ⟨o2, m2, l2, e2, x2', y2⟩ := t
    have w2 := m2.2.1
    have gp2 := w2.gp hg
    have q15 := goff15 hg
    have c15 := m2.cell w (fun q hq => by rw [hq]; exact n99) q15.1 q15.2.1 q15.2.2 (fun z => z)
    rw [show mR M2 g 9 = g + 15 from gp2.2.1.2.2.2.2.2.2.2.2.1, c15]
    refine ⟨o2, gp2.1, gp2.2.2.2.1.2.2.1.1, by rw [gp2.2.2.2.1.2.2.1.2]; omega, w2.1.1, (s_MM_todo (d := d) ⟨by omega, by omega⟩ (hO _ _).1 o2 w2 l2 (by omega)).mono (fun M3 t => ?_)⟩
    obtain ⟨o3, m3, l3, e3, x3, y3⟩ := t
    exact ⟨o3, o3, Or.inr ⟨trivial, q, z, z2, m2.trans m3, by rw [l3], fun j hj => by rw [e3 j (by omega), e2 j hj], by rw [e3 X (by omega)]; exact x2', by rw [e3 (X + 1) (by omega)]; exact y2, x3, y3⟩⟩
  · have b := hw trivial (v - 100).toNat (by omega)
    have x := hx.2 (v - 100).toNat (by omega)
    rw [show (100 : Int) + ((v - 100).toNat : Nat) = v by omega] at b x
    refine ⟨w.1.1, A8.2.2.1.1, by rw [A8.2.2.1.2]; omega, gp.1, g18.1, by rw [g18.2]; omega, fun u hu => ?_⟩
    rw [← hu] at b x
    have i1 := (hO (a + 101) (v - 100).toNat).1
    exact (s_MM_push ⟨by have := i1.1; omega, by have := i1.2; omega⟩ ⟨by split at hu <;> omega, by split at hu <;> omega⟩ hO w hV hb).mono (fun M' t => ⟨t.1, t.1, Or.inl ⟨_, _, b, t.2, x.symm⟩⟩)
theorem x_bg_leafT {t : Int} (hx : XVq M a g R W xv) (h : Ev True M a g R W T) (hn : n < T) (hs : so M g n = 1 ∨ so M g n = 2 ∨ so M g n = 12 ∨ so M g n = 13) (h2 : so M g n = 2 → 0 ≤ va M g n ∧ va M g n < 1000000000) (h1 : so M g n = 1 → nme True M g R W (va M g n)) (ht : tyn (tn M g) (so M g n) (va M g n) 0 (fun _ => 0) t) (hV : mI M a 23 = (V : Int)) (hb : V < 16400) (hl : ln M (a + 99) = (X : Int)) (hX : X ≤ 64000) : Cv G y_MM_begin (d + 3) [vr a, vr g, vi n] M (fun M' => mOk M' ∧ ((∃ A B : Int, vok t A B ∧ psQ M a V A B M' ∧ (if so M g n = 1 then xv (va M g n) else if so M g n = 2 then (0, va M g n, 1) else if so M g n = 12 then (0, 1, 1) else (0, 0, 1)) = vr9 t A B) ∨ (so M g n = 1 ∧ t = tn M g (va M g n) ∧ nfQ True M a g X (va M g n) M'))) := by
  obtain ⟨hO, w, -⟩ := id h
  unfold tyn at ht
  refine s_bg h hn (fun q => ?_) (fun q => ?_) (fun q => ?_) (fun q => by omega) (fun q => by omega)
  · rw [if_pos q] at ht
    refine (x_MM_nameT (d := d) hx h (h1 q) hV hb hl hX).mono (fun M' t' => ⟨t'.1, t'.1, ?_⟩)
    rcases t'.2 with ⟨A, B, y1, y2, y3⟩ | y
    · exact Or.inl ⟨A, B, by rw [ht]; exact y1, y2, by rw [if_pos q, ht]; exact y3.symm⟩
    · exact Or.inr ⟨q, ht, y⟩
  · rw [if_neg (by omega), if_pos q] at ht
    have := h2 q
    exact (s_MM_push ⟨by omega, by omega⟩ ⟨by omega, by omega⟩ hO w hV hb).mono (fun M' t' => ⟨t'.1, t'.1, Or.inl ⟨_, _, Or.inl ⟨ht, by omega, by omega, by omega, by omega⟩, t'.2, by rw [if_neg (by omega), if_pos q]; unfold vr9; rw [ht]; rfl⟩⟩)
  · rw [if_neg (by omega), if_neg (by omega), if_pos q] at ht
    refine (s_MM_pushTruth (d := d + 1) ⟨by split <;> omega, by split <;> omega⟩ hO w hV hb).mono (fun M' t' => ⟨t'.1, t'.1, Or.inl ⟨_, _, Or.inr ⟨ht, ?_, rfl⟩, t'.2, ?_⟩⟩)
    · generalize (if so M g n = 12 then (1 : Int) else 0) = b
      by_cases z : b = 0
      · rw [if_pos z]; exact Or.inl rfl
      · rw [if_neg z]; exact Or.inr rfl
    · rw [if_neg (show ¬ so M g n = 1 by omega), if_neg (show ¬ so M g n = 2 by omega)]
      unfold vr9
      rw [ht]
      by_cases z : so M g n = 12
      · simp [z]
      · simp [z]
end XVA
end
