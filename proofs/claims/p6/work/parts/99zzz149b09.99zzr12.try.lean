/-! The class's game, exactly: tryCommand, the whole. -/
section GBK
variable {ev : List Int → Nat → Nat → vrs} {stp : List Int → List (Nat × Nat × Nat × Nat) → (Int × Int) × List Int} {sg : List Int} {nb c : Nat} {cm : cm9} {s : sl9}
theorem tcq_f (h : (ev sg cm.2.2.1.1 cm.2.2.1.2).1 ≠ 0) : tcq9 ev stp sg nb c cm s = (((ev sg cm.2.2.1.1 cm.2.2.1.2).1, (ev sg cm.2.2.1.1 cm.2.2.1.2).2.1), s.2) := if_pos h
theorem tcq_0 (h : (ev sg cm.2.2.1.1 cm.2.2.1.2).1 = 0) (h0 : (ev sg cm.2.2.1.1 cm.2.2.1.2).2.1 = 0) : tcq9 ev stp sg nb c cm s = s := (if_neg (fun u => u h)).trans (if_pos h0)
theorem tcq_m (h : (ev sg cm.2.2.1.1 cm.2.2.1.2).1 = 0) (h0 : (ev sg cm.2.2.1.1 cm.2.2.1.2).2.1 ≠ 0) (h1 : s.2.2.1 ≠ 0 ∧ s.2.2.1 ≠ cm.1) : tcq9 ev stp sg nb c cm s = ((13, cm.2.1), s.2) := (if_neg (fun u => u h)).trans ((if_neg h0).trans (if_pos h1))
theorem tcq_c (h : (ev sg cm.2.2.1.1 cm.2.2.1.2).1 = 0) (h0 : (ev sg cm.2.2.1.1 cm.2.2.1.2).2.1 ≠ 0) (h1 : ¬ (s.2.2.1 ≠ 0 ∧ s.2.2.1 ≠ cm.1)) (h2 : (chq9 ev sg cm.2.2.2).1.1 ≠ 0) : tcq9 ev stp sg nb c cm s = ((chq9 ev sg cm.2.2.2).1, s.2) := (if_neg (fun u => u h)).trans ((if_neg h0).trans ((if_neg h1).trans (if_pos h2)))
theorem tcq_u (h : (ev sg cm.2.2.1.1 cm.2.2.1.2).1 = 0) (h0 : (ev sg cm.2.2.1.1 cm.2.2.1.2).2.1 ≠ 0) (h1 : ¬ (s.2.2.1 ≠ 0 ∧ s.2.2.1 ≠ cm.1)) (h2 : (chq9 ev sg cm.2.2.2).1.1 = 0) (h3 : muq9 (chq9 ev sg cm.2.2.2).2 1 = 0) : tcq9 ev stp sg nb c cm s = ((6, cm.2.1), s.2) := (if_neg (fun u => u h)).trans ((if_neg h0).trans ((if_neg h1).trans ((if_neg (fun u => u h2)).trans (if_pos h3))))
theorem tcq_s (h : (ev sg cm.2.2.1.1 cm.2.2.1.2).1 = 0) (h0 : (ev sg cm.2.2.1.1 cm.2.2.1.2).2.1 ≠ 0) (h1 : ¬ (s.2.2.1 ≠ 0 ∧ s.2.2.1 ≠ cm.1)) (h2 : (chq9 ev sg cm.2.2.2).1.1 = 0) (h3 : muq9 (chq9 ev sg cm.2.2.2).2 1 ≠ 0) (h4 : smq9 (muq9 (chq9 ev sg cm.2.2.2).2 1) (chq9 ev sg cm.2.2.2).2 ≠ muq9 (chq9 ev sg cm.2.2.2).2 1) : tcq9 ev stp sg nb c cm s = ((11, cm.2.1), s.2) := (if_neg (fun u => u h)).trans ((if_neg h0).trans ((if_neg h1).trans ((if_neg (fun u => u h2)).trans ((if_neg h3).trans (if_pos h4)))))
theorem tcq_e (h : (ev sg cm.2.2.1.1 cm.2.2.1.2).1 = 0) (h0 : (ev sg cm.2.2.1.1 cm.2.2.1.2).2.1 ≠ 0) (h1 : ¬ (s.2.2.1 ≠ 0 ∧ s.2.2.1 ≠ cm.1)) (h2 : (chq9 ev sg cm.2.2.2).1.1 = 0) (h3 : muq9 (chq9 ev sg cm.2.2.2).2 1 ≠ 0) (h4 : smq9 (muq9 (chq9 ev sg cm.2.2.2).2 1) (chq9 ev sg cm.2.2.2).2 = muq9 (chq9 ev sg cm.2.2.2).2 1) {fl : (Int × Int) × List (List Int) × List (Nat × Int)} (hf : flq9 stp sg cm.2.1 (muq9 (chq9 ev sg cm.2.2.2).2 1) (nb + nbq9 s.2.2.2) (cm.2.2.2.zip (chq9 ev sg cm.2.2.2).2) s.2.1 [] = fl) : tcq9 ev stp sg nb c cm s = (fl.1, fl.2.1, cm.1, s.2.2.2 ++ [(c, muq9 (chq9 ev sg cm.2.2.2).2 1, fl.2.2)]) := by
  rw [← hf]
  exact (if_neg (fun u => u h)).trans ((if_neg h0).trans ((if_neg h1).trans ((if_neg (fun u => u h2)).trans ((if_neg h3).trans (if_neg (fun u => u h4))))))
end GBK
section GBL
variable {G : mG} {d z g p O P K V F L cnt U Ab Be C Ab0 Be0 C0 n N c cn k u v cc bc bc0 mu cn0 fc a : Nat} {M0 M M' MB : mM} {ns : Nat → Int} {sf ef : Nat → Nat} {F1 : Nat} {ns1 : Nat → Int} {sf1 ef1 : Nat → Nat} {W pl nq : Nat → Int} {sm : Nat → Nat → Prop} {nms : List nm9} {sgL : List Int} {R s : sl9} {T : xt9} {cm : cm9}
theorem cmm_eq (e : ∀ i, 5 ≤ i → i ≤ 9 → mI M' (g + i) = mI M (g + i)) : cmm M' g c = cmm M g c := by
  unfold cmm
  rw [e 5 (by omega) (by omega), e 6 (by omega) (by omega), e 7 (by omega) (by omega), brl_cg (M' := M') (M := M) _ (fun i _ _ => ⟨by rw [e 8 (by omega) (by omega)], by rw [e 9 (by omega) (by omega)]⟩)]
theorem xtm_eq (e : ∀ i, 2 ≤ i → i ≤ 9 → mI M' (g + i) = mI M (g + i)) : ∀ k, xtm M' g k = xtm M g k
  | 0 => rfl
  | k + 1 => by
    show xtm M' g k ++ [stm M' g k] = xtm M g k ++ [stm M g k]
    rw [xtm_eq e k]
    unfold stm
    rw [e 2 (by omega) (by omega), e 4 (by omega) (by omega), cml_cg (M' := M') (M := M) _ (fun c _ _ => cmm_eq (fun i i5 i9 => e i (by omega) i9))]
theorem GQe.eq (h : GQe M g V nms k T s) (hV : V ≤ 12) (e : ∀ i, i ≤ 9 ∨ (20 ≤ i ∧ i ≤ 22) → mI M' (g + i) = mI M (g + i)) : GQe M' g V nms k T s := by
  have e0 := e 0 (by omega)
  rw [Nat.add_zero] at e0
  have e29 : ∀ i, 2 ≤ i → i ≤ 9 → mI M' (g + i) = mI M (g + i) := fun i _ i9 => e i (by omega)
  obtain ⟨h1, h2, ⟨cn, h3⟩, h4, h5, fc, cc, bc, h6, h7, h8, h9, h10, h11⟩ := h
  exact ⟨h1, h2, ⟨cn, h3.cg hV (by rw [e0]) (e 1 (by omega)) (e 20 (by omega))⟩, by rw [xtm_eq e29]; exact h4, by rw [e 2 (by omega)]; exact h5, fc, cc, bc, by rw [e 4 (by omega)]; exact h6, h7, by rw [e0]; exact h8, by rw [e0]; exact h9, by rw [cml_cg (M' := M') (M := M) _ (fun c _ _ => cmm_eq (fun i i5 i9 => e29 i (by omega) i9))]; exact h10, h11⟩
theorem x_tc_bad {l5 l6 r : Int} (i5 : i32 l5) (i6 : i32 l6) (hx : GX M0 z g p O P K V F1 ns1 sf1 ef1 L cnt Ab0 Be0 C0 M Ab Be C) (hk : k < 512) (hc : c < 60) (hcc : mI M g 12 = ((cc : Nat) : Int)) (hcc2 : cc ≤ 4096) (hs : mI M (g + 10) 9 = mI MB (g + 10) 9) (ir : i32 r) (hr : r ≠ 0) (hR : R.1 = (r, mI M g 10)) : h_Ga_tryCommand_146 G (d + 5) g k c r l5 l6 M (fun r M' => tcQ M0 z g p O P K V F1 ns1 sf1 ef1 L cnt Ab0 Be0 C0 MB k cn r M' ∧ tcX R T g V F ns W pl nq sm N nms k sgL r M') := by
  obtain ⟨h1, h2, h3, h4, h5, -⟩ := id hx
  obtain ⟨g0, ⟨-, -, -, g4, -, -, g7, -⟩, ⟨-, -, -, k4, -, -, k7, -⟩, ⟨-, -, -, n4, -, -, n7, -⟩⟩ := id h2
  refine k_Ga_tryCommand_146 h1 (i32s (by omega) (by omega)) (i32s (by omega) (by omega)) ir i5 i6 ⟨fun _ => ?_, fun y => absurd (Or.inr hr) y⟩
  rw [hcc]
  refine ⟨g0, ⟨by omega, by omega⟩, fun M84 e84 => ?_⟩
  have f84 : FI (fun x => x = g) M M84 := by rw [e84]; exact FI.ui rfl
  have c84 : mI M84 g 12 = ((cc + 1 : Nat) : Int) := by rw [mI_ui g 12 e84, if_pos ⟨rfl, rfl⟩]; omega
  have o84 : mOk M84 := by rw [e84]; exact mOk_UI h1 ⟨by omega, by omega⟩
  rw [f84.1, f84.2.1, f84.2.2.1, g7, n7, c84, Int.toNat_natCast]
  refine ⟨k7, by omega, fun M88 e88 => ?_⟩
  have f88 : FI (fun x => x = g + 7) M84 M88 := by rw [e88]; exact FI.ui rfl
  have o88 : mOk M88 := by rw [e88]; exact mOk_UI o84 (o84 _ _).1
  rw [f88.1, f88.2.1, f88.2.2.1, f84.1, f84.2.1, f84.2.2.1, g4, n4, show Int.toNat ((k : Int) + 1) = k + 1 by omega]
  refine ⟨k4, by omega, fun M92 e92 => ?_⟩
  have f92 : FI (fun x => x = g + 4) M88 M92 := by rw [e92]; exact FI.ui rfl
  have ff : FI (fun x => x = g ∨ x = g + 7 ∨ x = g + 4) M M92 := ((f84.mono (fun _ y => Or.inl y)).trans (f88.mono (fun _ y => Or.inr (Or.inl y)))).trans (f92.mono (fun _ y => Or.inr (Or.inr y)))
  have o92 : mOk M92 := by rw [e92]; exact mOk_UI o88 (o88 _ _).1
  have i10 : mI M92 g 10 = mI M g 10 := by
    rw [f92.2.2.2.2.2.2 g (show ¬ g = g + 4 by omega), f88.2.2.2.2.2.2 g (show ¬ g = g + 7 by omega), mI_ui g 10 e84, if_neg (fun t => absurd t.2 (by decide))]
  refine ⟨⟨ir, ⟨Ab, Be, C, hx.fi o92 (ff.mono (fun x y => Or.inl (by have y' : x = g ∨ x = g + 7 ∨ x = g + 4 := y; omega)))⟩, ?_, fun t => absurd t hr⟩, Or.inl ⟨hr, by rw [i10]; exact hR⟩⟩
  rw [ff.2.2.2.2.2.2 (g + 10) (fun y => by have y' : g + 10 = g ∨ g + 10 = g + 7 ∨ g + 10 = g + 4 := y; omega)]
  exact hs
theorem x_Ga_tryCommand (hF : FMx G) (cx : gcx M0 g p O P L V F Ab0 Be0 ns sf ef W pl nq sm N n nms) (vo : VrO nms (mI M0 (p + 3)) (mI M0 (p + 4))) (cC : CmC M0 p O P L V W pl nq sm n ns ef nms c cm) (hx : GX M0 z g p O P K V F1 ns1 sf1 ef1 L cnt Ab0 Be0 C0 M Ab Be C) (st : gst9 M g V F ns W pl nq sm N nms k (fun v => sgL.getD v 0)) (qe : GQe M g V nms k T s) (hkn : k < cn) (hc : c < cnt) (hk : k < 512) (hq : GQ M g cn k cc bc) (hgs : GS M g k) : Ci G y_Ga_tryCommand (d + 6) [vr g, vi k, vi c] M (fun r M' => tcQ M0 z g p O P K V F1 ns1 sf1 ef1 L cnt Ab0 Be0 C0 M k cn r M' ∧ tcX (tcq9 (evq W pl nq sm N nms) (stpq W pl nq sm N nms V (mI M0 (p + 3)) (mI M0 (p + 4))) sgL (nbx9 T) c cm s) T g V F ns W pl nq sm N nms k sgL r M') := by
  obtain ⟨h1, h2, h3, h4, h5, -⟩ := id hx
  obtain ⟨g0, ⟨-, -, -, -, -, -, -, -, -, g15, -⟩, -, -⟩ := id h2
  have c60 := h4.2.2.2.2.1.2
  have V12 := h4.2.2.1.2
  obtain ⟨pl1, pl2, pl3, ⟨sg, e3, ru⟩, u, v, u1, u2, ⟨u3, u4, u5⟩, hlen, hbr⟩ := cC
  have iu9 : i32 ((u : Nat) : Int) := i32s (by omega) (by omega)
  have ivu9 : i32 ((v - u : Nat) : Int) := i32s (by omega) (by omega)
  have evu9 : ((v : Nat) : Int) - ((u : Nat) : Int) = ((v - u : Nat) : Int) := by omega
  have c609 : c < 60 := by omega
  have p15 := h4.1.2.2.2.2.2.2.1.2.2.2.2.2.2.2.2.1
  have kp15 := h4.1.2.2.2.2.2.2.2.1.2.2.2.2.2.2.2.2.1
  have np15 := h4.1.2.2.2.2.2.2.2.2.2.2.2.2.2.2.2.2.1
  refine k_Ga_tryCommand h1 (i32s (by omega) (by omega)) (i32s (by omega) (by omega)) ?_
  rw [h5.1, p15, np15, g15, Int.toNat_natCast, gx_p hx 11 (by omega), e3]
  refine ⟨g0, h4.1.1, kp15, by omega, h3.1, (x_Ga_run (d := d + 1) hF hx cx st ru).mono (fun x7 M6 kk => ?_)⟩
  obtain ⟨⟨i7, o6, hx7, A6, B6, C6, x6, f6, s6, -⟩, rx, st6⟩ := kk
  have rx : rnx (g + 10) (evq W pl nq sm N nms sgL cm.2.2.1.1 cm.2.2.1.2) x7 M6 := rx
  obtain ⟨ce1, ce2⟩ := ga_ce hx f6
  have q6 := hq.eq ce1
  have gs6 := hgs.eq ce1
  have qe6 := qe.eq V12 ce1
  clear hq ce1 ce2 h2 h3 h4 h5 p15 kp15 np15 e3 g0 g15 qe
  obtain ⟨-, l2, l3, l4, l5, -⟩ := id x6
  obtain ⟨m0, ⟨-, m2, -, m4, m5, m6, m7, -, -, m15, -⟩, ⟨-, mk2, -, mk4, mk5, mk6, mk7, -⟩, ⟨-, mn2, -, mn4, mn5, mn6, mn7, -⟩⟩ := id l2
  have mA := l3.2.1.2.2.1
  have kA := l3.2.2.1.2.2.1
  have nA := l3.2.2.2.1.2.1
  have c64 := l3.2.2.2.2.2.2.2.1
  have p13 := l4.1.2.2.2.2.2.2.1.2.2.2.2.2.2.1
  have kp13 := l4.1.2.2.2.2.2.2.2.1.2.2.2.2.2.2.1
  have np13 := l4.1.2.2.2.2.2.2.2.2.2.2.2.2.2.2.1
  have p14 := l4.1.2.2.2.2.2.2.1.2.2.2.2.2.2.2.1
  have kp14 := l4.1.2.2.2.2.2.2.2.1.2.2.2.2.2.2.2.1
  have np14 := l4.1.2.2.2.2.2.2.2.2.2.2.2.2.2.2.2.1
  have off := ga_off x6
  have bad : ∀ {r : Int} {M' : mM}, i32 r → r ≠ 0 → plQ M6 g M' → tcQ M0 z g p O P K V F1 ns1 sf1 ef1 L cnt Ab0 Be0 C0 M k cn r M' := fun {r M'} ir hr q => by
    obtain ⟨q1, q2, q3⟩ := q
    exact ⟨ir, ⟨A6, B6, C6, x6.fi q1 (q2.mono (fun x y => Or.inl (by have y' : x = g := y; omega)))⟩, by rw [q2.2.2.2.2.2.2 _ (show ¬ g + 10 = g by omega)]; exact s6, fun t => absurd t hr⟩
  have k6 := qe6.2.2.2.2.1
  have ep9 : mI M6 (p + 9) c = cm.1 := by rw [gx_p x6 9 (by omega)]; exact pl1
  rw [m15, mA, nA, l5.1, p13, np13, m2, mn2, Int.toNat_natCast, p14, np14, k6, ep9]
  refine ⟨i7, o6, fun y => ⟨m0, (x_Ga_machineFault o6 m0 m15 l3.1).mono (fun r M' q => ?_)⟩, fun y => ?_⟩
  · obtain ⟨-, rx1, rx2, rx3⟩ := rx.resolve_right (fun u => by have := u.1; omega)
    obtain ⟨q1, q2, q3, q4⟩ := q
    have r0 : r ≠ 0 := by rw [q2, rx2]; exact rx1
    refine ⟨q1, q3.1, bad q1 r0 q3, Or.inl ⟨r0, ?_⟩⟩
    rw [tcq_f rx1, q2, rx2, q4, rx3]
  obtain ⟨-, rx1, rx2, -⟩ := rx.resolve_left (fun u => y u.1)
  rw [mA] at rx2
  refine ⟨m0, l3.1, kA, ⟨by omega, by omega⟩, fun y0 => ?_, fun y0 => ⟨l4.1.1, kp13, by omega, mk2, by omega, fun _ => by omega, fun y1 => ⟨by omega, fun M47 e47 => ?_⟩, fun y1 => ⟨kp14, by omega, ?_⟩⟩⟩
  · rw [tcq_0 rx1 (by rw [← rx2]; exact y0)]
    exact ⟨⟨⟨by decide, by decide⟩, ⟨A6, B6, C6, x6⟩, s6, fun _ => ⟨cn, cc, bc, ⟨q6.1.1, Nat.le_refl _, q6.1.2.1, q6.1.2.2⟩, q6.2.1, q6.2.2.1, q6.2.2.2, gs6⟩⟩, Or.inr ⟨rfl, qe6, st6⟩⟩
  · have ev0 : (evq W pl nq sm N nms sgL cm.2.2.1.1 cm.2.2.1.2).2.1 ≠ 0 := by rw [← rx2]; exact y0
    have mix : ¬ (s.2.2.1 ≠ 0 ∧ s.2.2.1 ≠ cm.1) := fun t => y1.elim t.1 t.2
    have f47 : FI (fun x => x = g + 2) M6 M47 := by rw [e47]; exact FI.ui rfl
    have o47 : mOk M47 := by rw [e47]; exact mOk_UI o6 (by rw [← ep9]; exact (o6 _ _).1)
    obtain ⟨⟨q1, q2, q3⟩, q4, q5, t1, t2, t3, t4, t5, t6, t7, t8⟩ := q6
    have g12 : mI M47 g 12 = ((cc : Nat) : Int) := by rw [f47.2.2.2.2.2.2 g (show ¬ g = g + 2 by omega)]; exact q4
    rw [f47.1, f47.2.1, f47.2.2.1, m5, mn5, g12, Int.toNat_natCast]
    refine ⟨mk5, by omega, fun M51 e51 => ?_⟩
    have f51 : FI (fun x => x = g + 5) M47 M51 := by rw [e51]; exact FI.ui rfl
    have r51 : mI M51 g = mI M6 g := by rw [f51.2.2.2.2.2.2 g (show ¬ g = g + 5 by omega), f47.2.2.2.2.2.2 g (show ¬ g = g + 2 by omega)]
    rw [f51.1, f51.2.1, f51.2.2.1, f47.1, f47.2.1, f47.2.2.1, m7, mn7, r51, q4, q5, Int.toNat_natCast]
    refine ⟨mk7, by omega, fun M55 e55 => ?_⟩
    have f55 : FI (fun x => x = g + 7) M51 M55 := by rw [e55]; exact FI.ui rfl
    have ff : FI (fun x => x = g + 2 ∨ x = g + 5 ∨ x = g + 7) M6 M55 := ((f47.mono (fun _ y => Or.inl y)).trans (f51.mono (fun _ y => Or.inr (Or.inl y)))).trans (f55.mono (fun _ y => Or.inr (Or.inr y)))
    have o55 : mOk M55 := by rw [e55]; exact mOk_UI (by rw [e51]; exact mOk_UI o47 ⟨by omega, by omega⟩) ⟨by omega, by omega⟩
    have nb : ∀ x, x ≠ g + 2 → x ≠ g + 5 → x ≠ g + 7 → mI M55 x = mI M6 x := fun x a b c => ff.2.2.2.2.2.2 x (fun y => y.elim a (fun y => y.elim b c))
    have x55 := x6.fi o55 (ff.mono (fun x y => Or.inl (by have y' : x = g + 2 ∨ x = g + 5 ∨ x = g + 7 := y; omega)))
    have e2 : ∀ i, mI M55 (g + 2) i = if i = k then cm.1 else mI M6 (g + 2) i := fun i => by
      rw [f55.2.2.2.2.2.2 _ (show ¬ g + 2 = g + 7 by omega), f51.2.2.2.2.2.2 _ (show ¬ g + 2 = g + 5 by omega), mI_ui _ i e47]
      by_cases y : i = k
      · rw [if_pos ⟨rfl, y⟩, if_pos y]
      · rw [if_neg (fun t => y t.2), if_neg y]
    have e5 : ∀ i, mI M55 (g + 5) i = if i = cc then ((c : Nat) : Int) else mI M6 (g + 5) i := fun i => by
      rw [f55.2.2.2.2.2.2 _ (show ¬ g + 5 = g + 7 by omega), mI_ui _ i e51]
      by_cases y : i = cc
      · rw [if_pos ⟨rfl, y⟩, if_pos y]
      · rw [if_neg (fun t => y t.2), if_neg y, f47.2.2.2.2.2.2 _ (show ¬ g + 5 = g + 2 by omega)]
    have e7 : ∀ i, mI M55 (g + 7) i = if i = cc then ((bc : Nat) : Int) else mI M6 (g + 7) i := fun i => by
      rw [mI_ui _ i e55]
      by_cases y : i = cc
      · rw [if_pos ⟨rfl, y⟩, if_pos y]
      · rw [if_neg (fun t => y t.2), if_neg y, f51.2.2.2.2.2.2 _ (show ¬ g + 7 = g + 5 by omega), f47.2.2.2.2.2.2 _ (show ¬ g + 7 = g + 2 by omega)]
    have r55 := nb g (by omega) (by omega) (by omega)
    have s55 : mI M55 (g + 10) 9 = mI M (g + 10) 9 := by rw [nb _ (by omega) (by omega) (by omega)]; exact s6
    have st55 : gst9 M55 g V F ns W pl nq sm N nms k (fun v => sgL.getD v 0) := st6.cg (fun i _ => by rw [nb _ (by omega) (by omega) (by omega)]) (fun v _ => by rw [nb _ (by omega) (by omega) (by omega)]) (nb _ (by omega) (by omega) (by omega)) (nb _ (by omega) (by omega) (by omega)) (nb _ (by omega) (by omega) (by omega))
    clear f47 o47 f51 r51 f55 ff o55 e47 e51 e55 bad
    refine (x_Ga_weighChances (d := d) (cc := cc) hF cx x55 st55 hc (by omega) (by rw [r55]; exact q4) u1 u2 ⟨u3, u4, u5⟩ hlen (fun b x hb => ⟨(hbr b x hb).1, (hbr b x hb).2.1⟩)).mono (fun x58 M57 kk => ?_)
    obtain ⟨⟨i58, w1, ⟨A7, B7, C7, x57⟩, w2⟩, wy⟩ := kk
    obtain ⟨w11, w12, w13, w14, w15⟩ := w1
    obtain ⟨-, l2', l3', l4', l5', -⟩ := id x57
    have p16 := l4'.1.2.2.2.2.2.2.1.2.2.2.2.2.2.2.2.2.1
    have kp16 := l4'.1.2.2.2.2.2.2.2.1.2.2.2.2.2.2.2.2.2.1
    have np16 := l4'.1.2.2.2.2.2.2.2.2.2.2.2.2.2.2.2.2.2.1
    have u1' : mI M57 (p + 12) c = ((u : Nat) : Int) := by rw [gx_p x57 12 (by omega)]; exact u1
    have u2' : mI M57 (p + 12) (c + 1) = ((v : Nat) : Int) := by rw [gx_p x57 12 (by omega)]; exact u2
    have s57 : mI M57 (g + 10) 9 = mI M (g + 10) 9 := by rw [w15]; exact s55
    have c57 : mI M57 g 12 = ((cc : Nat) : Int) := by rw [w11 12 (by decide), r55]; exact q4
    rw [l5'.1, p16, np16, show Int.toNat ((c : Int) + 1) = c + 1 by omega, u1', u2', evu9]
    refine ⟨i58, x57.1, l2'.1, l4'.1.1, kp16, by omega, by omega, ?_⟩
    have wbad : x58 ≠ 0 → (tcq9 (evq W pl nq sm N nms) (stpq W pl nq sm N nms V (mI M0 (p + 3)) (mI M0 (p + 4))) sgL (nbx9 T) c cm s).1 = (x58, mI M57 g 10) := fun r0 => by
      rcases wy with ⟨a1, a2, a3⟩ | ⟨a1, a2, a3, a4⟩ | ⟨a1, a2, a3, a4, a5⟩ | ⟨-, -, -, a4, -⟩
      · rw [tcq_c rx1 ev0 mix a1, a2, a3]
      · rw [tcq_u rx1 ev0 mix a1 a2, a3, a4, pl3]
      · rw [tcq_s rx1 ev0 mix a1 a2 a3, a4, a5, pl3]
      · exact absurd a4 r0
    by_cases r0 : x58 = 0
    · subst r0
      obtain ⟨hch, mu, m1, m2', m3, m4', m5'⟩ := w2 rfl
      have wy : (chq9 (evq W pl nq sm N nms) sgL cm.2.2.2).1.1 = 0 ∧ muq9 (chq9 (evq W pl nq sm N nms) sgL cm.2.2.2).2 1 ≠ 0 ∧ smq9 (muq9 (chq9 (evq W pl nq sm N nms) sgL cm.2.2.2).2 1) (chq9 (evq W pl nq sm N nms) sgL cm.2.2.2).2 = muq9 (chq9 (evq W pl nq sm N nms) sgL cm.2.2.2).2 1 ∧ mI M57 (g + 6) cc = muq9 (chq9 (evq W pl nq sm N nms) sgL cm.2.2.2).2 1 ∧ lch9 M57 g (v - u) = (chq9 (evq W pl nq sm N nms) sgL cm.2.2.2).2 ∧ gst9 M57 g V F ns W pl nq sm N nms k (fun v => sgL.getD v 0) := by
        rcases wy with ⟨a1, a2, a3⟩ | ⟨a1, a2, a3, a4⟩ | ⟨a1, a2, a3, a4, a5⟩ | ⟨a1, a2, a3, -, a5, a6, a7⟩
        · exact absurd a2.symm a1
        · exact absurd a3 (by decide)
        · exact absurd a4 (by decide)
        · exact ⟨a1, a2, a3, a5, a6, a7⟩
      obtain ⟨b1, b2, b3, b4, b5, b6⟩ := wy
      have emu : muq9 (chq9 (evq W pl nq sm N nms) sgL cm.2.2.2).2 1 = ((mu : Nat) : Int) := by rw [← b4]; exact m1
      obtain ⟨x1, x2, ⟨cnx, x3⟩, x4, x5, fcx, ccx, bcx, x6', x7', x8, x9, x10, x11⟩ := qe6
      have ecc : ccx = cc := by rw [q4] at x8; omega
      have ebc : bcx = bc := by rw [q5] at x9; omega
      have ecn : cnx = cn := by have a := x3.1; rw [q1] at a; omega
      subst ecc
      subst ebc
      subst ecn
      have te : ∀ fl : (Int × Int) × List (List Int) × List (Nat × Int), flq9 (stpq W pl nq sm N nms V (mI M0 (p + 3)) (mI M0 (p + 4))) sgL (mI M0 (p + 10) c) ((mu : Nat) : Int) bcx (cm.2.2.2.zip (chq9 (evq W pl nq sm N nms) sgL cm.2.2.2).2) s.2.1 [] = fl → tcq9 (evq W pl nq sm N nms) (stpq W pl nq sm N nms V (mI M0 (p + 3)) (mI M0 (p + 4))) sgL (nbx9 T) c cm s = (fl.1, fl.2.1, cm.1, s.2.2.2 ++ [(c, ((mu : Nat) : Int), fl.2.2)]) := fun fl hf => by
        have h9 := tcq_e (ev := evq W pl nq sm N nms) (stp := stpq W pl nq sm N nms V (mI M0 (p + 3)) (mI M0 (p + 4))) (sg := sgL) (nb := nbx9 T) (c := c) (cm := cm) (s := s) rx1 ev0 mix b1 b2 b3 (fl := fl) (by rw [emu, x11, ← pl3]; exact hf)
        rw [emu] at h9
        exact h9
      have hq0 : (fun r M' => tcQ M0 z g p O P K V F1 ns1 sf1 ef1 L cnt Ab0 Be0 C0 M k cnx r M' ∧ tcX (tcq9 (evq W pl nq sm N nms) (stpq W pl nq sm N nms V (mI M0 (p + 3)) (mI M0 (p + 4))) sgL (nbx9 T) c cm s) T g V F ns W pl nq sm N nms k sgL r M') = (fun r M' => tcQ M0 z g p O P K V F1 ns1 sf1 ef1 L cnt Ab0 Be0 C0 M57 k cnx r M' ∧ tcX (tcq9 (evq W pl nq sm N nms) (stpq W pl nq sm N nms V (mI M0 (p + 3)) (mI M0 (p + 4))) sgL (nbx9 T) c cm s) T g V F ns W pl nq sm N nms k sgL r M') := by
        rw [tcQ_eq (MB := M57) (M3 := M) s57]
      rw [hq0]
      have e75 : mI M57 (g + 5) = mI M55 (g + 5) := w12 5 (by omega) (by omega) (by omega)
      have e77 : mI M57 (g + 7) = mI M55 (g + 7) := w12 7 (by omega) (by omega) (by omega)
      have e74 : mI M57 (g + 4) = mI M6 (g + 4) := by rw [w12 4 (by omega) (by omega) (by omega), nb _ (by omega) (by omega) (by omega)]
      have e73 : mI M57 (g + 3) = mI M6 (g + 3) := by rw [w12 3 (by omega) (by omega) (by omega), nb _ (by omega) (by omega) (by omega)]
      have e72 : ∀ i, mI M57 (g + 2) i = if i = k then cm.1 else mI M6 (g + 2) i := fun i => by rw [w12 2 (by omega) (by omega) (by omega), e2 i]
      have e78 : mI M57 (g + 8) = mI M6 (g + 8) := by rw [w12 8 (by omega) (by omega) (by omega), nb _ (by omega) (by omega) (by omega)]
      have e79 : mI M57 (g + 9) = mI M6 (g + 9) := by rw [w12 9 (by omega) (by omega) (by omega), nb _ (by omega) (by omega) (by omega)]
      have e71 : mI M57 (g + 1) = mI M6 (g + 1) := by rw [w12 1 (by omega) (by omega) (by omega), nb _ (by omega) (by omega) (by omega)]
      have c55 : (mI M55 g 12).toNat = ccx := by rw [r55, q4, Int.toNat_natCast]
      have t7e : ∀ j, j < ccx → mI M57 (g + 7) j = mI M6 (g + 7) j ∧ mI M57 (g + 7) (j + 1) = mI M6 (g + 7) (j + 1) := fun j hj => by
        refine ⟨by rw [e77, e7, if_neg (by omega)], ?_⟩
        rw [e77, e7]
        by_cases y : j + 1 = ccx
        · rw [if_pos y, y, (t4 (by omega)).2]
        · rw [if_neg y]
      have cm0 : ∀ j, j < ccx → cmdG M57 g cnx bcx j := fun j hj => (t3 j hj).cg (t7e j hj) (by rw [w14 j (by rw [c55]; omega), nb _ (by omega) (by omega) (by omega)]) (by rw [e75, e5, if_neg (by omega)]) (fun i _ => ⟨by rw [e78], by rw [e79]⟩) (Nat.le_refl _) (Nat.le_refl _)
      have cm1 : ∀ j, j < ccx → cmm M57 g j = cmm M6 g j := fun j hj => cmm_cg (t3 j hj) (t7e j hj) (by rw [w14 j (by rw [c55]; omega), nb _ (by omega) (by omega) (by omega)]) (by rw [e75, e5, if_neg (by omega)]) (fun i _ => ⟨by rw [e78], by rw [e79]⟩)
      have zl1 : (cm.2.2.2.zip (chq9 (evq W pl nq sm N nms) sgL cm.2.2.2).2).length = v - u := by rw [List.length_zip, ← b5, lch_len, hlen]; omega
      refine x_tc146 (zl := cm.2.2.2.zip (chq9 (evq W pl nq sm N nms) sgL cm.2.2.2).2) (S0 := s.2.1) (cms := s.2.2.2) (pr := cm.1) (fc := fcx) (bc0 := bcx) (cn0 := cnx) hF cx vo zl1 (fun b hb => ?_) (fun S B hf => ?_) (fun hf => ?_) (by rw [e72, if_pos rfl]) ?_ (by rw [e74]; exact x6') x7' (by rw [cml_cg (M' := M57) (M := M6) _ (fun c' c1 c2 => cm1 c' (by omega))]; exact x10) x11 (by rw [e75, e5, if_pos rfl]) hkn hc (by omega) hk ⟨u3, u4, u5⟩ ⟨m2', m3⟩ hch m5' m4' m1 (by rw [e77, e7, if_pos rfl]) c57 (by rw [e75, e5, if_pos rfl]; exact ⟨by omega, by omega⟩) u1' u2' t1 cm0 (fun y => by rw [e77, e7, if_neg (by omega)]; exact (t4 y).1) t5 (by rw [e74]; exact t6) (by rw [e74]; exact t7) (fun j hj => (gs6 j (by omega)).cg (by rw [e72, if_neg (by omega)]) (by rw [e73]) (by rw [e74]) (by rw [e74])) (fun x y q1 q2 => by rw [e74] at q1 q2; rw [e73]; exact (gs6 k (Nat.le_refl _) x y q1 q2).1) (v - u) 0 M57 A7 B7 C7 cnx bcx 0 (by omega) (by omega) ⟨by decide, by decide⟩ x57 flF.refl ⟨by rw [w11 0 (by decide), r55]; exact q1, Nat.le_refl _, q2, fun i hi => by rw [w13, nb _ (by omega) (by omega) (by omega)]; exact q3 i hi⟩ (by rw [w11 13 (by decide), r55]; exact q5) (Nat.le_refl _) ⟨t2, Nat.le_refl _⟩ (fun _ => ⟨Nat.le_refl _, t2, fun i a b => absurd a (by omega), by rw [Nat.sub_self]; rfl⟩) (Int.le_refl _) (fun _ => ⟨s.2.1, [], rfl, x2, x3.cg V12 (by rw [w11 0 (by decide), r55]) e71 (by rw [w13, nb _ (by omega) (by omega) (by omega)]), by rw [Nat.sub_self]; rfl, b6⟩) (fun t => absurd rfl t)
      · obtain ⟨x, hxb⟩ : ∃ x, cm.2.2.2[b]? = some x := ⟨cm.2.2.2[b], List.getElem?_eq_getElem (by omega)⟩
        obtain ⟨y1, y2, y3⟩ := hbr b x hxb
        exact ⟨x, List.getElem?_zip_eq_some.mpr ⟨hxb, by rw [← b5]; exact lch_get _ hb⟩, y1, y3⟩
      · rw [te _ hf]
      · rw [te _ rfl]
      · rw [← x4]
        refine xtm_cg (cc := ccx) k (fun j hj => by rw [e72, if_neg (by omega)]) (fun j _ => by rw [e74]) (fun j hj => ?_) cm1
        obtain ⟨x, y', f1, f2, f3, f4⟩ := t6 j (by omega)
        rw [f2, Int.toNat_natCast]
        exact f4
    · exact x_tc_bad (by first | exact iu9 | exact ivu9) ⟨by decide, by decide⟩ x57 hk c609 c57 (by omega) s57 i58 r0 (wbad r0)
  · have ev0 : (evq W pl nq sm N nms sgL cm.2.2.1.1 cm.2.2.1.2).2.1 ≠ 0 := by rw [← rx2]; exact y0
    refine (x_Ga_fault ⟨by decide, by decide⟩ (o6 _ _).1 o6 m0).mono (fun r M' q => ?_)
    rw [q.1]
    refine ⟨⟨by decide, by decide⟩, q.2.1.1, bad ⟨by decide, by decide⟩ (by decide) q.2.1, Or.inl ⟨by decide, ?_⟩⟩
    rw [tcq_m rx1 ev0 ⟨fun t => y1 (Or.inl t), fun t => y1 (Or.inr t)⟩, q.2.2, gx_p x6 10 (by omega), pl3]
end GBL
