section
/-! The class's game: tryCommand, the whole; lookAt. -/
section GAI
variable {G : mG} {d z g p O P K V F L cnt U w9 Ab Be C Ab0 Be0 C0 s h t c cn k u v cc n bc bc0 x a0 br mu cn0 : Nat} {M0 M M' M1 M2 MB : mM} {ns : Nat → Int} {sf ef : Nat → Nat} {H : Nat → Nat} {S R : Nat → Prop} {sm sh : Int}
/-- between two commands of state k -/
def GQ (M : mM) (g cn k cc bc : Nat) : Prop := (mI M g 0 = ((cn : Nat) : Int) ∧ cn ≤ 512 ∧ SLt M g cn) ∧ mI M g 12 = ((cc : Nat) : Int) ∧ mI M g 13 = ((bc : Nat) : Int) ∧ GT M g cn k cc bc
/-- a run changes nothing of it -/
theorem GQ.eq (hq : GQ M g cn k cc bc) (e : ∀ i, i ≤ 9 ∨ (20 ≤ i ∧ i ≤ 22) → mI M' (g + i) = mI M (g + i)) : GQ M' g cn k cc bc := by
  have e0 := e 0 (by omega)
  rw [Nat.add_zero] at e0
  obtain ⟨⟨q1, q2, q3⟩, q4, q5, q6⟩ := hq
  have e4 := e 4 (by omega)
  have e7 := e 7 (by omega)
  refine ⟨⟨by rw [e0]; exact q1, q2, fun i hi => by rw [e 20 (by omega)]; exact q3 i hi⟩, by rw [e0]; exact q4, by rw [e0]; exact q5, ?_⟩
  obtain ⟨t1, t2, t3, t4, t5, t6, t7, t8⟩ := q6
  exact ⟨t1, t2, fun c hc => (t3 c hc).cg ⟨by rw [e7], by rw [e7]⟩ (by rw [e 6 (by omega)]) (by rw [e 5 (by omega)]) (fun i _ => ⟨by rw [e 8 (by omega)], by rw [e 9 (by omega)]⟩) (Nat.le_refl _) (Nat.le_refl _), by rw [e7]; exact t4, t5, by rw [e4]; exact t6, by rw [e4]; exact t7, by rw [e4]; exact t8⟩
theorem s_tc_bad {l5 l6 r : Int} (i5 : i32 l5) (i6 : i32 l6) (hx : GX M0 z g p O P K V F ns sf ef L cnt Ab0 Be0 C0 M Ab Be C) (hk : k < 512) (hc : c < 60) (hcc : mI M g 12 = ((cc : Nat) : Int)) (hcc2 : cc ≤ 4096) (hs : mI M (g + 10) 9 = mI MB (g + 10) 9) (ir : i32 r) (hr : r ≠ 0) : h_Ga_tryCommand_146 G (d + 5) g k c r l5 l6 M (tcQ M0 z g p O P K V F ns sf ef L cnt Ab0 Be0 C0 MB k cn) := by
  obtain ⟨h1, h2, h3, h4, h5, -⟩ := id hx
  obtain ⟨g0, ⟨-, -, -, g4, -, -, g7, -⟩, ⟨-, -, -, k4, -, -, k7, -⟩, ⟨-, -, -, n4, -, -, n7, -⟩⟩ := id h2
  refine k_Ga_tryCommand_146 h1 (i32s (by omega) (by omega)) (i32s (by omega) (by omega)) ir i5 i6 ⟨fun _ => ?_, fun y => absurd (Or.inr hr) y⟩
  rw [hcc]
  refine ⟨g0, ⟨by omega, by omega⟩, fun M84 e84 => ?_⟩
  have f84 : FI (fun x => x = g) M M84 := by rw [e84]; exact FI.ui rfl
  have c84 : mI M84 g 12 = ((cc + 1 : Nat) : Int) := by rw [mI_ui g 12 e84, if_pos ⟨rfl, rfl⟩]; omega
  have o84 : mOk M84 := by rw [e84]; exact mOk_UI h1 ⟨by omega, by omega⟩
  rw [f84.1, f84.2.1, f84.2.2.1, g7, n7, c84, Int.toNat_natCast]
  refine ⟨k7, by omega, fun M88 e88 => ?_⟩
  have f88 : FI (fun x => x = g + 7) M84 M88 := by rw [e88]; exact FI.ui rfl
  have o88 : mOk M88 := by rw [e88]; exact mOk_UI o84 (o84 _ _).1
  rw [f88.1, f88.2.1, f88.2.2.1, f84.1, f84.2.1, f84.2.2.1, g4, n4, show Int.toNat ((k : Int) + 1) = k + 1 by omega]
  refine ⟨k4, by omega, fun M92 e92 => ?_⟩
  have f92 : FI (fun x => x = g + 4) M88 M92 := by rw [e92]; exact FI.ui rfl
  have ff : FI (fun x => x = g ∨ x = g + 7 ∨ x = g + 4) M M92 := ((f84.mono (fun _ y => Or.inl y)).trans (f88.mono (fun _ y => Or.inr (Or.inl y)))).trans (f92.mono (fun _ y => Or.inr (Or.inr y)))
  have o92 : mOk M92 := by rw [e92]; exact mOk_UI o88 (o88 _ _).1
  refine ⟨ir, ⟨Ab, Be, C, hx.fi o92 (ff.mono (fun x y => Or.inl (by have y' : x = g ∨ x = g + 7 ∨ x = g + 4 := y; omega)))⟩, ?_, fun t => absurd t hr⟩
  rw [ff.2.2.2.2.2.2 (g + 10) (fun y => by have y' : g + 10 = g ∨ g + 10 = g + 7 ∨ g + 10 = g + 4 := y; omega)]
  exact hs
theorem tcQ_eq {M3 : mM} (e : mI MB (g + 10) 9 = mI M3 (g + 10) 9) : tcQ M0 z g p O P K V F ns sf ef L cnt Ab0 Be0 C0 MB k cn = tcQ M0 z g p O P K V F ns sf ef L cnt Ab0 Be0 C0 M3 k cn := by
  funext r M'
  unfold tcQ
  rw [e]
theorem s_Ga_tryCommand (hF : FMs G) (hx : GX M0 z g p O P K V F ns sf ef L cnt Ab0 Be0 C0 M Ab Be C) (hc : c < cnt) (hk : k < 512) (hq : GQ M g cn k cc bc) (hgs : GS M g k) : Ci G y_Ga_tryCommand (d + 6) [vr g, vi k, vi c] M (tcQ M0 z g p O P K V F ns sf ef L cnt Ab0 Be0 C0 M k cn) := by
  obtain ⟨h1, h2, h3, h4, h5, -⟩ := id hx
  obtain ⟨g0, ⟨-, -, -, -, -, -, -, -, -, g15, -⟩, -, -⟩ := id h2
  have c60 := h4.2.2.2.2.1.2
  obtain ⟨-, -, -, -, -, -, -, -, sg, e3, pcg⟩ := h4.cmd hc
  have p15 := h4.1.2.2.2.2.2.2.1.2.2.2.2.2.2.2.2.1
  have kp15 := h4.1.2.2.2.2.2.2.2.1.2.2.2.2.2.2.2.2.1
  have np15 := h4.1.2.2.2.2.2.2.2.2.2.2.2.2.2.2.2.2.1
  refine k_Ga_tryCommand h1 (i32s (by omega) (by omega)) (i32s (by omega) (by omega)) ?_
  rw [h5.1, p15, np15, g15, Int.toNat_natCast, e3]
  refine ⟨g0, h4.1.1, kp15, by omega, h3.1, (s_Ga_run (d := d + 1) hF hx pcg).mono (fun x7 M6 kk => ?_)⟩
  obtain ⟨i7, o6, hx7, A6, B6, C6, x6, f6, s6, z6, -⟩ := kk
  obtain ⟨ce1, ce2⟩ := ga_ce hx f6
  have q6 := hq.eq ce1
  have gs6 := hgs.eq ce1
  clear hq ce1 ce2 h2 h3 h4 h5 p15 kp15 np15 pcg e3 g0 g15
  obtain ⟨-, l2, l3, l4, l5, -⟩ := id x6
  obtain ⟨m0, ⟨-, m2, -, m4, m5, m6, m7, -, -, m15, -⟩, ⟨-, mk2, -, mk4, mk5, mk6, mk7, -⟩, ⟨-, mn2, -, mn4, mn5, mn6, mn7, -⟩⟩ := id l2
  have mA := l3.2.1.2.2.1
  have kA := l3.2.2.1.2.2.1
  have nA := l3.2.2.2.1.2.1
  have c64 := l3.2.2.2.2.2.2.2.1
  have p13 := l4.1.2.2.2.2.2.2.1.2.2.2.2.2.2.1
  have kp13 := l4.1.2.2.2.2.2.2.2.1.2.2.2.2.2.2.1
  have np13 := l4.1.2.2.2.2.2.2.2.2.2.2.2.2.2.2.1
  have p14 := l4.1.2.2.2.2.2.2.1.2.2.2.2.2.2.2.1
  have kp14 := l4.1.2.2.2.2.2.2.2.1.2.2.2.2.2.2.2.1
  have np14 := l4.1.2.2.2.2.2.2.2.2.2.2.2.2.2.2.2.1
  have off := ga_off x6
  have bad : ∀ {r : Int} {M' : mM}, i32 r → r ≠ 0 → plQ M6 g M' → tcQ M0 z g p O P K V F ns sf ef L cnt Ab0 Be0 C0 M k cn r M' := fun {r M'} ir hr q => by
    obtain ⟨q1, q2, q3⟩ := q
    exact ⟨ir, ⟨A6, B6, C6, x6.fi q1 (q2.mono (fun x y => Or.inl (by have y' : x = g := y; omega)))⟩, by rw [q2.2.2.2.2.2.2 _ (show ¬ g + 10 = g by omega)]; exact s6, fun t => absurd t hr⟩
  rw [m15, mA, nA, l5.1, p13, np13, m2, mn2, Int.toNat_natCast, p14, np14]
  refine ⟨i7, o6, fun y => ⟨m0, (s_Ga_machineFault o6 m0 m15 l3.1).mono (fun r M' q => ?_)⟩, fun y => ⟨m0, l3.1, kA, ⟨by omega, by omega⟩, fun y0 => ?_, fun y0 => ⟨l4.1.1, kp13, by omega, mk2, by omega, fun _ => by omega, fun y1 => ⟨by omega, fun M47 e47 => ?_⟩, fun y1 => ⟨kp14, by omega, ?_⟩⟩⟩⟩
  · exact ⟨q.1, q.2.2.1, bad q.1 (by rw [q.2.1]; exact z6 y) q.2.2⟩
  · exact ⟨⟨by decide, by decide⟩, ⟨A6, B6, C6, x6⟩, s6, fun _ => ⟨cn, cc, bc, ⟨q6.1.1, Nat.le_refl _, q6.1.2.1, q6.1.2.2⟩, q6.2.1, q6.2.2.1, q6.2.2.2, gs6⟩⟩
  · have f47 : FI (fun x => x = g + 2) M6 M47 := by rw [e47]; exact FI.ui rfl
    have o47 : mOk M47 := by rw [e47]; exact mOk_UI o6 (o6 _ _).1
    obtain ⟨⟨q1, q2, q3⟩, q4, q5, t1, t2, t3, t4, t5, t6, t7, t8⟩ := q6
    have g12 : mI M47 g 12 = ((cc : Nat) : Int) := by rw [f47.2.2.2.2.2.2 g (show ¬ g = g + 2 by omega)]; exact q4
    rw [f47.1, f47.2.1, f47.2.2.1, m5, mn5, g12, Int.toNat_natCast]
    refine ⟨mk5, by omega, fun M51 e51 => ?_⟩
    have f51 : FI (fun x => x = g + 5) M47 M51 := by rw [e51]; exact FI.ui rfl
    have r51 : mI M51 g = mI M6 g := by rw [f51.2.2.2.2.2.2 g (show ¬ g = g + 5 by omega), f47.2.2.2.2.2.2 g (show ¬ g = g + 2 by omega)]
    rw [f51.1, f51.2.1, f51.2.2.1, f47.1, f47.2.1, f47.2.2.1, m7, mn7, r51, q4, q5, Int.toNat_natCast]
    refine ⟨mk7, by omega, fun M55 e55 => ?_⟩
    have f55 : FI (fun x => x = g + 7) M51 M55 := by rw [e55]; exact FI.ui rfl
    have ff : FI (fun x => x = g + 2 ∨ x = g + 5 ∨ x = g + 7) M6 M55 := ((f47.mono (fun _ y => Or.inl y)).trans (f51.mono (fun _ y => Or.inr (Or.inl y)))).trans (f55.mono (fun _ y => Or.inr (Or.inr y)))
    have o55 : mOk M55 := by rw [e55]; exact mOk_UI (by rw [e51]; exact mOk_UI o47 ⟨by omega, by omega⟩) ⟨by omega, by omega⟩
    have nb : ∀ x, x ≠ g + 2 → x ≠ g + 5 → x ≠ g + 7 → mI M55 x = mI M6 x := fun x a b c => ff.2.2.2.2.2.2 x (fun y => y.elim a (fun y => y.elim b c))
    have x55 := x6.fi o55 (ff.mono (fun x y => Or.inl (by have y' : x = g + 2 ∨ x = g + 5 ∨ x = g + 7 := y; omega)))
    have e2 : ∀ i, i ≠ k → mI M55 (g + 2) i = mI M6 (g + 2) i := fun i hi => by
      rw [f55.2.2.2.2.2.2 _ (show ¬ g + 2 = g + 7 by omega), f51.2.2.2.2.2.2 _ (show ¬ g + 2 = g + 5 by omega), mI_ui _ i e47, if_neg (fun t => hi t.2)]
    have e5 : ∀ i, mI M55 (g + 5) i = if i = cc then ((c : Nat) : Int) else mI M6 (g + 5) i := fun i => by
      rw [f55.2.2.2.2.2.2 _ (show ¬ g + 5 = g + 7 by omega), mI_ui _ i e51]
      by_cases y : i = cc
      · rw [if_pos ⟨rfl, y⟩, if_pos y]
      · rw [if_neg (fun t => y t.2), if_neg y, f47.2.2.2.2.2.2 _ (show ¬ g + 5 = g + 2 by omega)]
    have e7 : ∀ i, mI M55 (g + 7) i = if i = cc then ((bc : Nat) : Int) else mI M6 (g + 7) i := fun i => by
      rw [mI_ui _ i e55]
      by_cases y : i = cc
      · rw [if_pos ⟨rfl, y⟩, if_pos y]
      · rw [if_neg (fun t => y t.2), if_neg y, f51.2.2.2.2.2.2 _ (show ¬ g + 7 = g + 5 by omega), f47.2.2.2.2.2.2 _ (show ¬ g + 7 = g + 2 by omega)]
    obtain ⟨u, v, u1, u2, u3, u4, u5, -⟩ := x55.2.2.2.1.cmd hc
    have r55 := nb g (by omega) (by omega) (by omega)
    have s55 : mI M55 (g + 10) 9 = mI M (g + 10) 9 := by rw [nb _ (by omega) (by omega) (by omega)]; exact s6
    clear f47 o47 f51 r51 f55 ff o55 e47 e51 e55 bad
    refine (s_Ga_weighChances (d := d) (cc := cc) hF x55 hc (by omega) (by rw [r55]; exact q4) u1 u2 ⟨u3, u4, u5⟩).mono (fun x58 M57 kk => ?_)
    obtain ⟨i58, w1, ⟨A7, B7, C7, x57⟩, w2⟩ := kk
    obtain ⟨w11, w12, w13, w14, w15⟩ := w1
    obtain ⟨-, l2', l3', l4', l5', -⟩ := id x57
    have p16 := l4'.1.2.2.2.2.2.2.1.2.2.2.2.2.2.2.2.2.1
    have kp16 := l4'.1.2.2.2.2.2.2.2.1.2.2.2.2.2.2.2.2.2.1
    have np16 := l4'.1.2.2.2.2.2.2.2.2.2.2.2.2.2.2.2.2.2.1
    have pp : ∀ i, i ≤ 15 → mI M57 (p + i) = mI M55 (p + i) := fun i hi => by rw [x57.2.2.2.2.2.2.2.2.2 i hi, x55.2.2.2.2.2.2.2.2.2 i hi]
    have u1' : mI M57 (p + 12) c = ((u : Nat) : Int) := by rw [pp 12 (by omega)]; exact u1
    have u2' : mI M57 (p + 12) (c + 1) = ((v : Nat) : Int) := by rw [pp 12 (by omega)]; exact u2
    have s57 : mI M57 (g + 10) 9 = mI M (g + 10) 9 := by rw [w15]; exact s55
    have c57 : mI M57 g 12 = ((cc : Nat) : Int) := by rw [w11 12 (by decide), r55]; exact q4
    rw [l5'.1, p16, np16, show Int.toNat ((c : Int) + 1) = c + 1 by omega, u1', u2', show ((v : Nat) : Int) - ((u : Nat) : Int) = ((v - u : Nat) : Int) by omega]
    refine ⟨i58, x57.1, l2'.1, l4'.1.1, kp16, by omega, by omega, ?_⟩
    by_cases r0 : x58 = 0
    · subst r0
      obtain ⟨hch, mu, m1, m2', m3, m4', m5'⟩ := w2 rfl
      rw [← tcQ_eq (MB := M57) s57]
      have e75 : mI M57 (g + 5) = mI M55 (g + 5) := w12 5 (by omega) (by omega) (by omega)
      have e77 : mI M57 (g + 7) = mI M55 (g + 7) := w12 7 (by omega) (by omega) (by omega)
      have e74 : mI M57 (g + 4) = mI M6 (g + 4) := by rw [w12 4 (by omega) (by omega) (by omega), nb _ (by omega) (by omega) (by omega)]
      have e73 : mI M57 (g + 3) = mI M6 (g + 3) := by rw [w12 3 (by omega) (by omega) (by omega), nb _ (by omega) (by omega) (by omega)]
      have e72 : ∀ i, i ≠ k → mI M57 (g + 2) i = mI M6 (g + 2) i := fun i hi => by rw [w12 2 (by omega) (by omega) (by omega), e2 i hi]
      have e78 : mI M57 (g + 8) = mI M6 (g + 8) := by rw [w12 8 (by omega) (by omega) (by omega), nb _ (by omega) (by omega) (by omega)]
      have e79 : mI M57 (g + 9) = mI M6 (g + 9) := by rw [w12 9 (by omega) (by omega) (by omega), nb _ (by omega) (by omega) (by omega)]
      have c55 : (mI M55 g 12).toNat = cc := by rw [r55, q4, Int.toNat_natCast]
      refine s_tc146 (bc0 := bc) (cn0 := cn) hF hc (by omega) hk ⟨u3, u4, u5⟩ ⟨m2', m3⟩ hch m5' m4' m1 (by rw [e77, e7, if_pos rfl]) c57 (by rw [e75, e5, if_pos rfl]; exact ⟨by omega, by omega⟩) u1' u2' t1 (fun j hj => ?_) (fun y => by rw [e77, e7, if_neg (by omega)]; exact (t4 y).1) t5 (by rw [e74]; exact t6) (by rw [e74]; exact t7) (fun j hj => (gs6 j (by omega)).cg (e72 j (by omega)) (by rw [e73]) (by rw [e74]) (by rw [e74])) (fun x y q1 q2 => by rw [e74] at q1 q2; rw [e73]; exact (gs6 k (Nat.le_refl _) x y q1 q2).1) (v - u) 0 M57 A7 B7 C7 cn bc 0 (by omega) (by omega) ⟨by decide, by decide⟩ x57 flF.refl ⟨by rw [w11 0 (by decide), r55]; exact q1, Nat.le_refl _, q2, fun i hi => by rw [w13, nb _ (by omega) (by omega) (by omega)]; exact q3 i hi⟩ (by rw [w11 13 (by decide), r55]; exact q5) (Nat.le_refl _) ⟨t2, Nat.le_refl _⟩ (fun _ => ⟨Nat.le_refl _, t2, fun i a b => absurd a (by omega), by rw [Nat.sub_self]; rfl⟩) (Int.le_refl _)
      refine (t3 j hj).cg ⟨?_, ?_⟩ (by rw [w14 j (by rw [c55]; omega), nb _ (by omega) (by omega) (by omega)]) (by rw [e75, e5, if_neg (by omega)]) (fun i _ => ⟨by rw [e78], by rw [e79]⟩) (Nat.le_refl _) (Nat.le_refl _)
      · rw [e77, e7, if_neg (by omega)]
      · rw [e77, e7]
        by_cases y : j + 1 = cc
        · rw [if_pos y, y, (t4 (by omega)).2]
        · rw [if_neg y]
    · exact s_tc_bad (i32s (by omega) (by omega)) (i32s (by omega) (by omega)) x57 hk (by omega) c57 (by omega) s57 i58 r0
  · refine (s_Ga_fault ⟨by decide, by decide⟩ (o6 _ _).1 o6 m0).mono (fun r M' q => ?_)
    rw [q.1]
    exact ⟨⟨by decide, by decide⟩, q.2.1, bad ⟨by decide, by decide⟩ (by decide) q.2⟩
/-- a state is looked at -/
theorem s_Ga_lookAt (hF : FMs G) (hU : U = g + 1 ∨ U = g + 11) (hx : GY U w9 M0 z g p O P K V F ns sf ef L cnt Ab0 Be0 C0 M Ab Be C) (hk : k < 512) (hcn : mI M g 0 = ((cn : Nat) : Int) ∧ cn ≤ 512 ∧ SLt M g cn) (hcc : mI M g 12 = ((cc : Nat) : Int)) (hbc : mI M g 13 = ((bc : Nat) : Int)) (hst : 0 ≤ mI M (g + 10) 9 ∧ mI M (g + 10) 9 < 1000000000) (hgt : (k = 0 ∧ cc = 0 ∧ bc = 0) ∨ (∃ k', k = k' + 1 ∧ GT M g cn k' cc bc)) (hgs : ∀ j, j < k → GS1 M g j) : Ci G y_Ga_lookAt (d + 5) [vr g, vi k] M (fun r M' => i32 r ∧ (∃ Ab' Be' C', GX M0 z g p O P K V F ns sf ef L cnt Ab0 Be0 C0 M' Ab' Be' C') ∧ mI M' (g + 10) 9 = mI M (g + 10) 9 + 1 ∧ (r = 0 → GQ M' g cn k cc bc ∧ GS M' g k)) := by
  obtain ⟨h1, h2, h3, h4, h5, h6, h7, h8, h9, h10⟩ := id hx
  obtain ⟨g0, ⟨r1, r2, r3, r4, -, -, -, -, -, r15, -⟩, ⟨k1, k2, k3, k4, -⟩, ⟨n1, n2, n3, n4, -⟩⟩ := id h2
  refine k_Ga_lookAt h1 (i32s (by omega) (by omega)) ?_
  rw [r4, n4, hcc, Int.toNat_natCast]
  refine ⟨g0, k4, by omega, fun M4 e4 => ?_⟩
  have f4 : FI (fun x => x = g + 4) M M4 := by rw [e4]; exact FI.ui rfl
  rw [f4.1, f4.2.1, f4.2.2.1, r4, n4, f4.2.2.2.2.2.2 g (show ¬ g = g + 4 by omega), hcc, show Int.toNat ((k : Int) + 1) = k + 1 by omega]
  refine ⟨k4, by omega, fun M8 e8 => ?_⟩
  have f8 : FI (fun x => x = g + 4) M4 M8 := by rw [e8]; exact FI.ui rfl
  rw [f8.1, f8.2.1, f8.2.2.1, f4.1, f4.2.1, f4.2.2.1, r3, n3]
  refine ⟨k3, by omega, fun M12 e12 => ?_⟩
  have f12 : FI (fun x => x = g + 3) M8 M12 := by rw [e12]; exact FI.ui rfl
  have ff : FI (fun x => x = g + 4 ∨ x = g + 3) M M12 := ((f4.mono (fun _ y => Or.inl y)).trans (f8.mono (fun _ y => Or.inl y))).trans (f12.mono (fun _ y => Or.inr y))
  have bcc : i32 ((cc : Nat) : Int) := by rw [← hcc]; exact (h1 _ _).1
  have o12 : mOk M12 := by rw [e12]; exact mOk_UI (by rw [e8]; exact mOk_UI (by rw [e4]; exact mOk_UI h1 bcc) bcc) ⟨by decide, by decide⟩
  have x12 := hx.fi o12 (ff.mono (fun x y => Or.inl (by have y' : x = g + 4 ∨ x = g + 3 := y; omega)))
  have nb : ∀ x, x ≠ g + 4 → x ≠ g + 3 → mI M12 x = mI M x := fun x a b => ff.2.2.2.2.2.2 x (fun y => y.elim a b)
  have t4 : ∀ i, mI M12 (g + 4) i = if i = k + 1 then ((cc : Nat) : Int) else if i = k then ((cc : Nat) : Int) else mI M (g + 4) i := fun i => by
    rw [f12.2.2.2.2.2.2 _ (show ¬ g + 4 = g + 3 by omega), mI_ui _ i e8]
    by_cases y : i = k + 1
    · rw [if_pos ⟨rfl, y⟩, if_pos y]
    · rw [if_neg (fun t => y t.2), if_neg y, mI_ui _ i e4]
      by_cases y2 : i = k
      · rw [if_pos ⟨rfl, y2⟩, if_pos y2]
      · rw [if_neg (fun t => y2 t.2), if_neg y2]
  have gs12 : (∀ j, j < k → GS1 M12 g j) ∧ mI M12 (g + 3) k = 0 := by
    have t3 : ∀ i, mI M12 (g + 3) i = if i = k then 0 else mI M (g + 3) i := fun i => by
      rw [mI_ui _ i e12]
      by_cases y : i = k
      · rw [if_pos ⟨rfl, y⟩, if_pos y]
      · rw [if_neg (fun t => y t.2), if_neg y, f8.2.2.2.2.2.2 _ (show ¬ g + 3 = g + 4 by omega), f4.2.2.2.2.2.2 _ (show ¬ g + 3 = g + 4 by omega)]
    refine ⟨fun j hj => (hgs j hj).cg (by rw [nb _ (by omega) (by omega)]) (by rw [t3, if_neg (by omega)]) (by rw [t4, if_neg (by omega), if_neg (by omega)]) ?_, by rw [t3, if_pos rfl]⟩
    rw [t4, if_neg (by omega)]
    by_cases y : j + 1 = k
    · rw [if_pos y]
      rcases hgt with ⟨k0, -⟩ | ⟨k', ek, -, -, -, -, -, -, -, s8⟩
      · omega
      · rw [y, ← s8, ← ek]
    · rw [if_neg y]
  have q12 : GQ M12 g cn k cc bc := by
    have e0 := nb g (by omega) (by omega)
    refine ⟨⟨by rw [e0]; exact hcn.1, hcn.2.1, fun i hi => by rw [nb _ (by omega) (by omega)]; exact hcn.2.2 i hi⟩, by rw [e0]; exact hcc, by rw [e0]; exact hbc, ?_⟩
    rcases hgt with ⟨k0, c0, b0⟩ | ⟨k', ek, s1, s2, s3, s4, s5, s6, s7, s8⟩
    · subst k0
      subst c0
      subst b0
      exact ⟨Nat.le_refl _, by omega, fun c hc => absurd hc (by omega), fun y => absurd y (by omega), fun _ => rfl, fun j hj => ⟨0, 0, by rw [t4, if_neg (by omega), if_pos (by omega)], by rw [t4, if_pos (by omega)], Nat.le_refl _, Nat.le_refl _⟩, by rw [t4, if_neg (by omega), if_pos rfl]; rfl, by rw [t4, if_pos rfl]⟩
    · subst ek
      have e7 := nb (g + 7) (by omega) (by omega)
      refine ⟨s1, s2, fun c hc => (s3 c hc).cg ⟨by rw [e7], by rw [e7]⟩ (by rw [nb (g + 6) (by omega) (by omega)]) (by rw [nb (g + 5) (by omega) (by omega)]) (fun i _ => ⟨by rw [nb (g + 8) (by omega) (by omega)], by rw [nb (g + 9) (by omega) (by omega)]⟩) (Nat.le_refl _) (Nat.le_refl _), by rw [e7]; exact s4, s5, fun j hj => ?_, by rw [t4, if_neg (by omega), if_neg (by omega)]; exact s7, by rw [t4, if_pos rfl]⟩
      by_cases y : j = k' + 1
      · rw [y]
        exact ⟨cc, cc, by rw [t4, if_neg (by omega), if_pos rfl], by rw [t4, if_pos rfl], Nat.le_refl _, Nat.le_refl _⟩
      · obtain ⟨a, b, f1, f2, f3, f4'⟩ := s6 j (by omega)
        refine ⟨a, b, by rw [t4, if_neg (by omega), if_neg (by omega)]; exact f1, ?_, f3, f4'⟩
        rw [t4, if_neg (by omega)]
        by_cases y2 : j + 1 = k' + 1
        · rw [if_pos y2, ← s8, ← y2]; exact f2
        · rw [if_neg y2]; exact f2
  have s12 : mI M12 (g + 10) 9 = mI M (g + 10) 9 := by rw [nb _ (by omega) (by omega)]
  clear f4 f8 f12 ff t4 e4 e8 e12 nb
  obtain ⟨-, a2, a3, a4, a5, a6, a7, a8, a9, a10⟩ := id x12
  obtain ⟨b0, ⟨b1, -, -, -, -, -, -, -, -, b15, -⟩, ⟨bk1, -⟩, ⟨bn1, -⟩⟩ := id a2
  rw [b15, b1]
  have zU : g + 1 < mZ M12 ∧ g + 10 < mZ M12 := by have := a3.2.2.2.2.2.2.1.1; omega
  refine ⟨a3.1, ?_⟩
  refine k_Ma_enter o12 ⟨by omega, by omega⟩ ⟨a3.1, fun N2 e2 N4 e4 => ?_⟩
  have i4 : mI N4 (g + 10) 9 = mI M (g + 10) 9 := by rw [mI_ui _ _ e4, if_neg (fun t => absurd t.2 (by decide)), e2, mI_UR]; exact s12
  rw [i4]
  refine ⟨⟨by omega, by omega⟩, fun N7 e7 => ?_⟩
  have fu : FA (fun _ => False) (fun x => x = g + 10) M12 N2 := FA.ur rfl e2
  have c4 : FI (fun x => x = g + 10) N2 N4 := by rw [e4]; exact FI.ui rfl
  have c7 : FI (fun x => x = g + 10) N4 N7 := by rw [e7]; exact FI.ui rfl
  have cc7 := c4.trans c7
  have F7 : FA (fun x => x = g + 10) (fun x => x = g + 10) M12 N7 := (fu.mono (fun _ _ y => y.elim) (fun _ _ y => y)).trans (FI.fa cc7)
  have o7 : mOk N7 := by rw [e7]; exact mOk_UI (by rw [e4]; exact mOk_UI (by rw [e2]; exact mOk_UR o12) ⟨by omega, by omega⟩) ⟨by omega, by omega⟩
  have r7 : ∀ i, mR N7 (g + 10) i = if i = 3 then g + 1 else mR M12 (g + 10) i := fun i => by
    rw [cc7.2.2.1, e2, mR_UR]
    by_cases y : i = 3
    · rw [if_pos ⟨rfl, y⟩, if_pos y]
    · rw [if_neg (fun t => y t.2), if_neg y]
  have i7 : mI N7 (g + 10) 9 = mI M (g + 10) 9 + 1 ∧ mI N7 (g + 10) 4 = (k : Int) * 12 := by
    refine ⟨by rw [mI_ui _ _ e7, if_pos ⟨rfl, rfl⟩], by rw [mI_ui _ _ e7, if_neg (fun t => absurd t.2 (by decide)), mI_ui _ _ e4, if_pos ⟨rfl, rfl⟩]⟩
  have nb7 : ∀ x, x < mZ M12 → x ≠ g + 10 → mI N7 x = mI M12 x ∧ mR N7 x = mR M12 x := fun x hx hne => ⟨(F7.2 x hx).2.2.2.2 hne, (F7.2 x hx).2.2.2.1 hne⟩
  have Z7 : mZ N7 = mZ M12 ∧ mS N7 = mS M12 := by rw [cc7.2.2.2.2.1, cc7.2.2.2.2.2.1, e2]; exact ⟨rfl, rfl⟩
  have ne := x12.ne
  have cl : ∀ x, mK N7 x = mK M12 x ∧ mN N7 x = mN M12 x := fun x => by rw [cc7.1, cc7.2.1, e2]; exact ⟨rfl, rfl⟩
  have q7 : GQ N7 g cn k cc bc := q12.eq (fun i hi => (nb7 (g + i) (by have := a3.2.2.2.2.2.2.1.1; omega) (by omega)).1)
  have gs7 : (∀ j, j < k → GS1 N7 g j) ∧ mI N7 (g + 3) k = 0 := by
    have e9 : ∀ i, i ≤ 9 → mI N7 (g + i) = mI M12 (g + i) := fun i hi => (nb7 (g + i) (by have := a3.2.2.2.2.2.2.1.1; omega) (by omega)).1
    exact ⟨fun j hj => (gs12.1 j hj).cg (by rw [e9 2 (by omega)]) (by rw [e9 3 (by omega)]) (by rw [e9 4 (by omega)]) (by rw [e9 4 (by omega)]), by rw [e9 3 (by omega)]; exact gs12.2⟩
  have rg : mR N7 g = mR M12 g := (nb7 g (by omega) (by omega)).2
  have x7 : GX M0 z g p O P K V F ns sf ef L cnt Ab0 Be0 C0 N7 Ab Be C := by
    have F9 : FA (gaS g Ab Be) (gaR g) M12 N7 := F7.mono (fun x _ y => Or.inl (by have y' : x = g + 10 := y; omega)) (fun x _ y => Or.inr y)
    refine ⟨o7, a2.eq2 (fun i _ => cl _) (fun i _ => by rw [rg]), ?_, a4.fa F9 ne.2.2.2 ne.1 ne.2.1 ne.2.2.1, ⟨by rw [rg]; exact a5.1, by rw [r7, if_neg (by decide)]; exact a5.2⟩, a6, fun x hx => ?_, a8.trans ⟨F9, ⟨Or.inl rfl, Or.inl rfl⟩, by rw [Z7.2], by rw [Z7.1]; exact Nat.le_refl _⟩, fun x hx => ?_, fun i hi => ?_⟩
    · obtain ⟨e1, ⟨e21, e22, e23, e24, e25, e26, e27, e28, e29⟩, ⟨e31, e32⟩, e41, e5, e6, ⟨z1, z2, z3, z4⟩, e8⟩ := a3
      refine ⟨by rw [(cl _).1]; exact e1, ⟨by rw [r7, if_pos rfl], by rw [r7, if_neg (by decide)]; exact e22, by rw [r7, if_neg (by decide)]; exact e23, by rw [r7, if_neg (by decide)]; exact e24, by rw [r7, if_neg (by decide)]; exact e25, by rw [r7, if_neg (by decide)]; exact e26, by rw [r7, if_neg (by decide)]; exact e27, by rw [r7, if_neg (by decide)]; exact e28, by rw [r7, if_neg (by decide)]; exact e29⟩, ?_, ?_, ?_, e6, ⟨by rw [Z7.1]; exact z1, by rw [Z7.1]; exact z2, by rw [Z7.1]; exact z3, by rw [Z7.1]; exact zU.1⟩, e8⟩
      · rw [(cl _).1, (cl _).1, (cl _).1, (cl _).1, (cl _).1, (cl _).1, (cl _).1, (cl _).1, (cl _).1]
        exact ⟨bk1, e32⟩
      · rw [(cl _).2, (cl _).2, (cl _).2, (cl _).2, (cl _).2, (cl _).2, (cl _).2, (cl _).2]
        exact e41
      · rw [i7.2, (cl _).2, bn1]
        omega
    · have l := a9 x hx.1
      rw [show g + 15 = g + 10 + 5 by omega] at l
      have e5 := (nb7 (g + 10 + 5) (by have := a3.2.2.2.2.2.2.1.1; omega) (by omega)).1
      rw [e5, i7.1]
      rw [s12] at l
      exact ⟨by omega, fun t => by omega⟩
    · have l := a9 x hx
      have e5 := (nb7 (g + 15) (by have := a3.2.2.2.2.2.2.1.1; omega) (by omega)).1
      rw [e5, i7.1]
      rw [s12] at l
      omega
    · have pz := a4.1.2.2.2.2.1.1
      have po := a4.1.2.2.2.1.2.2.2
      rw [(F9.2 (p + i) (by omega)).2.2.2.2 (ne.1 i hi)]
      exact a10 i hi
  clear x12 a2 a3 a4 a5 a6 a7 a8 a9 a10 F7 cc7 c4 c7 fu r7 nb7 ne cl rg Z7 q12 e2 e4 e7 i4
  obtain ⟨-, l2, l3, l4, l5, -⟩ := id x7
  obtain ⟨m0, ⟨-, m2, -, -, -, -, -, -, -, m15, -⟩, -, -⟩ := id l2
  have tg := l4.2.2.2.2.2.1
  obtain ⟨st, e11, pc11⟩ : ∃ s : Nat, mI N7 p 11 = ((s : Nat) : Int) ∧ PC N7 O P V F ns ef L s 1 := by
    obtain ⟨-, -, -, -, -, -, u0, -, pg⟩ := l4
    rcases pg.2.1 with t | ⟨s, t1, t2⟩
    · exact absurd t tg
    · exact ⟨s, t1, t2⟩
  rw [l5.1, m15, e11]
  refine ⟨o7, m0, l4.1.1, l3.1, (s_Ga_run hF x7 pc11).mono (fun x22 M21 kk => ?_)⟩
  obtain ⟨i22, o21, hx22, A1, B1, C1, x21, f21, s21, z21, -⟩ := kk
  obtain ⟨ce1, ce2⟩ := ga_ce x7 f21
  have q21 := q7.eq ce1
  have gs21 : (∀ j, j < k → GS1 M21 g j) ∧ mI M21 (g + 3) k = 0 := ⟨fun j hj => (gs7.1 j hj).cg (by rw [ce1 2 (by omega)]) (by rw [ce1 3 (by omega)]) (by rw [ce1 4 (by omega)]) (by rw [ce1 4 (by omega)]), by rw [ce1 3 (by omega)]; exact gs7.2⟩
  obtain ⟨-, y2, y3, y4, y5, -⟩ := id x21
  obtain ⟨w0, ⟨-, w2, -, -, -, -, -, -, -, w15, -⟩, ⟨-, wk2, -⟩, ⟨-, wn2, -⟩⟩ := id y2
  have mA := y3.2.1.2.2.1
  have kA := y3.2.2.1.2.2.1
  have nA := y3.2.2.2.1.2.1
  have c64 := y3.2.2.2.2.2.2.2.1
  have st21 : mI M21 (g + 10) 9 = mI M (g + 10) 9 + 1 := by rw [s21]; exact i7.1
  rw [w15, mA, nA, w2, wn2]
  refine ⟨i22, o21, fun y => ⟨w0, (s_Ga_machineFault o21 w0 w15 y3.1).mono (fun r M' q => ?_)⟩, fun y => ⟨w0, y3.1, kA, ⟨by omega, by omega⟩, fun v39 e39 => ⟨wk2, by omega, fun M45 e45 => ?_⟩⟩⟩
  · obtain ⟨q1, q2, q3, q4, q5⟩ := q
    exact ⟨q1, q3, q1, ⟨A1, B1, C1, x21.fi q3 (q4.mono (fun x y => Or.inl (by have y' : x = g := y; omega)))⟩, by rw [q4.2.2.2.2.2.2 _ (show ¬ g + 10 = g by omega)]; exact st21, fun t => absurd (q2.symm.trans t) (z21 y)⟩
  · have f45 : FI (fun x => x = g + 2) M21 M45 := by rw [e45]; exact FI.ui rfl
    have i39 : i32 v39 := by rw [e39]; split <;> exact ⟨by decide, by decide⟩
    have o45 : mOk M45 := by rw [e45]; exact mOk_UI o21 i39
    have nb2 : ∀ x, x ≠ g + 2 → mI M45 x = mI M21 x := fun x hx => f45.2.2.2.2.2.2 x hx
    refine ⟨⟨by decide, by decide⟩, ⟨A1, B1, C1, x21.fi o45 (f45.mono (fun x y => Or.inl (by have y' : x = g + 2 := y; omega)))⟩, by rw [nb2 _ (by omega)]; exact st21, fun _ => ?_⟩
    obtain ⟨⟨u1, u2, u3⟩, u4, u5, t1, t2, t3, t4, t5, t6, t7, t8⟩ := q21
    have n0 := nb2 g (by omega)
    have n4 := nb2 (g + 4) (by omega)
    have n7 := nb2 (g + 7) (by omega)
    refine ⟨⟨⟨by rw [n0]; exact u1, u2, fun i hi => by rw [nb2 _ (by omega)]; exact u3 i hi⟩, by rw [n0]; exact u4, by rw [n0]; exact u5, t1, t2, fun c hc => (t3 c hc).cg ⟨by rw [n7], by rw [n7]⟩ (by rw [nb2 _ (by omega)]) (by rw [nb2 _ (by omega)]) (fun i _ => ⟨by rw [nb2 _ (by omega)], by rw [nb2 _ (by omega)]⟩) (Nat.le_refl _) (Nat.le_refl _), by rw [n7]; exact t4, t5, by rw [n4]; exact t6, by rw [n4]; exact t7, by rw [n4]; exact t8⟩, fun j hj => ?_⟩
    by_cases y : j = k
    · subst y
      intro x1 y1 q1 q2
      have e2 : mI M45 (g + 2) j = v39 := by rw [mI_ui _ j e45, if_pos ⟨rfl, rfl⟩]
      rw [nb2 (g + 3) (by omega), gs21.2, e2, e39]
      refine ⟨⟨Int.le_refl _, Or.inr rfl⟩, fun w => ?_⟩
      exfalso
      clear t1 t2 t3 t4 t5 t6 t7 t8 u3
      split at w <;> omega
    · exact (gs21.1 j (by omega)).cg (by rw [mI_ui _ j e45, if_neg (fun t => y t.2)]) (by rw [nb2 (g + 3) (by omega)]) (by rw [n4]) (by rw [n4])
end GAI
end
section
/-! The class's game: discover. -/
section GAJ
variable {G : mG} {d z g p O P K V F L cnt U w9 Ab Be C Ab0 Be0 C0 s h t c cn k u v cc n bc bc0 x a0 br mu cn0 : Nat} {M0 M M' M1 M2 MB : mM} {ns : Nat → Int} {sf ef : Nat → Nat} {H : Nat → Nat} {S R : Nat → Prop} {sm sh : Int}
/-- all states are found: a game of cn states -/
def GE (M : mM) (g cn : Nat) : Prop := ∃ cc bc : Nat, 1 ≤ cn ∧ GQ M g cn (cn - 1) cc bc ∧ GS M g (cn - 1)
/-- what discover comes to -/
def dcQ (M0 : mM) (z g p O P K V F : Nat) (ns : Nat → Int) (sf ef : Nat → Nat) (L cnt Ab0 Be0 C0 : Nat) (st : Int) (r : Int) (M' : mM) : Prop := i32 r ∧ (∃ U w9 Ab Be C, (U = g + 1 ∨ U = g + 11) ∧ GY U w9 M0 z g p O P K V F ns sf ef L cnt Ab0 Be0 C0 M' Ab Be C) ∧ (mI M' (g + 10) 9 ≤ st + 512 ∧ st ≤ mI M' (g + 10) 9) ∧ (r = 0 → ∃ cn : Nat, GE M' g cn) ∧ (r ≠ 0 → mI M' g 0 = 0 ∧ mI M' g 12 = 0 ∧ mI M' g 13 = 0)
theorem s_dc96 (hF : FMs G) {st : Int} (nx : ∀ (M : mM) (Ab Be C cn cc bc : Nat), GX M0 z g p O P K V F ns sf ef L cnt Ab0 Be0 C0 M Ab Be C → GQ M g cn k cc bc ∧ GS M g k → k < cn → mI M (g + 10) 9 = st + k + 1 → h_Ga_discover_72 G (d + 6) g ((k : Int) + 1) M (dcQ M0 z g p O P K V F ns sf ef L cnt Ab0 Be0 C0 st)) (hk : k < 512) (hst0 : 0 ≤ st) : ∀ (t i : Nat) (M : mM) (Ab Be C cn cc bc : Nat) (r : Int), cnt ≤ i + t → i ≤ cnt → i32 r → GX M0 z g p O P K V F ns sf ef L cnt Ab0 Be0 C0 M Ab Be C → mI M (g + 10) 9 = st + k + 1 → (r = 0 → (GQ M g cn k cc bc ∧ GS M g k) ∧ k < cn) → h_Ga_discover_96 G (d + 6) g k r i M (dcQ M0 z g p O P K V F ns sf ef L cnt Ab0 Be0 C0 st) := by
  intro t
  have fin : ∀ {M : mM} {Ab Be C cn cc bc : Nat} {r : Int}, i32 r → GX M0 z g p O P K V F ns sf ef L cnt Ab0 Be0 C0 M Ab Be C → mI M (g + 10) 9 = st + k + 1 → (r = 0 → (GQ M g cn k cc bc ∧ GS M g k) ∧ k < cn) → ((r = 0) → (h_Ga_discover_72 G (d + 6) g ((k : Int) + 1) M (dcQ M0 z g p O P K V F ns sf ef L cnt Ab0 Be0 C0 st))) ∧ (¬ (r = 0) → (∀ M52, M52 = mUI M g 11 k → Cv G y_Ga_clear (d + 6) [vr g] M52 (fun M54 => mOk M54 ∧ (dcQ M0 z g p O P K V F ns sf ef L cnt Ab0 Be0 C0 st r M54)))) := fun {M Ab Be C cn cc bc r} ir hx hst hq => by
    refine ⟨fun r0 => nx M Ab Be C cn cc bc hx (hq r0).1 (hq r0).2 hst, fun r0 M52 e52 => ?_⟩
    have f52 : FI (fun x => x = g) M M52 := by rw [e52]; exact FI.ui rfl
    have o52 : mOk M52 := by rw [e52]; exact mOk_UI hx.1 ⟨by omega, by omega⟩
    refine (s_Ga_clear o52 (by rw [f52.1]; exact hx.2.1.1)).mono (fun M54 q => ?_)
    obtain ⟨q1, q2, q3⟩ := q
    have ff := f52.trans q2
    refine ⟨q1, ir, ⟨g + 1, 1, Ab, Be, C, Or.inl rfl, hx.fi q1 (ff.mono (fun x y => Or.inl (by have y' : x = g := y; omega)))⟩, ?_, fun t => absurd t r0, fun _ => ⟨by rw [q3, if_neg (by decide), if_neg (by decide), if_pos rfl], by rw [q3, if_neg (by decide), if_pos rfl], by rw [q3, if_pos rfl]⟩⟩
    rw [ff.2.2.2.2.2.2 _ (show ¬ g + 10 = g by omega), hst]
    omega
  induction t with
  | zero =>
    intro i M Ab Be C cn cc bc r ht hi ir hx hst hq
    obtain ⟨h1, h2, h3, h4, h5, -⟩ := id hx
    have c12 := h4.2.2.2.2.1.1
    have c60 := h4.2.2.2.2.1.2
    refine k_Ga_discover_96 h1 (i32s (by omega) (by omega)) ir (i32s (by omega) (by omega)) ?_
    rw [h5.1, c12]
    exact ⟨h2.1, h4.1.1, fun y => absurd y (by omega), fun _ => fin ir hx hst hq, fun y => absurd (Or.inl (by omega)) y⟩
  | succ t ih =>
    intro i M Ab Be C cn cc bc r ht hi ir hx hst hq
    obtain ⟨h1, h2, h3, h4, h5, -⟩ := id hx
    obtain ⟨g0, ⟨-, r2, -⟩, ⟨-, k2, -⟩, ⟨-, n2, -⟩⟩ := id h2
    have c12 := h4.2.2.2.2.1.1
    have c60 := h4.2.2.2.2.1.2
    refine k_Ga_discover_96 h1 (i32s (by omega) (by omega)) ir (i32s (by omega) (by omega)) ?_
    rw [h5.1, c12, r2, n2]
    refine ⟨g0, h4.1.1, fun _ _ => ⟨k2, by omega⟩, fun _ => fin ir hx hst hq, fun y => ?_⟩
    have r0 : r = 0 := Classical.byContradiction (fun t => y (Or.inr (Or.inl t)))
    have ic : i < cnt := by
      by_cases t : ((cnt : Nat) : Int) ≤ i
      · exact absurd (Or.inl t) y
      · omega
    obtain ⟨q1, q2⟩ := hq r0
    refine (s_Ga_tryCommand hF hx ic hk q1.1 q1.2).mono (fun r' M' q => ?_)
    obtain ⟨w1, ⟨A', B', C', w2⟩, w3, w4⟩ := q
    rw [show ((i : Int) + 1) = ((i + 1 : Nat) : Int) by omega]
    by_cases e : r' = 0
    · obtain ⟨cn', cc', bc', w5, w6, w7, w8, w9⟩ := w4 e
      exact ⟨w1, w2.1, ih (i + 1) M' A' B' C' cn' cc' bc' r' (by omega) (by omega) w1 w2 (by rw [w3]; exact hst) (fun _ => ⟨⟨⟨⟨w5.1, w5.2.2.1, w5.2.2.2⟩, w6, w7, w8⟩, w9⟩, by omega⟩)⟩
    · exact ⟨w1, w2.1, ih (i + 1) M' A' B' C' cn cc bc r' (by omega) (by omega) w1 w2 (by rw [w3]; exact hst) (fun t => absurd t e)⟩
theorem s_dc72 (hF : FMs G) {st : Int} (hst0 : 0 ≤ st ∧ st < 100000000) : ∀ (t k : Nat) (M : mM) (U w9 Ab Be C cn cc bc : Nat), 512 ≤ k + t → k ≤ 512 → (U = g + 1 ∨ U = g + 11) → GY U w9 M0 z g p O P K V F ns sf ef L cnt Ab0 Be0 C0 M Ab Be C → (mI M g 0 = ((cn : Nat) : Int) ∧ cn ≤ 512 ∧ SLt M g cn) → 1 ≤ cn → k ≤ cn → mI M g 12 = ((cc : Nat) : Int) → mI M g 13 = ((bc : Nat) : Int) → ((k = 0 ∧ cc = 0 ∧ bc = 0) ∨ (∃ k', k = k' + 1 ∧ GT M g cn k' cc bc ∧ GS M g k')) → mI M (g + 10) 9 = st + k → h_Ga_discover_72 G (d + 6) g k M (dcQ M0 z g p O P K V F ns sf ef L cnt Ab0 Be0 C0 st) := by
  intro t
  have done : ∀ {k : Nat} {M : mM} {U w9 Ab Be C cn cc bc : Nat}, k ≤ 512 → (U = g + 1 ∨ U = g + 11) → GY U w9 M0 z g p O P K V F ns sf ef L cnt Ab0 Be0 C0 M Ab Be C → (mI M g 0 = ((cn : Nat) : Int) ∧ cn ≤ 512 ∧ SLt M g cn) → 1 ≤ cn → cn = k → mI M g 12 = ((cc : Nat) : Int) → mI M g 13 = ((bc : Nat) : Int) → ((k = 0 ∧ cc = 0 ∧ bc = 0) ∨ (∃ k', k = k' + 1 ∧ GT M g cn k' cc bc ∧ GS M g k')) → mI M (g + 10) 9 = st + k → dcQ M0 z g p O P K V F ns sf ef L cnt Ab0 Be0 C0 st 0 M := fun {k M U w9 Ab Be C cn cc bc} hk hU hx hcn h1c hck hcc hbc hgt hst => by
    refine ⟨⟨by decide, by decide⟩, ⟨U, w9, Ab, Be, C, hU, hx⟩, by rw [hst]; omega, fun _ => ?_, fun t => absurd rfl t⟩
    rcases hgt with ⟨k0, -⟩ | ⟨k', ek, gt⟩
    · omega
    · exact ⟨cn, cc, bc, h1c, ⟨hcn, hcc, hbc, by rw [show cn - 1 = k' by omega]; exact gt.1⟩, by rw [show cn - 1 = k' by omega]; exact gt.2⟩
  induction t with
  | zero =>
    intro k M U w9 Ab Be C cn cc bc ht hk hU hx hcn h1c hkc hcc hbc hgt hst
    refine k_Ga_discover_72 hx.1 (i32s (by omega) (by omega)) ⟨hx.2.1.1, fun _ => done hk hU hx hcn h1c (by omega) hcc hbc hgt hst, fun y => absurd (Or.inr (by omega)) y⟩
  | succ t ih =>
    intro k M U w9 Ab Be C cn cc bc ht hk hU hx hcn h1c hkc hcc hbc hgt hst
    refine k_Ga_discover_72 hx.1 (i32s (by omega) (by omega)) ?_
    rw [hcn.1]
    refine ⟨hx.2.1.1, fun y => done hk hU hx hcn h1c (by omega) hcc hbc hgt hst, fun y => ?_⟩
    have k5 : k < 512 ∧ k < cn := by omega
    refine (s_Ga_lookAt (d := d + 1) hF hU hx k5.1 hcn hcc hbc (by rw [hst]; clear hgt; omega) (hgt.imp id (fun ⟨k', e, q⟩ => ⟨k', e, q.1⟩)) (fun j hj => by
      rcases hgt with ⟨k0, -⟩ | ⟨k', ek, -, q⟩
      · omega
      · exact q j (by omega))).mono (fun r M' q => ?_)
    obtain ⟨w1, ⟨A', B', C', w2⟩, w3, w4⟩ := q
    rw [hst] at w3
    refine ⟨w1, w2.1, s_dc96 hF (fun M2 A2 B2 C2 cn2 cc2 bc2 y1 y2 y3 y4 => ?_) k5.1 hst0.1 cnt 0 M' A' B' C' cn cc bc r (by omega) (by omega) w1 w2 w3 (fun r0 => ⟨w4 r0, k5.2⟩)⟩
    rw [show ((k : Int) + 1) = ((k + 1 : Nat) : Int) by omega]
    obtain ⟨⟨z1, z2, z3, z4⟩, z5⟩ := y2
    exact ih (k + 1) M2 (g + 1) 1 A2 B2 C2 cn2 cc2 bc2 (by omega) (by omega) (Or.inl rfl) y1 z1 (by omega) (by omega) z2 z3 (Or.inr ⟨k, rfl, z4, z5⟩) (by rw [y4]; omega)
end GAJ
end
section
/-! The class's game: discover, the whole. -/
section GAK
variable {G : mG} {d z g p O P K V F L cnt U w9 Ab Be C Ab0 Be0 C0 s h t c cn k u v cc n bc bc0 x a0 br mu cn0 : Nat} {M0 M M' M1 M2 MB : mM} {ns : Nat → Int} {sf ef : Nat → Nat} {H : Nat → Nat} {S R : Nat → Prop} {sm sh : Int}
/-- the game at rest, and a program to explore -/
def GZ (M : mM) (z g p O P K V F : Nat) (ns : Nat → Int) (sf ef : Nat → Nat) (L cnt U Ab Be C : Nat) : Prop := mOk M ∧ GK M g ∧ MK M z (g + 10) U Ab Be C ∧ (U = g + 1 ∨ U = g + 11) ∧ PW M z p O P K V F ns sf ef L cnt ∧ (g + 23 ≤ z ∧ (g + 22 < p ∨ p + 15 < g) ∧ (O ≠ Ab ∧ O ≠ Be ∧ P ≠ Ab ∧ P ≠ Be)) ∧ (∀ x, x < 60 → mI M (g + 15) x ≤ mI M (g + 10) 9) ∧ (0 ≤ mI M (g + 10) 9 ∧ mI M (g + 10) 9 < 100000000)
theorem s_Ga_discover (hF : FMs G) (hz : GZ M z g p O P K V F ns sf ef L cnt U Ab Be C) : Ci G y_Ga_discover (d + 7) [vr g, vr p] M (dcQ M z g p O P K V F ns sf ef L cnt Ab Be C (mI M (g + 10) 9)) := by
  obtain ⟨h1, h2, h3, hU, h4, ⟨h61, h62, h63⟩, h7, h8⟩ := hz
  obtain ⟨o1, o2, -, o4⟩ := h4.1.2.2.2.1
  obtain ⟨a1, a2, a3, a4⟩ := h3.2.2.2.2.2.1
  have ne := ga_ne h61 h62 h63 o1 o2 o4 a1 a2
  have z1 := h3.2.2.2.2.2.2.1.1
  have zg : g < mZ M ∧ g + 10 < mZ M ∧ ∀ i, i ≤ 22 → g + i < mZ M := ⟨by omega, by omega, fun i hi => by omega⟩
  have pz : ∀ i, i ≤ 15 → p + i < mZ M := fun i hi => by omega
  have pg : ∀ i j, i ≤ 15 → j ≤ 22 → p + i ≠ g + j := fun i j hi hj => by omega
  refine k_Ga_discover h1 ⟨h2.1, (s_Ga_clear h1 h2.1).mono (fun M2 q => ?_)⟩
  obtain ⟨q1, q2, q3⟩ := q
  refine ⟨q1, by rw [q2.1]; exact h2.1, fun M6 e6 => ?_⟩
  have f6 : FA (fun _ => False) (fun x => x = g) M2 M6 := FA.ur rfl e6
  have r6 : ∀ y i, mR M6 y i = if y = g ∧ i = 14 then p else mR M y i := fun y i => by rw [e6, mR_UR, q2.2.2.1]
  have kn6 : ∀ y, mK M6 y = mK M y ∧ mN M6 y = mN M y ∧ mI M6 y = mI M2 y := fun y => by rw [e6]; exact ⟨by rw [mK_UR, q2.1], by rw [mN_UR, q2.2.1], by rw [mI_UR]⟩
  have r615 : mR M6 g 15 = g + 10 := by rw [r6, if_neg (fun t => absurd t.2 (by decide))]; exact h2.2.1.2.2.2.2.2.2.2.2.2.1
  rw [r615, r6 g 14, if_pos ⟨rfl, rfl⟩]
  refine ⟨by rw [(kn6 _).1]; exact h3.1, fun M9 e9 => ?_⟩
  have r9 : ∀ y i, mR M9 y i = if y = g + 10 ∧ i = 0 then p else if y = g ∧ i = 14 then p else mR M y i := fun y i => by rw [e9, mR_UR, r6]
  have kn9 : ∀ y, mK M9 y = mK M y ∧ mN M9 y = mN M y ∧ mI M9 y = mI M2 y := fun y => by rw [e9]; exact ⟨by rw [mK_UR, (kn6 y).1], by rw [mN_UR, (kn6 y).2.1], by rw [mI_UR, (kn6 y).2.2]⟩
  have z9 : mZ M9 = mZ M ∧ mS M9 = mS M := by rw [e9, mZ_UR, mS_UR, e6, mZ_UR, mS_UR, q2.2.2.2.2.1, q2.2.2.2.2.2.1]; exact ⟨rfl, rfl⟩
  have o9 : mOk M9 := by rw [e9]; exact mOk_UR (by rw [e6]; exact mOk_UR q1)
  have F9 : FA (gaS g Ab Be) (gaR g) M M9 := by
    have b2 : FA (gaS g Ab Be) (gaR g) M M2 := (FI.fa q2).mono (fun x _ y => Or.inl (by have y' : x = g := y; omega)) (fun x _ y => y)
    exact (b2.trans2 f6 (fun _ _ y => y.elim) (fun x _ y => Or.inl y)).trans2 (FA.ur (S := fun _ => False) (R := fun x => x = g + 10) rfl e9) (fun _ _ y => y.elim) (fun x _ y => Or.inr y)
  have g16 : mR M9 g 16 = g + 20 := by rw [r9, if_neg (fun t => absurd t.2 (by decide)), if_neg (fun t => absurd t.2 (by decide))]; exact h2.2.1.2.2.2.2.2.2.2.2.2.2.1
  have k20 := h2.2.2.1.2.2.2.2.2.2.2.2.2.1
  have n20 := h2.2.2.2.2.2.2.2.2.2.2.2.2.1
  rw [g16]
  refine (s_JA_fill (v := -1) o9 (by rw [(kn9 _).1]; exact k20) (by rw [(kn9 _).2.1, n20]; omega) ⟨by decide, by decide⟩).mono (fun M11 q => ?_)
  obtain ⟨o11, f11, v11⟩ := q
  rw [(kn9 _).2.1, n20] at v11
  have r11 : mR M11 g 15 = g + 10 := by rw [f11.2.2.1, r9, if_neg (fun t => absurd t.2 (by decide)), if_neg (fun t => absurd t.2 (by decide))]; exact h2.2.1.2.2.2.2.2.2.2.2.2.1
  have r11m : mR M11 (g + 10) 5 = g + 12 := by rw [f11.2.2.1, r9, if_neg (fun t => absurd t.2 (by decide)), if_neg (fun t => absurd t.2 (by decide))]; exact h3.2.1.2.1
  have km2 := h3.2.2.1.2.1
  have nm2 := h3.2.2.2.1.1
  rw [r11, r11m]
  refine ⟨o11, by rw [f11.1, (kn9 _).1]; exact h2.1, by rw [f11.1, (kn9 _).1]; exact h3.1, (s_JA_fill (v := 0) o11 (by rw [f11.1, (kn9 _).1]; exact km2) (by rw [f11.2.1, (kn9 _).2.1]; exact (by rw [nm2]; omega)) ⟨by decide, by decide⟩).mono (fun M16 q => ?_)⟩
  obtain ⟨o16, f16, -⟩ := q
  have fa16 : FI (fun x => x = g + 20 ∨ x = g + 12) M9 M16 := (f11.mono (fun _ y => Or.inl y)).trans (f16.mono (fun _ y => Or.inr y))
  have rp : ∀ i, mR M16 p i = mR M p i := fun i => by rw [fa16.2.2.1, r9, if_neg (fun t => pg 0 10 (by omega) (by omega) t.1), if_neg (fun t => pg 0 0 (by omega) (by omega) t.1)]
  have r1614 : mR M16 g 14 = p := by rw [fa16.2.2.1, r9, if_neg (fun t => absurd t.2 (by decide)), if_pos ⟨rfl, rfl⟩]
  have r1615 : mR M16 g 15 = g + 10 := by rw [f16.2.2.1]; exact r11
  have r16m : mR M16 (g + 10) 5 = g + 12 := by rw [f16.2.2.1]; exact r11m
  have p6 := h4.1.2.2.2.2.2.2.1.2.2.1
  have kp6 := h4.1.2.2.2.2.2.2.2.1.2.2.1
  have np6 := h4.1.2.2.2.2.2.2.2.2.2.2.1
  have i16 : ∀ x, x ≠ g + 20 → x ≠ g + 12 → x ≠ g → mI M16 x = mI M x := fun x a b c => by rw [fa16.2.2.2.2.2.2 x (fun y => y.elim a b), (kn9 x).2.2, q2.2.2.2.2.2.2 x c]
  have p3 : mI M16 p 3 = ((V : Nat) : Int) := by rw [i16 p (pg 0 20 (by omega) (by omega)) (pg 0 12 (by omega) (by omega)) (pg 0 0 (by omega) (by omega))]; exact h4.2.2.1.1
  have V12 := h4.2.2.1.2
  rw [r1614, r1615, rp 6, p6, r16m, p3, fa16.1, fa16.2.1, (kn9 _).1, (kn9 _).1, (kn9 _).1, (kn9 _).1, (kn9 _).1, (kn9 _).2.1, (kn9 _).2.1]
  refine ⟨o16, h2.1, h4.1.1, h3.1, kp6, km2, ⟨by omega, by omega, by omega, by rw [np6]; omega, by rw [nm2]; omega⟩, fun M25 e25 => ?_⟩
  have f25 : FI (fun x => x = g + 12) M16 M25 := by
    rw [e25]
    refine ⟨rfl, rfl, rfl, rfl, rfl, rfl, fun x hx => ?_⟩
    funext j
    exact if_neg (fun t => hx t.1)
  have o25 : mOk M25 := by rw [e25]; exact mOk_Cpy o16
  have fa25 : FI (fun x => x = g + 20 ∨ x = g + 12) M9 M25 := fa16.trans (f25.mono (fun _ y => Or.inr y))
  have i25 : ∀ x, x ≠ g + 20 → x ≠ g + 12 → x ≠ g → mI M25 x = mI M x := fun x a b c => by rw [f25.2.2.2.2.2.2 x b, i16 x a b c]
  have r25 : ∀ y i, mR M25 y i = if y = g + 10 ∧ i = 0 then p else if y = g ∧ i = 14 then p else mR M y i := fun y i => by rw [fa25.2.2.1, r9]
  have kn25 : ∀ y, mK M25 y = mK M y ∧ mN M25 y = mN M y := fun y => ⟨by rw [fa25.1, (kn9 y).1], by rw [fa25.2.1, (kn9 y).2.1]⟩
  have z25 : mZ M25 = mZ M ∧ mS M25 = mS M := ⟨by rw [fa25.2.2.2.2.1]; exact z9.1, by rw [fa25.2.2.2.2.2.1]; exact z9.2⟩
  have F25 : FA (gaS g Ab Be) (gaR g) M M25 := F9.trans2 (FI.fa (R := fun _ => False) fa25) (fun x _ y => Or.inl (by have y' : x = g + 20 ∨ x = g + 12 := y; omega)) (fun _ _ y => y.elim)
  have ig : ∀ i, mI M25 g i = mI M2 g i := fun i => by rw [fa25.2.2.2.2.2.2 g (fun y => by have y' : g = g + 20 ∨ g = g + 12 := y; omega), (kn9 g).2.2]
  have y25 : GY U 0 M z g p O P K V F ns sf ef L cnt Ab Be C M25 Ab Be C := by
    refine ⟨o25, h2.eq2 (fun i _ => kn25 _) (fun i hi => by rw [r25, if_neg (fun t => absurd t.1 (by omega)), if_neg (fun t => hi t.2)]), h3.eq2 (fun x _ => kn25 x) (fun i hi => by rw [r25, if_neg (fun t => absurd t.2 (by omega)), if_neg (fun t => absurd t.1 (by omega))]) (by rw [i25 (g + 10) (by omega) (by omega) (by omega)]) (by rw [z25.1]; exact Nat.le_refl _), h4.fa F25 ne.2.2.2 ne.1 ne.2.1 ne.2.2.1, ⟨by rw [r25, if_neg (fun t => absurd t.1 (by omega)), if_pos ⟨rfl, rfl⟩], by rw [r25, if_pos ⟨rfl, rfl⟩]⟩, ⟨h61, h62, h63⟩, fun x hx => absurd hx.2 (by decide), ⟨F25, ⟨Or.inl rfl, Or.inl rfl⟩, by rw [z25.2], by rw [z25.1]; exact Nat.le_refl _⟩, fun x hx => by rw [i25 (g + 15) (by omega) (by omega) (by omega), i25 (g + 10) (by omega) (by omega) (by omega)]; exact h7 x hx, fun i hi => by rw [i25 _ (pg i 20 hi (by omega)) (pg i 12 hi (by omega)) (pg i 0 hi (by omega))]⟩
  have s25 : SLt M25 g 0 := fun i hi => Or.inl (by rw [f25.2.2.2.2.2.2 _ (show ¬ g + 20 = g + 12 by omega), f16.2.2.2.2.2.2 _ (show ¬ g + 20 = g + 12 by omega)]; exact v11 i hi)
  have st25 : mI M25 (g + 10) 9 = mI M (g + 10) 9 := by rw [i25 (g + 10) (by omega) (by omega) (by omega)]
  have c0 : mI M25 g 0 = ((0 : Nat) : Int) := by rw [ig, q3, if_neg (by decide), if_neg (by decide), if_pos rfl]; rfl
  have c12 : mI M25 g 12 = ((0 : Nat) : Int) := by rw [ig, q3, if_neg (by decide), if_pos rfl]; rfl
  have c13 : mI M25 g 13 = ((0 : Nat) : Int) := by rw [ig, q3, if_pos rfl]; rfl
  refine (s_Ga_enter (d := d + 4) y25 c0 (by omega) s25).mono (fun x28 M27 q => ?_)
  obtain ⟨x27, f27, r27, cn', cn27, -, cn5', sl27, hto, i28, hm1⟩ := q
  have c1 : 1 ≤ cn' := by
    rcases hto with t | t
    · have := hm1 t; omega
    · omega
  refine ⟨i28, x27.1, ?_⟩
  have s27 : mI M27 (g + 10) 9 = mI M (g + 10) 9 + ((0 : Nat) : Int) := by
    rw [f27.2.2.2.2.2.2 (g + 10) (fun y => by have y' : g + 10 = g ∨ g + 10 = g + 1 ∨ g + 10 = g + 20 := y; omega), st25]
    omega
  exact s_dc72 hF h8 512 0 M27 U 0 Ab Be C cn' 0 0 (by omega) (by omega) hU x27 ⟨cn27, cn5', sl27⟩ c1 (by omega) (by rw [r27 12 (by decide)]; exact c12) (by rw [r27 13 (by decide)]; exact c13) (Or.inl ⟨rfl, rfl, rfl⟩) s27
end GAK
end
