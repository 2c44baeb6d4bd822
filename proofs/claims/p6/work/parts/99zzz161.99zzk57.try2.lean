section
/-! The class's game: tryCommand, the whole; lookAt. -/
section GAI
variable {G : mG} {d z g p O P K V F L cnt U w9 Ab Be C Ab0 Be0 C0 s h t c cn k u v cc n bc bc0 x a0 br mu cn0 : Nat} {M0 M M' M1 M2 MB : mM} {ns : Nat → Int} {sf ef : Nat → Nat} {H : Nat → Nat} {S R : Nat → Prop} {sm sh : Int}
/-- between two commands of state k -/
def GQ (M : mM) (g cn k cc bc : Nat) : Prop := (mI M g 0 = ((cn : Nat) : Int) ∧ cn ≤ 512 ∧ SLt M g cn) ∧ mI M g 12 = ((cc : Nat) : Int) ∧ mI M g 13 = ((bc : Nat) : Int) ∧ GT M g cn k cc bc
/-- a run changes nothing of it -/
theorem GQ.eq (hq : GQ M g cn k cc bc) (e : ∀ i, i ≤ 9 ∨ (20 ≤ i ∧ i ≤ 22) → mI M' (g + i) = mI M (g + i)) : GQ M' g cn k cc bc := by
  have e0 := e 0 (by omega)
  rw [Nat.add_zero] at e0
  obtain ⟨⟨q1, q2, q3⟩, q4, q5, q6⟩ := hq
  have e4 := e 4 (by omega)
  have e7 := e 7 (by omega)
  refine ⟨⟨by rw [e0]; exact q1, q2, fun i hi => by rw [e 20 (by omega)]; exact q3 i hi⟩, by rw [e0]; exact q4, by rw [e0]; exact q5, ?_⟩
  obtain ⟨t1, t2, t3, t4, t5, t6, t7, t8⟩ := q6
  exact ⟨t1, t2, fun c hc => (t3 c hc).cg ⟨by rw [e7], by rw [e7]⟩ (by rw [e 6 (by omega)]) (by rw [e 5 (by omega)]) (fun i _ => ⟨by rw [e 8 (by omega)], by rw [e 9 (by omega)]⟩) (Nat.le_refl _) (Nat.le_refl _), by rw [e7]; exact t4, t5, by rw [e4]; exact t6, by rw [e4]; exact t7, by rw [e4]; exact t8⟩
theorem s_tc_bad {l5 l6 r : Int} (i5 : i32 l5) (i6 : i32 l6) (hx : GX M0 z g p O P K V F ns sf ef L cnt Ab0 Be0 C0 M Ab Be C) (hk : k < 512) (hc : c < 60) (hcc : mI M g 12 = ((cc : Nat) : Int)) (hcc2 : cc ≤ 4096) (hs : mI M (g + 10) 9 = mI MB (g + 10) 9) (ir : i32 r) (hr : r ≠ 0) : h_Ga_tryCommand_146 G (d + 5) g k c r l5 l6 M (tcQ M0 z g p O P K V F ns sf ef L cnt Ab0 Be0 C0 MB k cn) := by
  obtain ⟨h1, h2, h3, h4, h5, -⟩ := id hx
  obtain ⟨g0, ⟨-, -, -, g4, -, -, g7, -⟩, ⟨-, -, -, k4, -, -, k7, -⟩, ⟨-, -, -, n4, -, -, n7, -⟩⟩ := id h2
  refine k_Ga_tryCommand_146 h1 (i32s (by omega) (by omega)) (i32s (by omega) (by omega)) ir i5 i6 ⟨fun _ => ?_, fun y => absurd (Or.inr hr) y⟩
  rw [hcc]
  refine ⟨g0, ⟨by omega, by omega⟩, fun M84 e84 => ?_⟩
  have f84 : FI (fun x => x = g) M M84 := by rw [e84]; exact FI.ui rfl
  have c84 : mI M84 g 12 = ((cc + 1 : Nat) : Int) := by rw [mI_ui g 12 e84, if_pos ⟨rfl, rfl⟩]; omega
  have o84 : mOk M84 := by rw [e84]; exact mOk_UI h1 ⟨by omega, by omega⟩
  rw [f84.1, f84.2.1, f84.2.2.1, g7, n7, c84, Int.toNat_natCast]
  refine ⟨k7, by omega, fun M88 e88 => ?_⟩
  have f88 : FI (fun x => x = g + 7) M84 M88 := by rw [e88]; exact FI.ui rfl
  have o88 : mOk M88 := by rw [e88]; exact mOk_UI o84 (o84 _ _).1
  rw [f88.1, f88.2.1, f88.2.2.1, f84.1, f84.2.1, f84.2.2.1, g4, n4, show Int.toNat ((k : Int) + 1) = k + 1 by omega]
  refine ⟨k4, by omega, fun M92 e92 => ?_⟩
  have f92 : FI (fun x => x = g + 4) M88 M92 := by rw [e92]; exact FI.ui rfl
  have ff : FI (fun x => x = g ∨ x = g + 7 ∨ x = g + 4) M M92 := ((f84.mono (fun _ y => Or.inl y)).trans (f88.mono (fun _ y => Or.inr (Or.inl y)))).trans (f92.mono (fun _ y => Or.inr (Or.inr y)))
  have o92 : mOk M92 := by rw [e92]; exact mOk_UI o88 (o88 _ _).1
  refine ⟨ir, ⟨Ab, Be, C, hx.fi o92 (ff.mono (fun x y => Or.inl (by have y' : x = g ∨ x = g + 7 ∨ x = g + 4 := y; omega)))⟩, ?_, fun t => absurd t hr⟩
  rw [ff.2.2.2.2.2.2 (g + 10) (fun y => by have y' : g + 10 = g ∨ g + 10 = g + 7 ∨ g + 10 = g + 4 := y; omega)]
  exact hs
theorem tcQ_eq {M3 : mM} (e : mI MB (g + 10) 9 = mI M3 (g + 10) 9) : tcQ M0 z g p O P K V F ns sf ef L cnt Ab0 Be0 C0 MB k cn = tcQ M0 z g p O P K V F ns sf ef L cnt Ab0 Be0 C0 M3 k cn := by
  funext r M'
  unfold tcQ
  rw [e]
theorem s_Ga_tryCommand (hF : FMs G) (hx : GX M0 z g p O P K V F ns sf ef L cnt Ab0 Be0 C0 M Ab Be C) (hc : c < cnt) (hk : k < 512) (hq : GQ M g cn k cc bc) (hgs : GS M g k) : Ci G y_Ga_tryCommand (d + 6) [vr g, vi k, vi c] M (tcQ M0 z g p O P K V F ns sf ef L cnt Ab0 Be0 C0 M k cn) := by
  obtain ⟨h1, h2, h3, h4, h5, -⟩ := id hx
  obtain ⟨g0, ⟨-, -, -, -, -, -, -, -, -, g15, -⟩, -, -⟩ := id h2
  have c60 := h4.2.2.2.2.1.2
  obtain ⟨-, -, -, -, -, -, -, -, sg, e3, pcg⟩ := h4.cmd hc
  have p15 := h4.1.2.2.2.2.2.2.1.2.2.2.2.2.2.2.2.1
  have kp15 := h4.1.2.2.2.2.2.2.2.1.2.2.2.2.2.2.2.2.1
  have np15 := h4.1.2.2.2.2.2.2.2.2.2.2.2.2.2.2.2.2.1
  refine k_Ga_tryCommand h1 (i32s (by omega) (by omega)) (i32s (by omega) (by omega)) ?_
  rw [h5.1, p15, np15, g15, Int.toNat_natCast, e3]
  refine ⟨g0, h4.1.1, kp15, by omega, h3.1, (s_Ga_run (d := d + 1) hF hx pcg).mono (fun x7 M6 kk => ?_)⟩
  obtain ⟨i7, o6, hx7, A6, B6, C6, x6, f6, s6, z6, -⟩ := kk
  obtain ⟨ce1, ce2⟩ := ga_ce hx f6
  have q6 := hq.eq ce1
  have gs6 := hgs.eq ce1
  clear hq ce1 ce2 h2 h3 h4 h5 p15 kp15 np15 pcg e3 g0 g15
  obtain ⟨-, l2, l3, l4, l5, -⟩ := id x6
  obtain ⟨m0, ⟨-, m2, -, m4, m5, m6, m7, -, -, m15, -⟩, ⟨-, mk2, -, mk4, mk5, mk6, mk7, -⟩, ⟨-, mn2, -, mn4, mn5, mn6, mn7, -⟩⟩ := id l2
  have mA := l3.2.1.2.2.1
  have kA := l3.2.2.1.2.2.1
  have nA := l3.2.2.2.1.2.1
  have c64 := l3.2.2.2.2.2.2.2.1
  have p13 := l4.1.2.2.2.2.2.2.1.2.2.2.2.2.2.1
  have kp13 := l4.1.2.2.2.2.2.2.2.1.2.2.2.2.2.2.1
  have np13 := l4.1.2.2.2.2.2.2.2.2.2.2.2.2.2.2.1
  have p14 := l4.1.2.2.2.2.2.2.1.2.2.2.2.2.2.2.1
  have kp14 := l4.1.2.2.2.2.2.2.2.1.2.2.2.2.2.2.2.1
  have np14 := l4.1.2.2.2.2.2.2.2.2.2.2.2.2.2.2.2.1
  have off := ga_off x6
  have bad : ∀ {r : Int} {M' : mM}, i32 r → r ≠ 0 → plQ M6 g M' → tcQ M0 z g p O P K V F ns sf ef L cnt Ab0 Be0 C0 M k cn r M' := fun {r M'} ir hr q => by
    obtain ⟨q1, q2, q3⟩ := q
    exact ⟨ir, ⟨A6, B6, C6, x6.fi q1 (q2.mono (fun x y => Or.inl (by have y' : x = g := y; omega)))⟩, by rw [q2.2.2.2.2.2.2 _ (show ¬ g + 10 = g by omega)]; exact s6, fun t => absurd t hr⟩
  rw [m15, mA, nA, l5.1, p13, np13, m2, mn2, Int.toNat_natCast, p14, np14]
  refine ⟨i7, o6, fun y => ⟨m0, (s_Ga_machineFault o6 m0 m15 l3.1).mono (fun r M' q => ?_)⟩, fun y => ⟨m0, l3.1, kA, ⟨by omega, by omega⟩, fun y0 => ?_, fun y0 => ⟨l4.1.1, kp13, by omega, mk2, by omega, fun _ => by omega, fun y1 => ⟨by omega, fun M47 e47 => ?_⟩, fun y1 => ⟨kp14, by omega, ?_⟩⟩⟩⟩
  · exact ⟨q.1, q.2.2.1, bad q.1 (by rw [q.2.1]; exact z6 y) q.2.2⟩
  · exact ⟨⟨by decide, by decide⟩, ⟨A6, B6, C6, x6⟩, s6, fun _ => ⟨cn, cc, bc, ⟨q6.1.1, Nat.le_refl _, q6.1.2.1, q6.1.2.2⟩, q6.2.1, q6.2.2.1, q6.2.2.2, gs6⟩⟩
  · have f47 : FI (fun x => x = g + 2) M6 M47 := by rw [e47]; exact FI.ui rfl
    have o47 : mOk M47 := by rw [e47]; exact mOk_UI o6 (o6 _ _).1
    obtain ⟨⟨q1, q2, q3⟩, q4, q5, t1, t2, t3, t4, t5, t6, t7, t8⟩ := q6
    have g12 : mI M47 g 12 = ((cc : Nat) : Int) := by rw [f47.2.2.2.2.2.2 g (show ¬ g = g + 2 by omega)]; exact q4
    rw [f47.1, f47.2.1, f47.2.2.1, m5, mn5, g12, Int.toNat_natCast]
    refine ⟨mk5, by omega, fun M51 e51 => ?_⟩
    have f51 : FI (fun x => x = g + 5) M47 M51 := by rw [e51]; exact FI.ui rfl
    have r51 : mI M51 g = mI M6 g := by rw [f51.2.2.2.2.2.2 g (show ¬ g = g + 5 by omega), f47.2.2.2.2.2.2 g (show ¬ g = g + 2 by omega)]
    rw [f51.1, f51.2.1, f51.2.2.1, f47.1, f47.2.1, f47.2.2.1, m7, mn7, r51, q4, q5, Int.toNat_natCast]
    refine ⟨mk7, by omega, fun M55 e55 => ?_⟩
    have f55 : FI (fun x => x = g + 7) M51 M55 := by rw [e55]; exact FI.ui rfl
    have ff : FI (fun x => x = g + 2 ∨ x = g + 5 ∨ x = g + 7) M6 M55 := ((f47.mono (fun _ y => Or.inl y)).trans (f51.mono (fun _ y => Or.inr (Or.inl y)))).trans (f55.mono (fun _ y => Or.inr (Or.inr y)))
    have o55 : mOk M55 := by rw [e55]; exact mOk_UI (by rw [e51]; exact mOk_UI o47 ⟨by omega, by omega⟩) ⟨by omega, by omega⟩
    have nb : ∀ x, x ≠ g + 2 → x ≠ g + 5 → x ≠ g + 7 → mI M55 x = mI M6 x := fun x a b c => ff.2.2.2.2.2.2 x (fun y => y.elim a (fun y => y.elim b c))
    have x55 := x6.fi o55 (ff.mono (fun x y => Or.inl (by have y' : x = g + 2 ∨ x = g + 5 ∨ x = g + 7 := y; omega)))
    have e2 : ∀ i, i ≠ k → mI M55 (g + 2) i = mI M6 (g + 2) i := fun i hi => by
      rw [f55.2.2.2.2.2.2 _ (show ¬ g + 2 = g + 7 by omega), f51.2.2.2.2.2.2 _ (show ¬ g + 2 = g + 5 by omega), mI_ui _ i e47, if_neg (fun t => hi t.2)]
    have e5 : ∀ i, mI M55 (g + 5) i = if i = cc then ((c : Nat) : Int) else mI M6 (g + 5) i := fun i => by
      rw [f55.2.2.2.2.2.2 _ (show ¬ g + 5 = g + 7 by omega), mI_ui _ i e51]
      by_cases y : i = cc
      · rw [if_pos ⟨rfl, y⟩, if_pos y]
      · rw [if_neg (fun t => y t.2), if_neg y, f47.2.2.2.2.2.2 _ (show ¬ g + 5 = g + 2 by omega)]
    have e7 : ∀ i, mI M55 (g + 7) i = if i = cc then ((bc : Nat) : Int) else mI M6 (g + 7) i := fun i => by
      rw [mI_ui _ i e55]
      by_cases y : i = cc
      · rw [if_pos ⟨rfl, y⟩, if_pos y]
      · rw [if_neg (fun t => y t.2), if_neg y, f51.2.2.2.2.2.2 _ (show ¬ g + 7 = g + 5 by omega), f47.2.2.2.2.2.2 _ (show ¬ g + 7 = g + 2 by omega)]
    obtain ⟨u, v, u1, u2, u3, u4, u5, -⟩ := x55.2.2.2.1.cmd hc
    have r55 := nb g (by omega) (by omega) (by omega)
    have s55 : mI M55 (g + 10) 9 = mI M (g + 10) 9 := by rw [nb _ (by omega) (by omega) (by omega)]; exact s6
    clear f47 o47 f51 r51 f55 ff o55 e47 e51 e55 bad
    refine (s_Ga_weighChances (d := d) (cc := cc) hF x55 hc (by omega) (by rw [r55]; exact q4) u1 u2 ⟨u3, u4, u5⟩).mono (fun x58 M57 kk => ?_)
    obtain ⟨i58, w1, ⟨A7, B7, C7, x57⟩, w2⟩ := kk
    obtain ⟨w11, w12, w13, w14, w15⟩ := w1
    obtain ⟨-, l2', l3', l4', l5', -⟩ := id x57
    have p16 := l4'.1.2.2.2.2.2.2.1.2.2.2.2.2.2.2.2.2.1
    have kp16 := l4'.1.2.2.2.2.2.2.2.1.2.2.2.2.2.2.2.2.2.1
    have np16 := l4'.1.2.2.2.2.2.2.2.2.2.2.2.2.2.2.2.2.2.1
    have pp : ∀ i, i ≤ 15 → mI M57 (p + i) = mI M55 (p + i) := fun i hi => by rw [x57.2.2.2.2.2.2.2.2.2 i hi, x55.2.2.2.2.2.2.2.2.2 i hi]
    have u1' : mI M57 (p + 12) c = ((u : Nat) : Int) := by rw [pp 12 (by omega)]; exact u1
    have u2' : mI M57 (p + 12) (c + 1) = ((v : Nat) : Int) := by rw [pp 12 (by omega)]; exact u2
    have s57 : mI M57 (g + 10) 9 = mI M (g + 10) 9 := by rw [w15]; exact s55
    have c57 : mI M57 g 12 = ((cc : Nat) : Int) := by rw [w11 12 (by decide), r55]; exact q4
    rw [l5'.1, p16, np16, show Int.toNat ((c : Int) + 1) = c + 1 by omega, u1', u2', show ((v : Nat) : Int) - ((u : Nat) : Int) = ((v - u : Nat) : Int) by omega]
    refine ⟨i58, x57.1, l2'.1, l4'.1.1, kp16, by omega, by omega, ?_⟩
    by_cases r0 : x58 = 0
    · subst r0
      obtain ⟨hch, mu, m1, m2', m3, m4', m5'⟩ := w2 rfl
      rw [← tcQ_eq (MB := M57) s57]
      have e75 : mI M57 (g + 5) = mI M55 (g + 5) := w12 5 (by omega) (by omega) (by omega)
      have e77 : mI M57 (g + 7) = mI M55 (g + 7) := w12 7 (by omega) (by omega) (by omega)
      have e74 : mI M57 (g + 4) = mI M6 (g + 4) := by rw [w12 4 (by omega) (by omega) (by omega), nb _ (by omega) (by omega) (by omega)]
      have e73 : mI M57 (g + 3) = mI M6 (g + 3) := by rw [w12 3 (by omega) (by omega) (by omega), nb _ (by omega) (by omega) (by omega)]
      have e72 : ∀ i, i ≠ k → mI M57 (g + 2) i = mI M6 (g + 2) i := fun i hi => by rw [w12 2 (by omega) (by omega) (by omega), e2 i hi]
      have e78 : mI M57 (g + 8) = mI M6 (g + 8) := by rw [w12 8 (by omega) (by omega) (by omega), nb _ (by omega) (by omega) (by omega)]
      have e79 : mI M57 (g + 9) = mI M6 (g + 9) := by rw [w12 9 (by omega) (by omega) (by omega), nb _ (by omega) (by omega) (by omega)]
      have c55 : (mI M55 g 12).toNat = cc := by rw [r55, q4, Int.toNat_natCast]
      refine s_tc146 (bc0 := bc) (cn0 := cn) hF hc (by omega) hk ⟨u3, u4, u5⟩ ⟨m2', m3⟩ hch m5' m4' m1 (by rw [e77, e7, if_pos rfl]) c57 (by rw [e75, e5, if_pos rfl]; exact ⟨by omega, by omega⟩) u1' u2' t1 (fun j hj => ?_) (fun y => by rw [e77, e7, if_neg (by omega)]; exact (t4 y).1) t5 (by rw [e74]; exact t6) (by rw [e74]; exact t7) (fun j hj => (gs6 j (by omega)).cg (e72 j (by omega)) (by rw [e73]) (by rw [e74]) (by rw [e74])) (fun x y q1 q2 => by rw [e74] at q1 q2; rw [e73]; exact (gs6 k (Nat.le_refl _) x y q1 q2).1) (v - u) 0 M57 A7 B7 C7 cn bc 0 (by omega) (by omega) ⟨by decide, by decide⟩ x57 flF.refl ⟨by rw [w11 0 (by decide), r55]; exact q1, Nat.le_refl _, q2, fun i hi => by rw [w13, nb _ (by omega) (by omega) (by omega)]; exact q3 i hi⟩ (by rw [w11 13 (by decide), r55]; exact q5) (Nat.le_refl _) ⟨t2, Nat.le_refl _⟩ (fun _ => ⟨Nat.le_refl _, t2, fun i a b => absurd a (by omega), by rw [Nat.sub_self]; rfl⟩) (Int.le_refl _)
      refine (t3 j hj).cg ⟨?_, ?_⟩ (by rw [w14 j (by rw [c55]; omega), nb _ (by omega) (by omega) (by omega)]) (by rw [e75, e5, if_neg (by omega)]) (fun i _ => ⟨by rw [e78], by rw [e79]⟩) (Nat.le_refl _) (Nat.le_refl _)
      · rw [e77, e7, if_neg (by omega)]
      · rw [e77, e7]
        by_cases y : j + 1 = cc
        · rw [if_pos y, y, (t4 (by omega)).2]
        · rw [if_neg y]
    · exact s_tc_bad (i32s (by omega) (by omega)) (i32s (by omega) (by omega)) x57 hk (by omega) c57 (by omega) s57 i58 r0
  · refine (s_Ga_fault ⟨by decide, by decide⟩ (o6 _ _).1 o6 m0).mono (fun r M' q => ?_)
    rw [q.1]
    exact ⟨⟨by decide, by decide⟩, q.2.1, bad ⟨by decide, by decide⟩ (by decide) q.2⟩
/-- a state is looked at -/
theorem s_Ga_lookAt (hF : FMs G) (hU : U = g + 1 ∨ U = g + 11) (hx : GY U w9 M0 z g p O P K V F ns sf ef L cnt Ab0 Be0 C0 M Ab Be C) (hk : k < 512) (hcn : mI M g 0 = ((cn : Nat) : Int) ∧ cn ≤ 512 ∧ SLt M g cn) (hcc : mI M g 12 = ((cc : Nat) : Int)) (hbc : mI M g 13 = ((bc : Nat) : Int)) (hst : 0 ≤ mI M (g + 10) 9 ∧ mI M (g + 10) 9 < 1000000000) (hgt : (k = 0 ∧ cc = 0 ∧ bc = 0) ∨ (∃ k', k = k' + 1 ∧ GT M g cn k' cc bc)) (hgs : ∀ j, j < k → GS1 M g j) : Ci G y_Ga_lookAt (d + 5) [vr g, vi k] M (fun r M' => i32 r ∧ (∃ Ab' Be' C', GX M0 z g p O P K V F ns sf ef L cnt Ab0 Be0 C0 M' Ab' Be' C') ∧ mI M' (g + 10) 9 = mI M (g + 10) 9 + 1 ∧ (r = 0 → GQ M' g cn k cc bc ∧ GS M' g k)) := by
  obtain ⟨h1, h2, h3, h4, h5, h6, h7, h8, h9, h10⟩ := id hx
  obtain ⟨g0, ⟨r1, r2, r3, r4, -, -, -, -, -, r15, -⟩, ⟨k1, k2, k3, k4, -⟩, ⟨n1, n2, n3, n4, -⟩⟩ := id h2
  refine k_Ga_lookAt h1 (i32s (by omega) (by omega)) ?_
  rw [r4, n4, hcc, Int.toNat_natCast]
  refine ⟨g0, k4, by omega, fun M4 e4 => ?_⟩
  have f4 : FI (fun x => x = g + 4) M M4 := by rw [e4]; exact FI.ui rfl
  rw [f4.1, f4.2.1, f4.2.2.1, r4, n4, f4.2.2.2.2.2.2 g (show ¬ g = g + 4 by omega), hcc, show Int.toNat ((k : Int) + 1) = k + 1 by omega]
  refine ⟨k4, by omega, fun M8 e8 => ?_⟩
  have f8 : FI (fun x => x = g + 4) M4 M8 := by rw [e8]; exact FI.ui rfl
  rw [f8.1, f8.2.1, f8.2.2.1, f4.1, f4.2.1, f4.2.2.1, r3, n3]
  refine ⟨k3, by omega, fun M12 e12 => ?_⟩
  have f12 : FI (fun x => x = g + 3) M8 M12 := by rw [e12]; exact FI.ui rfl
  have ff : FI (fun x => x = g + 4 ∨ x = g + 3) M M12 := ((f4.mono (fun _ y => Or.inl y)).trans (f8.mono (fun _ y => Or.inl y))).trans (f12.mono (fun _ y => Or.inr y))
  have bcc : i32 ((cc : Nat) : Int) := by rw [← hcc]; exact (h1 _ _).1
  have o12 : mOk M12 := by rw [e12]; exact mOk_UI (by rw [e8]; exact mOk_UI (by rw [e4]; exact mOk_UI h1 bcc) bcc) ⟨by decide, by decide⟩
  have x12 := hx.fi o12 (ff.mono (fun x y => Or.inl (by have y' : x = g + 4 ∨ x = g + 3 := y; omega)))
  have nb : ∀ x, x ≠ g + 4 → x ≠ g + 3 → mI M12 x = mI M x := fun x a b => ff.2.2.2.2.2.2 x (fun y => y.elim a b)
  have t4 : ∀ i, mI M12 (g + 4) i = if i = k + 1 then ((cc : Nat) : Int) else if i = k then ((cc : Nat) : Int) else mI M (g + 4) i := fun i => by
    rw [f12.2.2.2.2.2.2 _ (show ¬ g + 4 = g + 3 by omega), mI_ui _ i e8]
    by_cases y : i = k + 1
    · rw [if_pos ⟨rfl, y⟩, if_pos y]
    · rw [if_neg (fun t => y t.2), if_neg y, mI_ui _ i e4]
      by_cases y2 : i = k
      · rw [if_pos ⟨rfl, y2⟩, if_pos y2]
      · rw [if_neg (fun t => y2 t.2), if_neg y2]
  have gs12 : (∀ j, j < k → GS1 M12 g j) ∧ mI M12 (g + 3) k = 0 := by
    have t3 : ∀ i, mI M12 (g + 3) i = if i = k then 0 else mI M (g + 3) i := fun i => by
      rw [mI_ui _ i e12]
      by_cases y : i = k
      · rw [if_pos ⟨rfl, y⟩, if_pos y]
      · rw [if_neg (fun t => y t.2), if_neg y, f8.2.2.2.2.2.2 _ (show ¬ g + 3 = g + 4 by omega), f4.2.2.2.2.2.2 _ (show ¬ g + 3 = g + 4 by omega)]
    refine ⟨fun j hj => (hgs j hj).cg (by rw [nb _ (by omega) (by omega)]) (by rw [t3, if_neg (by omega)]) (by rw [t4, if_neg (by omega), if_neg (by omega)]) ?_, by rw [t3, if_pos rfl]⟩
    rw [t4, if_neg (by omega)]
    by_cases y : j + 1 = k
    · rw [if_pos y]
      rcases hgt with ⟨k0, -⟩ | ⟨k', ek, -, -, -, -, -, -, -, s8⟩
      · omega
      · rw [y, ← s8, ← ek]
    · rw [if_neg y]
  have q12 : GQ M12 g cn k cc bc := by
    have e0 := nb g (by omega) (by omega)
    refine ⟨⟨by rw [e0]; exact hcn.1, hcn.2.1, fun i hi => by rw [nb _ (by omega) (by omega)]; exact hcn.2.2 i hi⟩, by rw [e0]; exact hcc, by rw [e0]; exact hbc, ?_⟩
    rcases hgt with ⟨k0, c0, b0⟩ | ⟨k', ek, s1, s2, s3, s4, s5, s6, s7, s8⟩
    · subst k0
      subst c0
      subst b0
      exact ⟨Nat.le_refl _, by omega, fun c hc => absurd hc (by omega), fun y => absurd y (by omega), fun _ => rfl, fun j hj => ⟨0, 0, by rw [t4, if_neg (by omega), if_pos (by omega)], by rw [t4, if_pos (by omega)], Nat.le_refl _, Nat.le_refl _⟩, by rw [t4, if_neg (by omega), if_pos rfl]; rfl, by rw [t4, if_pos rfl]⟩
    · subst ek
      have e7 := nb (g + 7) (by omega) (by omega)
      refine ⟨s1, s2, fun c hc => (s3 c hc).cg ⟨by rw [e7], by rw [e7]⟩ (by rw [nb (g + 6) (by omega) (by omega)]) (by rw [nb (g + 5) (by omega) (by omega)]) (fun i _ => ⟨by rw [nb (g + 8) (by omega) (by omega)], by rw [nb (g + 9) (by omega) (by omega)]⟩) (Nat.le_refl _) (Nat.le_refl _), by rw [e7]; exact s4, s5, fun j hj => ?_, by rw [t4, if_neg (by omega), if_neg (by omega)]; exact s7, by rw [t4, if_pos rfl]⟩
      by_cases y : j = k' + 1
      · rw [y]
        exact ⟨cc, cc, by rw [t4, if_neg (by omega), if_pos rfl], by rw [t4, if_pos rfl], Nat.le_refl _, Nat.le_refl _⟩
      · obtain ⟨a, b, f1, f2, f3, f4'⟩ := s6 j (by omega)
        refine ⟨a, b, by rw [t4, if_neg (by omega), if_neg (by omega)]; exact f1, ?_, f3, f4'⟩
        rw [t4, if_neg (by omega)]
        by_cases y2 : j + 1 = k' + 1
        · rw [if_pos y2, ← s8, ← y2]; exact f2
        · rw [if_neg y2]; exact f2
  have s12 : mI M12 (g + 10) 9 = mI M (g + 10) 9 := by rw [nb _ (by omega) (by omega)]
  clear f4 f8 f12 ff t4 e4 e8 e12 nb
  obtain ⟨-, a2, a3, a4, a5, a6, a7, a8, a9, a10⟩ := id x12
  obtain ⟨b0, ⟨b1, -, -, -, -, -, -, -, -, b15, -⟩, ⟨bk1, -⟩, ⟨bn1, -⟩⟩ := id a2
  rw [b15, b1]
  have zU : g + 1 < mZ M12 ∧ g + 10 < mZ M12 := by have := a3.2.2.2.2.2.2.1.1; omega
  refine ⟨a3.1, ?_⟩
  refine k_Ma_enter o12 ⟨by omega, by omega⟩ ⟨a3.1, fun N2 e2 N4 e4 => ?_⟩
  have i4 : mI N4 (g + 10) 9 = mI M (g + 10) 9 := by rw [mI_ui _ _ e4, if_neg (fun t => absurd t.2 (by decide)), e2, mI_UR]; exact s12
  rw [i4]
  refine ⟨⟨by omega, by omega⟩, fun N7 e7 => ?_⟩
  have fu : FA (fun _ => False) (fun x => x = g + 10) M12 N2 := FA.ur rfl e2
  have c4 : FI (fun x => x = g + 10) N2 N4 := by rw [e4]; exact FI.ui rfl
  have c7 : FI (fun x => x = g + 10) N4 N7 := by rw [e7]; exact FI.ui rfl
  have cc7 := c4.trans c7
  have F7 : FA (fun x => x = g + 10) (fun x => x = g + 10) M12 N7 := (fu.mono (fun _ _ y => y.elim) (fun _ _ y => y)).trans (FI.fa cc7)
  have o7 : mOk N7 := by rw [e7]; exact mOk_UI (by rw [e4]; exact mOk_UI (by rw [e2]; exact mOk_UR o12) ⟨by omega, by omega⟩) ⟨by omega, by omega⟩
  have r7 : ∀ i, mR N7 (g + 10) i = if i = 3 then g + 1 else mR M12 (g + 10) i := fun i => by
    rw [cc7.2.2.1, e2, mR_UR]
    by_cases y : i = 3
    · rw [if_pos ⟨rfl, y⟩, if_pos y]
    · rw [if_neg (fun t => y t.2), if_neg y]
  have i7 : mI N7 (g + 10) 9 = mI M (g + 10) 9 + 1 ∧ mI N7 (g + 10) 4 = (k : Int) * 12 := by
    refine ⟨by rw [mI_ui _ _ e7, if_pos ⟨rfl, rfl⟩], by rw [mI_ui _ _ e7, if_neg (fun t => absurd t.2 (by decide)), mI_ui _ _ e4, if_pos ⟨rfl, rfl⟩]⟩
  have nb7 : ∀ x, x < mZ M12 → x ≠ g + 10 → mI N7 x = mI M12 x ∧ mR N7 x = mR M12 x := fun x hx hne => ⟨(F7.2 x hx).2.2.2.2 hne, (F7.2 x hx).2.2.2.1 hne⟩
  have Z7 : mZ N7 = mZ M12 ∧ mS N7 = mS M12 := by rw [cc7.2.2.2.2.1, cc7.2.2.2.2.2.1, e2]; exact ⟨rfl, rfl⟩
  have ne := x12.ne
  have cl : ∀ x, mK N7 x = mK M12 x ∧ mN N7 x = mN M12 x := fun x => by rw [cc7.1, cc7.2.1, e2]; exact ⟨rfl, rfl⟩
  have q7 : GQ N7 g cn k cc bc := q12.eq (fun i hi => (nb7 (g + i) (by have := a3.2.2.2.2.2.2.1.1; omega) (by omega)).1)
  have gs7 : (∀ j, j < k → GS1 N7 g j) ∧ mI N7 (g + 3) k = 0 := by
    have e9 : ∀ i, i ≤ 9 → mI N7 (g + i) = mI M12 (g + i) := fun i hi => (nb7 (g + i) (by have := a3.2.2.2.2.2.2.1.1; omega) (by omega)).1
    exact ⟨fun j hj => (gs12.1 j hj).cg (by rw [e9 2 (by omega)]) (by rw [e9 3 (by omega)]) (by rw [e9 4 (by omega)]) (by rw [e9 4 (by omega)]), by rw [e9 3 (by omega)]; exact gs12.2⟩
  have rg : mR N7 g = mR M12 g := (nb7 g (by omega) (by omega)).2
  have x7 : GX M0 z g p O P K V F ns sf ef L cnt Ab0 Be0 C0 N7 Ab Be C := by
    have F9 : FA (gaS g Ab Be) (gaR g) M12 N7 := F7.mono (fun x _ y => Or.inl (by have y' : x = g + 10 := y; omega)) (fun x _ y => Or.inr y)
    refine ⟨o7, a2.eq2 (fun i _ => cl _) (fun i _ => by rw [rg]), ?_, a4.fa F9 ne.2.2.2 ne.1 ne.2.1 ne.2.2.1, ⟨by rw [rg]; exact a5.1, by rw [r7, if_neg (by decide)]; exact a5.2⟩, a6, fun x hx => ?_, a8.trans ⟨F9, ⟨Or.inl rfl, Or.inl rfl⟩, by rw [Z7.2], by rw [Z7.1]; exact Nat.le_refl _⟩, fun x hx => ?_, fun i hi => ?_⟩
    · obtain ⟨e1, ⟨e21, e22, e23, e24, e25, e26, e27, e28, e29⟩, ⟨e31, e32⟩, e41, e5, e6, ⟨z1, z2, z3, z4⟩, e8⟩ := a3
      refine ⟨by rw [(cl _).1]; exact e1, ⟨by rw [r7, if_pos rfl], by rw [r7, if_neg (by decide)]; exact e22, by rw [r7, if_neg (by decide)]; exact e23, by rw [r7, if_neg (by decide)]; exact e24, by rw [r7, if_neg (by decide)]; exact e25, by rw [r7, if_neg (by decide)]; exact e26, by rw [r7, if_neg (by decide)]; exact e27, by rw [r7, if_neg (by decide)]; exact e28, by rw [r7, if_neg (by decide)]; exact e29⟩, ?_, ?_, ?_, e6, ⟨by rw [Z7.1]; exact z1, by rw [Z7.1]; exact z2, by rw [Z7.1]; exact z3, by rw [Z7.1]; exact zU.1⟩, e8⟩
      · rw [(cl _).1, (cl _).1, (cl _).1, (cl _).1, (cl _).1, (cl _).1, (cl _).1, (cl _).1, (cl _).1]
        exact ⟨bk1, e32⟩
      · rw [(cl _).2, (cl _).2, (cl _).2, (cl _).2, (cl _).2, (cl _).2, (cl _).2, (cl _).2]
        exact e41
      · rw [i7.2, (cl _).2, bn1]
        omega
    · have l := a9 x hx.1
      rw [show g + 15 = g + 10 + 5 by omega] at l
      have e5 := (nb7 (g + 10 + 5) (by have := a3.2.2.2.2.2.2.1.1; omega) (by omega)).1
      rw [e5, i7.1]
      rw [s12] at l
      exact ⟨by omega, fun t => by omega⟩
    · have l := a9 x hx
      have e5 := (nb7 (g + 15) (by have := a3.2.2.2.2.2.2.1.1; omega) (by omega)).1
      rw [e5, i7.1]
      rw [s12] at l
      omega
    · have pz := a4.1.2.2.2.2.1.1
      have po := a4.1.2.2.2.1.2.2.2
      rw [(F9.2 (p + i) (by omega)).2.2.2.2 (ne.1 i hi)]
      exact a10 i hi
  clear x12 a2 a3 a4 a5 a6 a7 a8 a9 a10 F7 cc7 c4 c7 fu r7 nb7 ne cl rg Z7 q12 e2 e4 e7 i4
  obtain ⟨-, l2, l3, l4, l5, -⟩ := id x7
  obtain ⟨m0, ⟨-, m2, -, -, -, -, -, -, -, m15, -⟩, -, -⟩ := id l2
  have tg := l4.2.2.2.2.2.1
  obtain ⟨st, e11, pc11⟩ : ∃ s : Nat, mI N7 p 11 = ((s : Nat) : Int) ∧ PC N7 O P V F ns ef L s 1 := by
    obtain ⟨-, -, -, -, -, -, u0, -, pg⟩ := l4
    rcases pg.2.1 with t | ⟨s, t1, t2⟩
    · exact absurd t tg
    · exact ⟨s, t1, t2⟩
  rw [l5.1, m15, e11]
  refine ⟨o7, m0, l4.1.1, l3.1, (s_Ga_run hF x7 pc11).mono (fun x22 M21 kk => ?_)⟩
  obtain ⟨i22, o21, hx22, A1, B1, C1, x21, f21, s21, z21, -⟩ := kk
  obtain ⟨ce1, ce2⟩ := ga_ce x7 f21
  have q21 := q7.eq ce1
  have gs21 : (∀ j, j < k → GS1 M21 g j) ∧ mI M21 (g + 3) k = 0 := ⟨fun j hj => (gs7.1 j hj).cg (by rw [ce1 2 (by omega)]) (by rw [ce1 3 (by omega)]) (by rw [ce1 4 (by omega)]) (by rw [ce1 4 (by omega)]), by rw [ce1 3 (by omega)]; exact gs7.2⟩
  obtain ⟨-, y2, y3, y4, y5, -⟩ := id x21
  obtain ⟨w0, ⟨-, w2, -, -, -, -, -, -, -, w15, -⟩, ⟨-, wk2, -⟩, ⟨-, wn2, -⟩⟩ := id y2
  have mA := y3.2.1.2.2.1
  have kA := y3.2.2.1.2.2.1
  have nA := y3.2.2.2.1.2.1
  have c64 := y3.2.2.2.2.2.2.2.1
  have st21 : mI M21 (g + 10) 9 = mI M (g + 10) 9 + 1 := by rw [s21]; exact i7.1
  rw [w15, mA, nA, w2, wn2]
  refine ⟨i22, o21, fun y => ⟨w0, (s_Ga_machineFault o21 w0 w15 y3.1).mono (fun r M' q => ?_)⟩, fun y => ⟨w0, y3.1, kA, ⟨by omega, by omega⟩, fun v39 e39 => ⟨wk2, by omega, fun M45 e45 => ?_⟩⟩⟩
  · obtain ⟨q1, q2, q3, q4, q5⟩ := q
    exact ⟨q1, q3, q1, ⟨A1, B1, C1, x21.fi q3 (q4.mono (fun x y => Or.inl (by have y' : x = g := y; omega)))⟩, by rw [q4.2.2.2.2.2.2 _ (show ¬ g + 10 = g by omega)]; exact st21, fun t => absurd (q2.symm.trans t) (z21 y)⟩
  · have f45 : FI (fun x => x = g + 2) M21 M45 := by rw [e45]; exact FI.ui rfl
    have i39 : i32 v39 := by rw [e39]; split <;> exact ⟨by decide, by decide⟩
    have o45 : mOk M45 := by rw [e45]; exact mOk_UI o21 i39
    have nb2 : ∀ x, x ≠ g + 2 → mI M45 x = mI M21 x := fun x hx => f45.2.2.2.2.2.2 x hx
    refine ⟨⟨by decide, by decide⟩, ⟨A1, B1, C1, x21.fi o45 (f45.mono (fun x y => Or.inl (by have y' : x = g + 2 := y; omega)))⟩, by rw [nb2 _ (by omega)]; exact st21, fun _ => ?_⟩
    obtain ⟨⟨u1, u2, u3⟩, u4, u5, t1, t2, t3, t4, t5, t6, t7, t8⟩ := q21
    have n0 := nb2 g (by omega)
    have n4 := nb2 (g + 4) (by omega)
    have n7 := nb2 (g + 7) (by omega)
    refine ⟨⟨⟨by rw [n0]; exact u1, u2, fun i hi => by rw [nb2 _ (by omega)]; exact u3 i hi⟩, by rw [n0]; exact u4, by rw [n0]; exact u5, t1, t2, fun c hc => (t3 c hc).cg ⟨by rw [n7], by rw [n7]⟩ (by rw [nb2 _ (by omega)]) (by rw [nb2 _ (by omega)]) (fun i _ => ⟨by rw [nb2 _ (by omega)], by rw [nb2 _ (by omega)]⟩) (Nat.le_refl _) (Nat.le_refl _), by rw [n7]; exact t4, t5, by rw [n4]; exact t6, by rw [n4]; exact t7, by rw [n4]; exact t8⟩, fun j hj => ?_⟩
    by_cases y : j = k
    · subst y
      intro x1 y1 q1 q2
      have e2 : mI M45 (g + 2) j = v39 := by rw [mI_ui _ j e45, if_pos ⟨rfl, rfl⟩]
      rw [nb2 (g + 3) (by omega), gs21.2, e2, e39]
      refine ⟨⟨Int.le_refl _, Or.inr rfl⟩, fun w => ?_⟩
      exfalso
      clear t1 t2 t3 t4 t5 t6 t7 t8 u3
      split at w <;> omega
    · exact (gs21.1 j (by omega)).cg (by rw [mI_ui _ j e45, if_neg (fun t => y t.2)]) (by rw [nb2 (g + 3) (by omega)]) (by rw [n4]) (by rw [n4])
end GAI
end
section
/-! The class's game: discover. -/
section GAJ
variable {G : mG} {d z g p O P K V F L cnt U w9 Ab Be C Ab0 Be0 C0 s h t c cn k u v cc n bc bc0 x a0 br mu cn0 : Nat} {M0 M M' M1 M2 MB : mM} {ns : Nat → Int} {sf ef : Nat → Nat} {H : Nat → Nat} {S R : Nat → Prop} {sm sh : Int}
/-- all states are found: a game of cn states -/
def GE (M : mM) (g cn : Nat) : Prop := ∃ cc bc : Nat, 1 ≤ cn ∧ GQ M g cn (cn - 1) cc bc ∧ GS M g (cn - 1)
/-- what discover comes to -/
def dcQ (M0 : mM) (z g p O P K V F : Nat) (ns : Nat → Int) (sf ef : Nat → Nat) (L cnt Ab0 Be0 C0 : Nat) (st : Int) (r : Int) (M' : mM) : Prop := i32 r ∧ (∃ U w9 Ab Be C, (U = g + 1 ∨ U = g + 11) ∧ GY U w9 M0 z g p O P K V F ns sf ef L cnt Ab0 Be0 C0 M' Ab Be C) ∧ (mI M' (g + 10) 9 ≤ st + 512 ∧ st ≤ mI M' (g + 10) 9) ∧ (r = 0 → ∃ cn : Nat, GE M' g cn) ∧ (r ≠ 0 → mI M' g 0 = 0 ∧ mI M' g 12 = 0 ∧ mI M' g 13 = 0)
theorem s_dc96 (hF : FMs G) {st : Int} (nx : ∀ (M : mM) (Ab Be C cn cc bc : Nat), GX M0 z g p O P K V F ns sf ef L cnt Ab0 Be0 C0 M Ab Be C → GQ M g cn k cc bc ∧ GS M g k → k < cn → mI M (g + 10) 9 = st + k + 1 → h_Ga_discover_72 G (d + 6) g ((k : Int) + 1) M (dcQ M0 z g p O P K V F ns sf ef L cnt Ab0 Be0 C0 st)) (hk : k < 512) (hst0 : 0 ≤ st) : ∀ (t i : Nat) (M : mM) (Ab Be C cn cc bc : Nat) (r : Int), cnt ≤ i + t → i ≤ cnt → i32 r → GX M0 z g p O P K V F ns sf ef L cnt Ab0 Be0 C0 M Ab Be C → mI M (g + 10) 9 = st + k + 1 → (r = 0 → (GQ M g cn k cc bc ∧ GS M g k) ∧ k < cn) → h_Ga_discover_96 G (d + 6) g k r i M (dcQ M0 z g p O P K V F ns sf ef L cnt Ab0 Be0 C0 st) := by
  intro t
  have fin : ∀ {M : mM} {Ab Be C cn cc bc : Nat} {r : Int}, i32 r → GX M0 z g p O P K V F ns sf ef L cnt Ab0 Be0 C0 M Ab Be C → mI M (g + 10) 9 = st + k + 1 → (r = 0 → (GQ M g cn k cc bc ∧ GS M g k) ∧ k < cn) → ((r = 0) → (h_Ga_discover_72 G (d + 6) g ((k : Int) + 1) M (dcQ M0 z g p O P K V F ns sf ef L cnt Ab0 Be0 C0 st))) ∧ (¬ (r = 0) → (∀ M52, M52 = mUI M g 11 k → Cv G y_Ga_clear (d + 6) [vr g] M52 (fun M54 => mOk M54 ∧ (dcQ M0 z g p O P K V F ns sf ef L cnt Ab0 Be0 C0 st r M54)))) := fun {M Ab Be C cn cc bc r} ir hx hst hq => by
    refine ⟨fun r0 => nx M Ab Be C cn cc bc hx (hq r0).1 (hq r0).2 hst, fun r0 M52 e52 => ?_⟩
    have f52 : FI (fun x => x = g) M M52 := by rw [e52]; exact FI.ui rfl
    have o52 : mOk M52 := by rw [e52]; exact mOk_UI hx.1 ⟨by omega, by omega⟩
    refine (s_Ga_clear o52 (by rw [f52.1]; exact hx.2.1.1)).mono (fun M54 q => ?_)
    obtain ⟨q1, q2, q3⟩ := q
    have ff := f52.trans q2
    refine ⟨q1, ir, ⟨g + 1, 1, Ab, Be, C, Or.inl rfl, hx.fi q1 (ff.mono (fun x y => Or.inl (by have y' : x = g := y; omega)))⟩, ?_, fun t => absurd t r0, fun _ => ⟨by rw [q3, if_neg (by decide), if_neg (by decide), if_pos rfl], by rw [q3, if_neg (by decide), if_pos rfl], by rw [q3, if_pos rfl]⟩⟩
    rw [ff.2.2.2.2.2.2 _ (show ¬ g + 10 = g by omega), hst]
    omega
  induction t with
  | zero =>
    intro i M Ab Be C cn cc bc r ht hi ir hx hst hq
    obtain ⟨h1, h2, h3, h4, h5, -⟩ := id hx
    have c12 := h4.2.2.2.2.1.1
    have c60 := h4.2.2.2.2.1.2
    refine k_Ga_discover_96 h1 (i32s (by omega) (by omega)) ir (i32s (by omega) (by omega)) ?_
    rw [h5.1, c12]
    exact ⟨h2.1, h4.1.1, fun y => absurd y (by omega), fun _ => fin ir hx hst hq, fun y => absurd (Or.inl (by omega)) y⟩
  | succ t ih =>
    intro i M Ab Be C cn cc bc r ht hi ir hx hst hq
    obtain ⟨h1, h2, h3, h4, h5, -⟩ := id hx
    obtain ⟨g0, ⟨-, r2, -⟩, ⟨-, k2, -⟩, ⟨-, n2, -⟩⟩ := id h2
    have c12 := h4.2.2.2.2.1.1
    have c60 := h4.2.2.2.2.1.2
    refine k_Ga_discover_96 h1 (i32s (by omega) (by omega)) ir (i32s (by omega) (by omega)) ?_
    rw [h5.1, c12, r2, n2]
    refine ⟨g0, h4.1.1, fun _ _ => ⟨k2, by omega⟩, fun _ => fin ir hx hst hq, fun y => ?_⟩
    have r0 : r = 0 := Classical.byContradiction (fun t => y (Or.inr (Or.inl t)))
    have ic : i < cnt := by
      by_cases t : ((cnt : Nat) : Int) ≤ i
      · exact absurd (Or.inl t) y
      · omega
    obtain ⟨q1, q2⟩ := hq r0
    refine (s_Ga_tryCommand hF hx ic hk q1.1 q1.2).mono (fun r' M' q => ?_)
    obtain ⟨w1, ⟨A', B', C', w2⟩, w3, w4⟩ := q
    rw [show ((i : Int) + 1) = ((i + 1 : Nat) : Int) by omega]
    by_cases e : r' = 0
    · obtain ⟨cn', cc', bc', w5, w6, w7, w8, w9⟩ := w4 e
      exact ⟨w1, w2.1, ih (i + 1) M' A' B' C' cn' cc' bc' r' (by omega) (by omega) w1 w2 (by rw [w3]; exact hst) (fun _ => ⟨⟨⟨⟨w5.1, w5.2.2.1, w5.2.2.2⟩, w6, w7, w8⟩, w9⟩, by omega⟩)⟩
    · exact ⟨w1, w2.1, ih (i + 1) M' A' B' C' cn cc bc r' (by omega) (by omega) w1 w2 (by rw [w3]; exact hst) (fun t => absurd t e)⟩
theorem s_dc72 (hF : FMs G) {st : Int} (hst0 : 0 ≤ st ∧ st < 100000000) : ∀ (t k : Nat) (M : mM) (U w9 Ab Be C cn cc bc : Nat), 512 ≤ k + t → k ≤ 512 → (U = g + 1 ∨ U = g + 11) → GY U w9 M0 z g p O P K V F ns sf ef L cnt Ab0 Be0 C0 M Ab Be C → (mI M g 0 = ((cn : Nat) : Int) ∧ cn ≤ 512 ∧ SLt M g cn) → 1 ≤ cn → k ≤ cn → mI M g 12 = ((cc : Nat) : Int) → mI M g 13 = ((bc : Nat) : Int) → ((k = 0 ∧ cc = 0 ∧ bc = 0) ∨ (∃ k', k = k' + 1 ∧ GT M g cn k' cc bc ∧ GS M g k')) → mI M (g + 10) 9 = st + k → h_Ga_discover_72 G (d + 6) g k M (dcQ M0 z g p O P K V F ns sf ef L cnt Ab0 Be0 C0 st) := by
  intro t
  have done : ∀ {k : Nat} {M : mM} {U w9 Ab Be C cn cc bc : Nat}, k ≤ 512 → (U = g + 1 ∨ U = g + 11) → GY U w9 M0 z g p O P K V F ns sf ef L cnt Ab0 Be0 C0 M Ab Be C → (mI M g 0 = ((cn : Nat) : Int) ∧ cn ≤ 512 ∧ SLt M g cn) → 1 ≤ cn → cn = k → mI M g 12 = ((cc : Nat) : Int) → mI M g 13 = ((bc : Nat) : Int) → ((k = 0 ∧ cc = 0 ∧ bc = 0) ∨ (∃ k', k = k' + 1 ∧ GT M g cn k' cc bc ∧ GS M g k')) → mI M (g + 10) 9 = st + k → dcQ M0 z g p O P K V F ns sf ef L cnt Ab0 Be0 C0 st 0 M := fun {k M U w9 Ab Be C cn cc bc} hk hU hx hcn h1c hck hcc hbc hgt hst => by
    refine ⟨⟨by decide, by decide⟩, ⟨U, w9, Ab, Be, C, hU, hx⟩, by rw [hst]; omega, fun _ => ?_, fun t => absurd rfl t⟩
    rcases hgt with ⟨k0, -⟩ | ⟨k', ek, gt⟩
    · omega
    · exact ⟨cn, cc, bc, h1c, ⟨hcn, hcc, hbc, by rw [show cn - 1 = k' by omega]; exact gt.1⟩, by rw [show cn - 1 = k' by omega]; exact gt.2⟩
  induction t with
  | zero =>
    intro k M U w9 Ab Be C cn cc bc ht hk hU hx hcn h1c hkc hcc hbc hgt hst
    refine k_Ga_discover_72 hx.1 (i32s (by omega) (by omega)) ⟨hx.2.1.1, fun _ => done hk hU hx hcn h1c (by omega) hcc hbc hgt hst, fun y => absurd (Or.inr (by omega)) y⟩
  | succ t ih =>
    intro k M U w9 Ab Be C cn cc bc ht hk hU hx hcn h1c hkc hcc hbc hgt hst
    refine k_Ga_discover_72 hx.1 (i32s (by omega) (by omega)) ?_
    rw [hcn.1]
    refine ⟨hx.2.1.1, fun y => done hk hU hx hcn h1c (by omega) hcc hbc hgt hst, fun y => ?_⟩
    have k5 : k < 512 ∧ k < cn := by omega
    refine (s_Ga_lookAt (d := d + 1) hF hU hx k5.1 hcn hcc hbc (by rw [hst]; clear hgt; omega) (hgt.imp id (fun ⟨k', e, q⟩ => ⟨k', e, q.1⟩)) (fun j hj => by
      rcases hgt with ⟨k0, -⟩ | ⟨k', ek, -, q⟩
      · omega
      · exact q j (by omega))).mono (fun r M' q => ?_)
    obtain ⟨w1, ⟨A', B', C', w2⟩, w3, w4⟩ := q
    rw [hst] at w3
    refine ⟨w1, w2.1, s_dc96 hF (fun M2 A2 B2 C2 cn2 cc2 bc2 y1 y2 y3 y4 => ?_) k5.1 hst0.1 cnt 0 M' A' B' C' cn cc bc r (by omega) (by omega) w1 w2 w3 (fun r0 => ⟨w4 r0, k5.2⟩)⟩
    rw [show ((k : Int) + 1) = ((k + 1 : Nat) : Int) by omega]
    obtain ⟨⟨z1, z2, z3, z4⟩, z5⟩ := y2
    exact ih (k + 1) M2 (g + 1) 1 A2 B2 C2 cn2 cc2 bc2 (by omega) (by omega) (Or.inl rfl) y1 z1 (by omega) (by omega) z2 z3 (Or.inr ⟨k, rfl, z4, z5⟩) (by rw [y4]; omega)
end GAJ
end
section
/-! The class's game: discover, the whole. -/
section GAK
variable {G : mG} {d z g p O P K V F L cnt U w9 Ab Be C Ab0 Be0 C0 s h t c cn k u v cc n bc bc0 x a0 br mu cn0 : Nat} {M0 M M' M1 M2 MB : mM} {ns : Nat → Int} {sf ef : Nat → Nat} {H : Nat → Nat} {S R : Nat → Prop} {sm sh : Int}
/-- the game at rest, and a program to explore -/
def GZ (M : mM) (z g p O P K V F : Nat) (ns : Nat → Int) (sf ef : Nat → Nat) (L cnt U Ab Be C : Nat) : Prop := mOk M ∧ GK M g ∧ MK M z (g + 10) U Ab Be C ∧ (U = g + 1 ∨ U = g + 11) ∧ PW M z p O P K V F ns sf ef L cnt ∧ (g + 23 ≤ z ∧ (g + 22 < p ∨ p + 15 < g) ∧ (O ≠ Ab ∧ O ≠ Be ∧ P ≠ Ab ∧ P ≠ Be)) ∧ (∀ x, x < 60 → mI M (g + 15) x ≤ mI M (g + 10) 9) ∧ (0 ≤ mI M (g + 10) 9 ∧ mI M (g + 10) 9 < 100000000)
theorem s_Ga_discover (hF : FMs G) (hz : GZ M z g p O P K V F ns sf ef L cnt U Ab Be C) : Ci G y_Ga_discover (d + 7) [vr g, vr p] M (dcQ M z g p O P K V F ns sf ef L cnt Ab Be C (mI M (g + 10) 9)) := by
  obtain ⟨h1, h2, h3, hU, h4, ⟨h61, h62, h63⟩, h7, h8⟩ := hz
  obtain ⟨o1, o2, -, o4⟩ := h4.1.2.2.2.1
  obtain ⟨a1, a2, a3, a4⟩ := h3.2.2.2.2.2.1
  have ne := ga_ne h61 h62 h63 o1 o2 o4 a1 a2
  have z1 := h3.2.2.2.2.2.2.1.1
  have zg : g < mZ M ∧ g + 10 < mZ M ∧ ∀ i, i ≤ 22 → g + i < mZ M := ⟨by omega, by omega, fun i hi => by omega⟩
  have pz : ∀ i, i ≤ 15 → p + i < mZ M := fun i hi => by omega
  have pg : ∀ i j, i ≤ 15 → j ≤ 22 → p + i ≠ g + j := fun i j hi hj => by omega
  refine k_Ga_discover h1 ⟨h2.1, (s_Ga_clear h1 h2.1).mono (fun M2 q => ?_)⟩
  obtain ⟨q1, q2, q3⟩ := q
  refine ⟨q1, by rw [q2.1]; exact h2.1, fun M6 e6 => ?_⟩
  have f6 : FA (fun _ => False) (fun x => x = g) M2 M6 := FA.ur rfl e6
  have r6 : ∀ y i, mR M6 y i = if y = g ∧ i = 14 then p else mR M y i := fun y i => by rw [e6, mR_UR, q2.2.2.1]
  have kn6 : ∀ y, mK M6 y = mK M y ∧ mN M6 y = mN M y ∧ mI M6 y = mI M2 y := fun y => by rw [e6]; exact ⟨by rw [mK_UR, q2.1], by rw [mN_UR, q2.2.1], by rw [mI_UR]⟩
  have r615 : mR M6 g 15 = g + 10 := by rw [r6, if_neg (fun t => absurd t.2 (by decide))]; exact h2.2.1.2.2.2.2.2.2.2.2.2.1
  rw [r615, r6 g 14, if_pos ⟨rfl, rfl⟩]
  refine ⟨by rw [(kn6 _).1]; exact h3.1, fun M9 e9 => ?_⟩
  have r9 : ∀ y i, mR M9 y i = if y = g + 10 ∧ i = 0 then p else if y = g ∧ i = 14 then p else mR M y i := fun y i => by rw [e9, mR_UR, r6]
  have kn9 : ∀ y, mK M9 y = mK M y ∧ mN M9 y = mN M y ∧ mI M9 y = mI M2 y := fun y => by rw [e9]; exact ⟨by rw [mK_UR, (kn6 y).1], by rw [mN_UR, (kn6 y).2.1], by rw [mI_UR, (kn6 y).2.2]⟩
  have z9 : mZ M9 = mZ M ∧ mS M9 = mS M := by rw [e9, mZ_UR, mS_UR, e6, mZ_UR, mS_UR, q2.2.2.2.2.1, q2.2.2.2.2.2.1]; exact ⟨rfl, rfl⟩
  have o9 : mOk M9 := by rw [e9]; exact mOk_UR (by rw [e6]; exact mOk_UR q1)
  have F9 : FA (gaS g Ab Be) (gaR g) M M9 := by
    have b2 : FA (gaS g Ab Be) (gaR g) M M2 := (FI.fa q2).mono (fun x _ y => Or.inl (by have y' : x = g := y; omega)) (fun x _ y => y)
    exact (b2.trans2 f6 (fun _ _ y => y.elim) (fun x _ y => Or.inl y)).trans2 (FA.ur (S := fun _ => False) (R := fun x => x = g + 10) rfl e9) (fun _ _ y => y.elim) (fun x _ y => Or.inr y)
  have g16 : mR M9 g 16 = g + 20 := by rw [r9, if_neg (fun t => absurd t.2 (by decide)), if_neg (fun t => absurd t.2 (by decide))]; exact h2.2.1.2.2.2.2.2.2.2.2.2.2.1
  have k20 := h2.2.2.1.2.2.2.2.2.2.2.2.2.1
  have n20 := h2.2.2.2.2.2.2.2.2.2.2.2.2.1
  rw [g16]
  refine (s_JA_fill (v := -1) o9 (by rw [(kn9 _).1]; exact k20) (by rw [(kn9 _).2.1, n20]; omega) ⟨by decide, by decide⟩).mono (fun M11 q => ?_)
  obtain ⟨o11, f11, v11⟩ := q
  rw [(kn9 _).2.1, n20] at v11
  have r11 : mR M11 g 15 = g + 10 := by rw [f11.2.2.1, r9, if_neg (fun t => absurd t.2 (by decide)), if_neg (fun t => absurd t.2 (by decide))]; exact h2.2.1.2.2.2.2.2.2.2.2.2.1
  have r11m : mR M11 (g + 10) 5 = g + 12 := by rw [f11.2.2.1, r9, if_neg (fun t => absurd t.2 (by decide)), if_neg (fun t => absurd t.2 (by decide))]; exact h3.2.1.2.1
  have km2 := h3.2.2.1.2.1
  have nm2 := h3.2.2.2.1.1
  rw [r11, r11m]
  refine ⟨o11, by rw [f11.1, (kn9 _).1]; exact h2.1, by rw [f11.1, (kn9 _).1]; exact h3.1, (s_JA_fill (v := 0) o11 (by rw [f11.1, (kn9 _).1]; exact km2) (by rw [f11.2.1, (kn9 _).2.1]; exact (by rw [nm2]; omega)) ⟨by decide, by decide⟩).mono (fun M16 q => ?_)⟩
  obtain ⟨o16, f16, -⟩ := q
  have fa16 : FI (fun x => x = g + 20 ∨ x = g + 12) M9 M16 := (f11.mono (fun _ y => Or.inl y)).trans (f16.mono (fun _ y => Or.inr y))
  have rp : ∀ i, mR M16 p i = mR M p i := fun i => by rw [fa16.2.2.1, r9, if_neg (fun t => pg 0 10 (by omega) (by omega) t.1), if_neg (fun t => pg 0 0 (by omega) (by omega) t.1)]
  have r1614 : mR M16 g 14 = p := by rw [fa16.2.2.1, r9, if_neg (fun t => absurd t.2 (by decide)), if_pos ⟨rfl, rfl⟩]
  have r1615 : mR M16 g 15 = g + 10 := by rw [f16.2.2.1]; exact r11
  have r16m : mR M16 (g + 10) 5 = g + 12 := by rw [f16.2.2.1]; exact r11m
  have p6 := h4.1.2.2.2.2.2.2.1.2.2.1
  have kp6 := h4.1.2.2.2.2.2.2.2.1.2.2.1
  have np6 := h4.1.2.2.2.2.2.2.2.2.2.2.1
  have i16 : ∀ x, x ≠ g + 20 → x ≠ g + 12 → x ≠ g → mI M16 x = mI M x := fun x a b c => by rw [fa16.2.2.2.2.2.2 x (fun y => y.elim a b), (kn9 x).2.2, q2.2.2.2.2.2.2 x c]
  have p3 : mI M16 p 3 = ((V : Nat) : Int) := by rw [i16 p (pg 0 20 (by omega) (by omega)) (pg 0 12 (by omega) (by omega)) (pg 0 0 (by omega) (by omega))]; exact h4.2.2.1.1
  have V12 := h4.2.2.1.2
  rw [r1614, r1615, rp 6, p6, r16m, p3, fa16.1, fa16.2.1, (kn9 _).1, (kn9 _).1, (kn9 _).1, (kn9 _).1, (kn9 _).1, (kn9 _).2.1, (kn9 _).2.1]
  refine ⟨o16, h2.1, h4.1.1, h3.1, kp6, km2, ⟨by omega, by omega, by omega, by rw [np6]; omega, by rw [nm2]; omega⟩, fun M25 e25 => ?_⟩
  have f25 : FI (fun x => x = g + 12) M16 M25 := by
    rw [e25]
    refine ⟨rfl, rfl, rfl, rfl, rfl, rfl, fun x hx => ?_⟩
    funext j
    exact if_neg (fun t => hx t.1)
  have o25 : mOk M25 := by rw [e25]; exact mOk_Cpy o16
  have fa25 : FI (fun x => x = g + 20 ∨ x = g + 12) M9 M25 := fa16.trans (f25.mono (fun _ y => Or.inr y))
  have i25 : ∀ x, x ≠ g + 20 → x ≠ g + 12 → x ≠ g → mI M25 x = mI M x := fun x a b c => by rw [f25.2.2.2.2.2.2 x b, i16 x a b c]
  have r25 : ∀ y i, mR M25 y i = if y = g + 10 ∧ i = 0 then p else if y = g ∧ i = 14 then p else mR M y i := fun y i => by rw [fa25.2.2.1, r9]
  have kn25 : ∀ y, mK M25 y = mK M y ∧ mN M25 y = mN M y := fun y => ⟨by rw [fa25.1, (kn9 y).1], by rw [fa25.2.1, (kn9 y).2.1]⟩
  have z25 : mZ M25 = mZ M ∧ mS M25 = mS M := ⟨by rw [fa25.2.2.2.2.1]; exact z9.1, by rw [fa25.2.2.2.2.2.1]; exact z9.2⟩
  have F25 : FA (gaS g Ab Be) (gaR g) M M25 := F9.trans2 (FI.fa (R := fun _ => False) fa25) (fun x _ y => Or.inl (by have y' : x = g + 20 ∨ x = g + 12 := y; omega)) (fun _ _ y => y.elim)
  have ig : ∀ i, mI M25 g i = mI M2 g i := fun i => by rw [fa25.2.2.2.2.2.2 g (fun y => by have y' : g = g + 20 ∨ g = g + 12 := y; omega), (kn9 g).2.2]
  have y25 : GY U 0 M z g p O P K V F ns sf ef L cnt Ab Be C M25 Ab Be C := by
    refine ⟨o25, h2.eq2 (fun i _ => kn25 _) (fun i hi => by rw [r25, if_neg (fun t => absurd t.1 (by omega)), if_neg (fun t => hi t.2)]), h3.eq2 (fun x _ => kn25 x) (fun i hi => by rw [r25, if_neg (fun t => absurd t.2 (by omega)), if_neg (fun t => absurd t.1 (by omega))]) (by rw [i25 (g + 10) (by omega) (by omega) (by omega)]) (by rw [z25.1]; exact Nat.le_refl _), h4.fa F25 ne.2.2.2 ne.1 ne.2.1 ne.2.2.1, ⟨by rw [r25, if_neg (fun t => absurd t.1 (by omega)), if_pos ⟨rfl, rfl⟩], by rw [r25, if_pos ⟨rfl, rfl⟩]⟩, ⟨h61, h62, h63⟩, fun x hx => absurd hx.2 (by decide), ⟨F25, ⟨Or.inl rfl, Or.inl rfl⟩, by rw [z25.2], by rw [z25.1]; exact Nat.le_refl _⟩, fun x hx => by rw [i25 (g + 15) (by omega) (by omega) (by omega), i25 (g + 10) (by omega) (by omega) (by omega)]; exact h7 x hx, fun i hi => by rw [i25 _ (pg i 20 hi (by omega)) (pg i 12 hi (by omega)) (pg i 0 hi (by omega))]⟩
  have s25 : SLt M25 g 0 := fun i hi => Or.inl (by rw [f25.2.2.2.2.2.2 _ (show ¬ g + 20 = g + 12 by omega), f16.2.2.2.2.2.2 _ (show ¬ g + 20 = g + 12 by omega)]; exact v11 i hi)
  have st25 : mI M25 (g + 10) 9 = mI M (g + 10) 9 := by rw [i25 (g + 10) (by omega) (by omega) (by omega)]
  have c0 : mI M25 g 0 = ((0 : Nat) : Int) := by rw [ig, q3, if_neg (by decide), if_neg (by decide), if_pos rfl]; rfl
  have c12 : mI M25 g 12 = ((0 : Nat) : Int) := by rw [ig, q3, if_neg (by decide), if_pos rfl]; rfl
  have c13 : mI M25 g 13 = ((0 : Nat) : Int) := by rw [ig, q3, if_pos rfl]; rfl
  refine (s_Ga_enter (d := d + 4) y25 c0 (by omega) s25).mono (fun x28 M27 q => ?_)
  obtain ⟨x27, f27, r27, cn', cn27, -, cn5', sl27, hto, i28, hm1⟩ := q
  have c1 : 1 ≤ cn' := by
    rcases hto with t | t
    · have := hm1 t; omega
    · omega
  refine ⟨i28, x27.1, ?_⟩
  have s27 : mI M27 (g + 10) 9 = mI M (g + 10) 9 + ((0 : Nat) : Int) := by
    rw [f27.2.2.2.2.2.2 (g + 10) (fun y => by have y' : g + 10 = g ∨ g + 10 = g + 1 ∨ g + 10 = g + 20 := y; omega), st25]
    omega
  exact s_dc72 hF h8 512 0 M27 U 0 Ab Be C cn' 0 0 (by omega) (by omega) hU x27 ⟨cn27, cn5', sl27⟩ c1 (by omega) (by rw [r27 12 (by decide)]; exact c12) (by rw [r27 13 (by decide)]; exact c13) (Or.inl ⟨rfl, rfl, rfl⟩) s27
end GAK
end
section
/-! The class's game: questions. -/
section GAL
variable {G : mG} {d g c cn k cc bc : Nat} {M M' : mM}
theorem s_Ga_hasState {l : Int} (il : i32 l) (h1 : mOk M) (hk : mK M g = 7) (hc : mI M g 0 = ((cn : Nat) : Int)) : Ci G y_Ga_hasState d [vr g, vi l] M (fun r M' => M' = M ∧ (r = 0 ∨ r = 1) ∧ (r ≠ 0 ↔ (0 ≤ l ∧ l < cn))) := by
  refine k_Ga_hasState h1 il ⟨fun _ => hk, fun v4 e4 => ⟨rfl, ?_⟩⟩
  rw [hc] at e4
  by_cases y : l < 0 ∨ ((cn : Nat) : Int) ≤ l
  · rw [if_pos y] at e4
    rw [e4]
    exact ⟨Or.inl rfl, ⟨fun t => absurd rfl t, fun t => by omega⟩⟩
  · rw [if_neg y] at e4
    rw [e4]
    exact ⟨Or.inr rfl, ⟨fun _ => by omega, fun _ => by decide⟩⟩
/-- the game at rest: no states, or all of them -/
def GR (M : mM) (g cn cc bc : Nat) : Prop := (cn = 0 ∧ mI M g 0 = 0) ∨ (1 ≤ cn ∧ GQ M g cn (cn - 1) cc bc)
theorem s_Ga_commandAt {l1 l2 : Int} (i1 : i32 l1) (i2 : i32 l2) (h1 : mOk M) (hk : GK M g) (hr : GR M g cn cc bc) : Ci G y_Ga_commandAt (d + 1) [vr g, vi l1, vi l2] M (fun r M' => M' = M ∧ i32 r ∧ (r = -1 ∨ (0 ≤ r ∧ r < cc ∧ 1 ≤ cn))) := by
  obtain ⟨g0, ⟨-, -, -, g4, -⟩, ⟨-, -, -, k4, -⟩, ⟨-, -, -, n4, -⟩⟩ := id hk
  have hc : mI M g 0 = ((cn : Nat) : Int) := by
    rcases hr with ⟨e1, e2⟩ | ⟨-, q⟩
    · rw [e1]; exact e2
    · exact q.1.1
  refine k_Ga_commandAt h1 i1 i2 ⟨g0, (s_Ga_hasState i1 h1 g0 hc).mono (fun x3 M2 q => ?_)⟩
  obtain ⟨e2, hx, hiff⟩ := q
  subst e2
  have rows : x3 ≠ 0 → ∃ a b : Nat, mI M2 (g + 4) l1.toNat = ((a : Nat) : Int) ∧ mI M2 (g + 4) (l1 + 1).toNat = ((b : Nat) : Int) ∧ a ≤ b ∧ b ≤ cc ∧ cc ≤ 4096 ∧ 0 ≤ l1 ∧ l1 < 512 ∧ 1 ≤ cn := fun y => by
    have b := hiff.mp y
    rcases hr with ⟨e1, -⟩ | ⟨c1, q⟩
    · omega
    · obtain ⟨⟨-, q2, -⟩, -, -, t1, t2, -, -, -, t6, -⟩ := q
      obtain ⟨x, y', f1, f2, f3, f4⟩ := t6 l1.toNat (by omega)
      exact ⟨x, y', f1, by rw [show (l1 + 1).toNat = l1.toNat + 1 by omega]; exact f2, f3, f4, by omega, b.1, by omega, c1⟩
  clear hr hiff
  rw [g4, n4]
  refine ⟨m_b32 hx, h1, fun y _ => ?_, fun _ => ⟨rfl, ⟨by decide, by decide⟩, Or.inl rfl⟩, fun y => ?_⟩
  · obtain ⟨a, b, f1, f2, f3, f4, f5, f6, f7, f8⟩ := rows y
    rw [f1, f2]
    exact ⟨g0, k4, by omega, by omega, ⟨by omega, by omega⟩⟩
  · have y0 : x3 ≠ 0 := fun t => y (Or.inl t)
    obtain ⟨a, b, f1, f2, f3, f4, f5, f6, f7, f8⟩ := rows y0
    have y1 : 0 ≤ l2 := by
      by_cases t : l2 < 0
      · exact absurd (Or.inr (Or.inl t)) y
      · omega
    have y2 : l2 < mI M2 (g + 4) (Int.toNat (l1 + 1)) - mI M2 (g + 4) (Int.toNat l1) := Classical.byContradiction (fun t => y (Or.inr (Or.inr t)))
    rw [f1, f2] at y2
    rw [f1]
    exact ⟨g0, k4, by omega, rfl, ⟨by omega, by omega⟩, Or.inr ⟨by omega, by omega, f8⟩⟩
theorem s_Ga_drawn {l2 : Int} (i2 : i32 l2) (h1 : mOk M) (hk : GK M g) (hc : c < cc) (hcc : cc ≤ bc) (hbc : bc ≤ 4096) (hcn : cn ≤ 512) (hm : cmdG M g cn bc c) : Ci G y_Ga_drawn d [vr g, vi c, vi l2] M (fun r M' => M' = M ∧ i32 r ∧ (r = -1 ∨ (0 ≤ r ∧ r < cn))) := by
  obtain ⟨g0, ⟨-, -, -, -, -, g6, g7, g8, g9, -⟩, ⟨-, -, -, -, -, k6, k7, k8, k9, -⟩, ⟨-, -, -, -, -, n6, n7, n8, n9, -⟩⟩ := id hk
  obtain ⟨x, y, mu, e1, e2, e3, e4, e5, e6, e7, e8, e9, -⟩ := hm
  have wl : ∀ i, x ≤ i → i < y → mI M (g + 9) i < 1000000000 := fun i a b => by
    have := wsm_le (M := M) (g := g) (x := x) (n := y - x) (fun i a b => (e5 i a (by omega)).2.2) (y - x) (Nat.le_refl _) i a (by omega)
    rw [e9] at this
    omega
  refine k_Ga_drawn h1 (i32s (by omega) (by omega)) i2 ?_
  rw [g6, n6, g7, n7, Int.toNat_natCast, e6, e1]
  refine ⟨g0, k6, by omega, k7, by omega, ?_⟩
  have b3 : i64 (l2 * ((mu : Nat) : Int)) := by
    have n1 : l2.natAbs ≤ 2147483648 := by unfold i32 at i2; omega
    have n2 : (((mu : Nat) : Int)).natAbs ≤ 1000000000 := by omega
    have := mulab n1 n2
    exact ⟨by omega, by omega⟩
  suffices HH : ∀ (t i : Nat) (j5 : Int), y ≤ i + t → x ≤ i → i ≤ y → 0 ≤ j5 → j5 ≤ ((i - x : Nat) : Int) * 1000000000 → h_Ga_drawn_22 G d g c (l2 * ((mu : Nat) : Int)) j5 i M (fun r M' => M' = M ∧ i32 r ∧ (r = -1 ∨ (0 ≤ r ∧ r < cn))) from HH (y - x) x 0 (by omega) (Nat.le_refl _) (by omega) (Int.le_refl _) (by omega)
  intro t
  induction t with
  | zero =>
    intro i j5 h2 h3 h4 h5 h6
    refine k_Ga_drawn_22 h1 (i32s (by omega) (by omega)) b3 ⟨by omega, by omega⟩ (i32s (by omega) (by omega)) ?_
    rw [g7, n7, show Int.toNat ((c : Int) + 1) = c + 1 by omega, e2]
    exact ⟨g0, k7, by omega, fun _ => ⟨rfl, ⟨by decide, by decide⟩, Or.inl rfl⟩, fun u => absurd u (by omega)⟩
  | succ t ih =>
    intro i j5 h2 h3 h4 h5 h6
    refine k_Ga_drawn_22 h1 (i32s (by omega) (by omega)) b3 ⟨by omega, by omega⟩ (i32s (by omega) (by omega)) ?_
    rw [g7, n7, show Int.toNat ((c : Int) + 1) = c + 1 by omega, e2, g8, g9, n8, n9, Int.toNat_natCast]
    refine ⟨g0, k7, by omega, fun _ => ⟨rfl, ⟨by decide, by decide⟩, Or.inl rfl⟩, fun u => ?_⟩
    have iy : i < y := by omega
    obtain ⟨w1, w2, w3⟩ := e5 i h3 iy
    have w4 := wl i h3 iy
    refine ⟨k9, by omega, fun _ => ?_, fun _ => ⟨k8, by omega, rfl, ⟨by omega, by omega⟩, Or.inr ⟨w1, w2⟩⟩⟩
    rw [show ((i : Int) + 1) = ((i + 1 : Nat) : Int) by omega]
    exact ih (i + 1) _ (by omega) (by omega) (by omega) (by omega) (by rw [show i + 1 - x = (i - x) + 1 by omega]; omega)
end GAL
end
section
/-! The class's natural numbers: places, values, small steps. -/
section NAA
variable {G : mG} {d a b Y Cy s n X Cx t : Nat} {M M' M1 M2 : mM}
/-- the value of k limbs of thirty bits -/
def dn (f : Nat → Int) : Nat → Int
  | 0 => 0
  | k + 1 => dn f k + f k * 2 ^ (30 * k)
theorem dn_cg {f g : Nat → Int} : ∀ k, (∀ j, j < k → f j = g j) → dn f k = dn g k
  | 0, _ => rfl
  | k + 1, h => by
    show dn f k + f k * 2 ^ (30 * k) = dn g k + g k * 2 ^ (30 * k)
    rw [dn_cg k (fun j hj => h j (by omega)), h k (by omega)]
/-- a number's places: Y its limbs, of Cy places -/
def Nl (M : mM) (a Y Cy : Nat) : Prop := mK M a = 10 ∧ mR M a 0 = Y ∧ mK M Y = 30 ∧ mN M Y = Cy ∧ (4 ≤ Cy ∧ Cy ≤ 100000) ∧ a ≠ Y ∧ (a < mZ M ∧ Y < mZ M)
/-- limbs that are limbs -/
def lim (M : mM) (Y n : Nat) : Prop := ∀ j, j < n → 0 ≤ mI M Y j ∧ mI M Y j < 1073741824
/-- a number of s limbs -/
def Nt (M : mM) (a Y Cy s : Nat) : Prop := Nl M a Y Cy ∧ mI M a 1 = ((s : Nat) : Int) ∧ s ≤ Cy ∧ lim M Y s ∧ (0 < s → mI M Y (s - 1) ≠ 0)
theorem Nl.fi {S : Nat → Prop} (h : Nl M a Y Cy) (f : FI S M M') : Nl M' a Y Cy := by
  obtain ⟨f1, f2, f3, -, f5, -⟩ := f
  unfold Nl at h ⊢
  rw [f1, f2, f3, f5]
  exact h
theorem s_Na_trim (hO : mOk M) (h : Nl M a Y Cy) (hn : n ≤ Cy) (hl : lim M Y n) : Cv G y_Na_trim d [vr a, vi n] M (fun M' => mOk M' ∧ FI (fun x => x = a) M M' ∧ (∀ i, i ≠ 1 → mI M' a i = mI M a i) ∧ ∃ s, s ≤ n ∧ Nt M' a Y Cy s ∧ dn (mI M' Y) s = dn (mI M Y) n) := by
  obtain ⟨k0, r0, kY, nY, ⟨c1, c2⟩, ne, z1, z2⟩ := id h
  refine k_Na_trim hO ⟨by omega, by omega⟩ ⟨k0, fun M2 e2 => ?_⟩
  have f2 : FI (fun x => x = a) M M2 := by rw [e2]; exact FI.ui rfl
  suffices HH : ∀ (t : Nat) (M1 : mM), t ≤ n → mOk M1 → FI (fun x => x = a) M M1 → (∀ i, i ≠ 1 → mI M1 a i = mI M a i) → mI M1 a 1 = ((t : Nat) : Int) → dn (mI M Y) t = dn (mI M Y) n → h_Na_trim_5 G d a M1 (fun M' => mOk M' ∧ FI (fun x => x = a) M M' ∧ (∀ i, i ≠ 1 → mI M' a i = mI M a i) ∧ ∃ s, s ≤ n ∧ Nt M' a Y Cy s ∧ dn (mI M' Y) s = dn (mI M Y) n) from HH n M2 (Nat.le_refl _) (by rw [e2]; exact mOk_UI hO ⟨by omega, by omega⟩) f2 (fun i hi => by rw [mI_ui a i e2, if_neg (fun u => hi u.2)]) (by rw [mI_ui a 1 e2, if_pos ⟨rfl, rfl⟩]) rfl
  intro t
  induction t with
  | zero =>
    intro M1 ht o f hi h1 hd
    have nb := f.2.2.2.2.2.2 Y (fun u => ne u.symm)
    refine k_Na_trim_5 o ⟨by rw [f.1]; exact k0, fun y => absurd y (by omega), fun _ => ⟨o, f, hi, 0, by omega, ⟨h.fi f, h1, by omega, fun j hj => absurd hj (by omega), fun u => absurd u (by omega)⟩, hd⟩, fun y => absurd (Or.inl (by omega)) y⟩
  | succ t ih =>
    intro M1 ht o f hi h1 hd
    have nb := f.2.2.2.2.2.2 Y (fun u => ne u.symm)
    refine k_Na_trim_5 o ?_
    rw [f.1, f.2.1, f.2.2.1, r0, nY, h1, show Int.toNat (((t + 1 : Nat) : Int) - 1) = t by omega, nb]
    refine ⟨k0, fun _ => ⟨kY, by omega⟩, fun y => ⟨o, f, hi, t + 1, ht, ⟨h.fi f, h1, by omega, fun j hj => by rw [nb]; exact hl j (by omega), fun _ => ?_⟩, hd⟩, fun y => ⟨⟨by omega, by omega⟩, fun M14 e14 => ?_⟩⟩
    · rw [nb, show t + 1 - 1 = t by omega]
      rcases y with y | y
      · omega
      · exact y
    · have y0 : mI M Y t = 0 := Classical.byContradiction (fun u => y (Or.inr u))
      have f14 : FI (fun x => x = a) M1 M14 := by rw [e14]; exact FI.ui rfl
      refine ih M14 (by omega) (by rw [e14]; exact mOk_UI o ⟨by omega, by omega⟩) (f.trans f14) (fun i hi' => by rw [mI_ui a i e14, if_neg (fun u => hi' u.2)]; exact hi i hi') (by rw [mI_ui a 1 e14, if_pos ⟨rfl, rfl⟩]; omega) ?_
      rw [← hd]
      show dn (mI M Y) t = dn (mI M Y) t + mI M Y t * 2 ^ (30 * t)
      rw [y0, Int.zero_mul, Int.add_zero]
/-- room for w limbs -/
theorem s_Na_reserve {w : Nat} (hO : mOk M) (h : Nl M a Y Cy) (hw : w ≤ 50000) (hC : Cy ≤ 50000) : Cv G y_Na_reserve (d + 2) [vr a, vi w] M (fun M' => mOk M' ∧ ∃ Y' Cy', Nl M' a Y' Cy' ∧ w ≤ Cy' ∧ Cy ≤ Cy' ∧ FA (fun _ => False) (fun x => x = a) M M' ∧ (∀ i, i ≠ 0 → mR M' a i = mR M a i) ∧ (∀ j, j < Cy → mI M' Y' j = mI M Y j) ∧ ((Y' = Y ∧ Cy' = Cy ∧ M' = M) ∨ (Y' = mZ M ∧ mZ M' = mZ M + 1 ∧ mS M' = mS M + Cy' ∧ 2 * Cy ≤ Cy' ∧ Cy' ≤ 2 * w))) := by
  obtain ⟨k0, r0, kY, nY, ⟨c1, c2⟩, ne, z1, z2⟩ := id h
  refine k_Na_reserve hO ⟨by omega, by omega⟩ ?_
  rw [r0, nY]
  refine ⟨k0, kY, ⟨by omega, by omega⟩, fun y => ⟨hO, Y, Cy, h, by omega, Nat.le_refl _, FA.refl, fun _ _ => rfl, fun _ _ => rfl, Or.inl ⟨rfl, rfl, rfl⟩⟩, fun y => ⟨⟨by omega, by omega⟩, ?_⟩⟩
  obtain ⟨l, el, l1, l2, l3⟩ : ∃ l : Nat, (if ((w : Nat) : Int) < 2 * ((Cy : Nat) : Int) then 2 * ((Cy : Nat) : Int) else ((w : Nat) : Int)) = ((l : Nat) : Int) ∧ 2 * Cy ≤ l ∧ w ≤ l ∧ l ≤ 2 * w := by
    by_cases u : ((w : Nat) : Int) < 2 * ((Cy : Nat) : Int)
    · exact ⟨2 * Cy, by rw [if_pos u]; omega, by omega, by omega, by omega⟩
    · exact ⟨w, by rw [if_neg u], by omega, by omega, by omega⟩
  rw [el]
  refine (s_JA_copyOf hO kY z2 (by omega) (by omega)).mono (fun x M9 q => ?_)
  obtain ⟨ex, o9, f9, Z9, S9, K9, N9, I9⟩ := q
  subst ex
  rw [nY] at I9
  refine ⟨o9, by rw [(f9.2 a z1).1]; exact k0, fun M15 e15 => ?_⟩
  have F15 : FA (fun _ => False) (fun x => x = a) M M15 := (f9.mono (fun _ _ y => y) (fun _ _ y => y.elim)).trans (FA.ur rfl e15)
  have Z15 : mZ M15 = mZ M + 1 := by rw [e15]; exact Z9
  refine ⟨by rw [e15]; exact mOk_UR o9, mZ M, l, ⟨by rw [(F15.2 a z1).1]; exact k0, by rw [e15, mR_UR, if_pos ⟨rfl, rfl⟩], by rw [e15]; exact K9, by rw [e15]; exact N9, ⟨by omega, by omega⟩, by omega, by omega, by omega⟩, l2, by omega, F15, fun i hi => by rw [e15, mR_UR, if_neg (fun u => hi u.2), (f9.2 a z1).2.2.2.1 (fun q => q)], fun j hj => by rw [e15, mI_UR]; exact I9 j hj, Or.inr ⟨rfl, Z15, by rw [e15, mS_UR]; exact S9, l1, l3⟩⟩
theorem s_Na_put0 {x : Int} (hx : 0 ≤ x ∧ x < 1073741824) (hO : mOk M) (h : Nl M a Y Cy) : Cv G y_Na_put0 d [vr a, vi x] M (fun M' => mOk M' ∧ FI (fun y => y = a ∨ y = Y) M M' ∧ ∃ s, s ≤ 1 ∧ Nt M' a Y Cy s ∧ dn (mI M' Y) s = x) := by
  obtain ⟨k0, r0, kY, nY, ⟨c1, c2⟩, ne, z1, z2⟩ := id h
  refine k_Na_put0 hO ⟨by omega, by omega⟩ ?_
  rw [r0, nY]
  refine ⟨k0, kY, ⟨by omega, by omega⟩, fun M4 e4 v7 e7 M12 e12 => ?_⟩
  have f4 : FI (fun y => y = Y) M M4 := by rw [e4]; exact FI.ui rfl
  have f12 : FI (fun y => y = a) M4 M12 := by rw [e12]; exact FI.ui rfl
  have ff : FI (fun y => y = a ∨ y = Y) M M12 := (f4.mono (fun _ y => Or.inr y)).trans (f12.mono (fun _ y => Or.inl y))
  have b7 : v7 = 0 ∨ v7 = 1 := by rw [e7]; split <;> omega
  have y12 : mI M12 Y 0 = x := by rw [f12.2.2.2.2.2.2 Y (fun u => ne u.symm), mI_ui Y 0 e4, if_pos ⟨rfl, rfl⟩]
  have a12 : mI M12 a 1 = v7 := by rw [mI_ui a 1 e12, if_pos ⟨rfl, rfl⟩]
  refine ⟨by rw [e12]; exact mOk_UI (by rw [e4]; exact mOk_UI hO ⟨by omega, by omega⟩) (m_b32 b7), ff, ?_⟩
  by_cases y : x = 0
  · rw [if_pos y] at e7
    exact ⟨0, by omega, ⟨h.fi ff, by rw [a12, e7]; rfl, by omega, fun j hj => absurd hj (by omega), fun u => absurd u (by omega)⟩, y.symm⟩
  · rw [if_neg y] at e7
    refine ⟨1, Nat.le_refl _, ⟨h.fi ff, by rw [a12, e7]; rfl, by omega, fun j hj => ?_, fun _ => by rw [show 1 - 1 = 0 by omega, y12]; exact y⟩, ?_⟩
    · rw [show j = 0 by omega, y12]
      exact hx
    · show 0 + mI M12 Y 0 * 2 ^ (30 * 0) = x
      rw [y12]
      simp
end NAA
end
section
/-! The class's natural numbers: questions. -/
section NAB
variable {G : mG} {d a b Y Cy s n X Cx r t : Nat} {M M' M1 M2 : mM}
theorem s_Na_isOne (hO : mOk M) (h : Nt M a Y Cy s) : Ci G y_Na_isOne d [vr a] M (fun x M' => M' = M ∧ (x = 0 ∨ x = 1)) := by
  obtain ⟨⟨k0, r0, kY, nY, ⟨c1, c2⟩, -⟩, -⟩ := h
  refine k_Na_isOne hO ?_
  rw [r0, nY]
  refine ⟨k0, fun _ => ⟨kY, ⟨by omega, by omega⟩⟩, fun v6 e6 => ⟨rfl, ?_⟩⟩
  rw [e6]
  split
  · exact Or.inr rfl
  · exact Or.inl rfl
theorem s_Na_order (hO : mOk M) (h : Nt M a Y Cy s) (k : Nt M b X Cx n) : Ci G y_Na_order d [vr a, vr b] M (fun x M' => M' = M ∧ (x = -1 ∨ x = 0 ∨ x = 1)) := by
  obtain ⟨⟨k0, r0, kY, nY, ⟨c1, c2⟩, -⟩, h1, h2, -⟩ := h
  obtain ⟨⟨l0, p0, kX, nX, ⟨e1, e2⟩, -⟩, g1, g2, -⟩ := k
  refine k_Na_order hO ?_
  rw [h1, g1]
  refine ⟨k0, l0, fun y => ?_, fun y v7 e7 => ⟨rfl, ?_⟩⟩
  · have sn : s = n := by omega
    subst sn
    suffices HH : ∀ t : Nat, t ≤ s → h_Na_order_35 G d a b (((t : Nat) : Int) - 1) M (fun x M' => M' = M ∧ (x = -1 ∨ x = 0 ∨ x = 1)) from HH s (Nat.le_refl _)
    intro t
    induction t with
    | zero =>
      intro ht
      exact k_Na_order_35 hO ⟨by omega, by omega⟩ ⟨fun _ => ⟨rfl, Or.inr (Or.inl rfl)⟩, fun y => absurd y (by omega)⟩
    | succ t ih =>
      intro ht
      refine k_Na_order_35 hO ⟨by omega, by omega⟩ ⟨fun y => absurd y (by omega), fun _ => ?_⟩
      rw [r0, p0, nY, nX, show Int.toNat (((t + 1 : Nat) : Int) - 1) = t by omega]
      refine ⟨k0, kY, by omega, l0, kX, by omega, fun _ => ?_, fun _ => ⟨by omega, by omega, fun v38 e38 => ⟨rfl, ?_⟩⟩⟩
      · rw [show ((t + 1 : Nat) : Int) - 1 + (-1) = ((t : Nat) : Int) - 1 by omega]
        exact ih (by omega)
      · rw [e38]
        split
        · exact Or.inr (Or.inr rfl)
        · exact Or.inl rfl
  · rw [e7]
    split
    · exact Or.inr (Or.inr rfl)
    · exact Or.inl rfl
end NAB
end
section
/-! Limbs of thirty bits: longs' bits, values, and Knuth's guess. -/
theorem j_and (x : Int) : andL x 1073741823 = x % 1073741824 := by
  unfold andL
  show (BitVec.ofInt 64 x &&& 1073741823#64).toInt = _
  have h0 : (BitVec.ofInt 64 x &&& 1073741823#64).toNat = (BitVec.ofInt 64 x).toNat % 1073741824 := by
    rw [BitVec.toNat_and]
    exact Nat.and_two_pow_sub_one_eq_mod _ 30
  have h1 : (BitVec.ofInt 64 x).toNat = (x % 18446744073709551616).toNat := by
    rw [BitVec.toNat_ofInt]; rfl
  rw [BitVec.toInt_eq_toNat_cond, h0, h1]
  have h3 : ((x % 18446744073709551616).toNat : Int) = x % 18446744073709551616 := Int.toNat_of_nonneg (Int.emod_nonneg _ (by decide))
  split <;> omega
theorem j_shr {x : Int} (h : i64 x) : shrL x 30 = x / 1073741824 := by
  unfold shrL
  show (BitVec.sshiftRight (BitVec.ofInt 64 x) _).toInt = _
  rw [BitVec.toInt_sshiftRight]
  have := i64_toInt h
  have e : (BitVec.ofInt 64 x).toInt = x := this
  rw [e]
  show x >>> 30 = _
  rw [Int.shiftRight_eq_div_pow]
  rfl
theorem j_ushr {x : Int} (h0 : 0 ≤ x) (h : x < 9223372036854775808) : ushrL x 30 = x / 1073741824 := by
  unfold ushrL
  show (BitVec.ushiftRight (BitVec.ofInt 64 x) 30).toInt = _
  have h1 : (BitVec.ofInt 64 x).toNat = x.toNat := by
    rw [BitVec.toNat_ofInt]
    show (x % 18446744073709551616).toNat = _
    rw [Int.emod_eq_of_lt h0 (by omega)]
  have h2 : (BitVec.ushiftRight (BitVec.ofInt 64 x) 30).toNat = x.toNat / 1073741824 := by
    show ((BitVec.ofInt 64 x) >>> 30).toNat = _
    rw [BitVec.toNat_ushiftRight, h1, Nat.shiftRight_eq_div_pow]
  rw [BitVec.toInt_eq_toNat_cond, h2]
  have h3 : ((x.toNat : Nat) : Int) = x := Int.toNat_of_nonneg h0
  split <;> omega
theorem j_shl {x : Int} (h : -8589934592 ≤ x ∧ x < 8589934592) : shlL x 30 = x * 1073741824 := by
  unfold shlL
  show ((BitVec.ofInt 64 x) <<< 30).toInt = _
  have e : (BitVec.ofInt 64 x) <<< 30 = BitVec.ofInt 64 (x * 1073741824) := by
    apply BitVec.eq_of_toNat_eq
    rw [BitVec.toNat_shiftLeft, BitVec.toNat_ofInt, BitVec.toNat_ofInt, Nat.shiftLeft_eq]
    show (x % 18446744073709551616).toNat * 1073741824 % 18446744073709551616 = ((x * 1073741824) % 18446744073709551616).toNat
    omega
  rw [e]
  exact i64_toInt (x := x * 1073741824) (by unfold i64; omega)
theorem j_c0 {x : Int} : cmpL x 0 = 0 ↔ x = 0 := by
  unfold cmpL; split
  · constructor <;> intro h <;> omega
  · split <;> constructor <;> intro h <;> first | omega | contradiction
theorem j_cn {x : Int} : cmpL x 0 < 0 ↔ x < 0 := by
  unfold cmpL; split
  · constructor <;> intro h <;> omega
  · split <;> constructor <;> intro h <;> omega
theorem j_cle {x z : Int} : cmpL x z ≤ 0 ↔ x ≤ z := by
  unfold cmpL; split
  · constructor <;> intro h <;> omega
  · split <;> constructor <;> intro h <;> omega
/-- powers of two as shifts of 1 -/
theorem j_sh1 : ∀ k : Nat, k ≤ 30 → shlI 1 (k : Int) = 2 ^ k := by
  have : ∀ k : Nat, k ≤ 30 → shlI 1 (k : Int) = ((2 ^ k : Nat) : Int) := by decide
  intro k hk
  rw [this k hk]
  norm_cast
section KNU
variable {P U V two u2 Ul v1 v2 Vl g : Int}
theorem kn_le {a b c : Int} (h : a ≤ b) (hc : 0 ≤ c) : a * c ≤ b * c := Int.mul_le_mul_of_nonneg_right h hc
/-- the guess is not too small -/
theorem kn_up (hP : 0 < P) (eU : U = (two * 1073741824 + u2) * P + Ul) (eV : V = (v1 * 1073741824 + v2) * P + Vl) (hl : Ul < P) (h2 : u2 < 1073741824) (k2 : 0 ≤ v2) (kl : 0 ≤ Vl) (hUV : U < V * 1073741824) (hg : 0 ≤ g) (h : g = 1073741823 ∨ two < (g + 1) * v1) : U < (g + 1) * V := by
  rcases h with h | h
  · rw [h]; omega
  · have a1 : (two + 1) * (1073741824 * P) ≤ ((g + 1) * v1) * (1073741824 * P) := kn_le (by omega) (by omega)
    have a2 : (u2 + 1) * P ≤ 1073741824 * P := kn_le (by omega) (by omega)
    have a3 : 0 ≤ (g + 1) * v2 * P := Int.mul_nonneg (Int.mul_nonneg (by omega) k2) (by omega)
    have a4 : 0 ≤ (g + 1) * Vl := Int.mul_nonneg (by omega) kl
    rw [eU, eV]
    clear eU eV hUV k2 kl h h2 hg
    grind
/-- and at most two too large -/
theorem kn_dn (hP : 0 < P) (eU : U = (two * 1073741824 + u2) * P + Ul) (eV : V = (v1 * 1073741824 + v2) * P + Vl) (hl : 0 ≤ Ul) (h2 : 0 ≤ u2) (k2 : 0 ≤ v2 ∧ v2 < 1073741824) (kl : 0 ≤ Vl ∧ Vl < P) (hv : 1073741824 ≤ 2 * v1) (hg : 0 ≤ g ∧ g < 1073741824) (h : g * v1 ≤ two) : (g - 2) * V ≤ U := by
  have a1 : (g * v1) * (1073741824 * P) ≤ two * (1073741824 * P) := kn_le h (by omega)
  have a2 : (v2 + 1) * P ≤ 1073741824 * P := kn_le (by omega) (by omega)
  have a3 : g * (v2 * P + Vl) ≤ g * (1073741824 * P) := Int.mul_le_mul_of_nonneg_left (by rw [Int.add_mul] at a2; omega) hg.1
  have a4 : g * (1073741824 * P) ≤ (2 * v1) * (1073741824 * P) := kn_le (by omega) (by omega)
  have a5 : 0 ≤ u2 * P := Int.mul_nonneg h2 (by omega)
  have a6 : 0 ≤ v2 * P := Int.mul_nonneg k2.1 (by omega)
  obtain ⟨k21, k22⟩ := k2
  obtain ⟨kl1, kl2⟩ := kl
  rw [eU, eV]
  clear eU eV h hg hv h2 a2 k21 k22
  grind
/-- a guess that the third limb tells to be too large -/
theorem kn_dec (hP : 0 < P) (eU : U = (two * 1073741824 + u2) * P + Ul) (eV : V = (v1 * 1073741824 + v2) * P + Vl) (hl : Ul < P) (kl : 0 ≤ Vl) (hg : 0 ≤ g) (h : (two - g * v1) * 1073741824 + u2 < g * v2) : U < (g - 1 + 1) * V := by
  have a1 : ((two - g * v1) * 1073741824 + u2 + 1) * P ≤ (g * v2) * P := kn_le (by omega) (by omega)
  have a4 : 0 ≤ g * Vl := Int.mul_nonneg hg kl
  rw [eU, eV]
  clear eU eV h hg
  grind
/-- a guess that the third limb lets pass is at most one too large -/
theorem kn_one (hP : 0 < P) (eU : U = (two * 1073741824 + u2) * P + Ul) (eV : V = (v1 * 1073741824 + v2) * P + Vl) (hl : 0 ≤ Ul) (k2 : 0 ≤ v2) (kl : 0 ≤ Vl ∧ Vl < P) (hv : 1 ≤ v1) (hg : 0 ≤ g ∧ g < 1073741824) (h : g * v2 ≤ (two - g * v1) * 1073741824 + u2) : (g - 1) * V ≤ U := by
  have a1 : (g * v2) * P ≤ ((two - g * v1) * 1073741824 + u2) * P := kn_le (by omega) (by omega)
  have a3 : g * Vl ≤ g * P := Int.mul_le_mul_of_nonneg_left (by omega) hg.1
  have a4 : g * P ≤ 1073741824 * P := kn_le (by omega) (by omega)
  have a5 : 1 * (1073741824 * P) ≤ v1 * (1073741824 * P) := kn_le hv (by omega)
  have a6 : 0 ≤ v2 * P := Int.mul_nonneg k2 (by omega)
  obtain ⟨kl1, kl2⟩ := kl
  rw [eU, eV]
  clear eU eV h hg hv k2
  grind
/-- what is left by the guess -/
theorem kn_rest (hP : 0 < P) (eU : U = (two * 1073741824 + u2) * P + Ul) (eV : V = (v1 * 1073741824 + v2) * P + Vl) (hl : 0 ≤ Ul) (h2 : 0 ≤ u2) (k2 : v2 < 1073741824) (kl : Vl < P) (hv : v1 < 1073741824) (hUV : U < V * 1073741824) (h1 : g * v1 ≤ two) (h : g = 1073741823 ∨ two < (g + 1) * v1) : 0 ≤ two - g * v1 ∧ two - g * v1 < 2147483648 := by
  refine ⟨by omega, ?_⟩
  rcases h with h | h
  · have a2 : (v2 + 1) * P ≤ 1073741824 * P := kn_le (by omega) (by omega)
    have a5 : 0 ≤ u2 * P := Int.mul_nonneg h2 (by omega)
    have a6 : two * (1073741824 * P) < ((v1 + 1) * 1073741824) * (1073741824 * P) := by
      clear h h1
      grind
    have a7 : two < (v1 + 1) * 1073741824 := Int.lt_of_mul_lt_mul_right a6 (by omega)
    rw [h]
    omega
  · rw [Int.add_mul, Int.one_mul] at h
    omega
/-- the true quotient -/
theorem kn_q {R : Int} (h1 : U < (g + 1) * V) (h0 : (g - 1) * V ≤ U) (hR : U - g * V = R) : (0 ≤ R → R < V) ∧ (R < 0 → 0 ≤ R + V) := by
  rw [Int.add_mul, Int.one_mul] at h1
  rw [Int.sub_mul, Int.one_mul] at h0
  omega
end KNU
theorem p30 (k : Nat) : (2 : Int) ^ (30 * (k + 1)) = 2 ^ (30 * k) * 1073741824 := by
  rw [show 30 * (k + 1) = 30 * k + 30 by omega, Int.pow_add]
  rfl
theorem p30p (k : Nat) : (0 : Int) < 2 ^ (30 * k) := Int.pow_pos (by decide)
theorem p30a (m k : Nat) : (2 : Int) ^ (30 * (m + k)) = 2 ^ (30 * m) * 2 ^ (30 * k) := by
  rw [show 30 * (m + k) = 30 * m + 30 * k by omega, Int.pow_add]
theorem p30m {m k : Nat} (h : m ≤ k) : (2 : Int) ^ (30 * m) ≤ 2 ^ (30 * k) := by
  obtain ⟨t, rfl⟩ := Nat.le.dest h
  rw [p30a]
  have h1 : (1 : Int) ≤ 2 ^ (30 * t) := p30p t
  have h2 := Int.mul_le_mul_of_nonneg_left h1 (Int.le_of_lt (p30p m))
  omega
theorem dn_s (f : Nat → Int) (k : Nat) : dn f (k + 1) = dn f k + f k * 2 ^ (30 * k) := rfl
/-- limbs -/
def lms (f : Nat → Int) (n : Nat) : Prop := ∀ j, j < n → 0 ≤ f j ∧ f j < 1073741824
theorem dn_nn {f : Nat → Int} : ∀ {n : Nat}, lms f n → 0 ≤ dn f n
  | 0, _ => Int.le_refl _
  | n + 1, h => by
    rw [dn_s]
    have h1 := dn_nn (n := n) (fun j hj => h j (by omega))
    have h2 := Int.mul_nonneg (h n (by omega)).1 (Int.le_of_lt (p30p n))
    omega
theorem dn_lt {f : Nat → Int} : ∀ {n : Nat}, lms f n → dn f n < 2 ^ (30 * n)
  | 0, _ => (by decide : (0 : Int) < 2 ^ (30 * 0))
  | n + 1, h => by
    rw [dn_s, p30]
    have h1 := dn_lt (n := n) (fun j hj => h j (by omega))
    have h2 := Int.mul_le_mul_of_nonneg_right (c := 2 ^ (30 * n)) (show f n ≤ 1073741823 by have := h n (by omega); omega) (Int.le_of_lt (p30p n))
    omega
theorem dn_ge {f : Nat → Int} {n : Nat} (h : lms f (n + 1)) (h0 : f n ≠ 0) : 2 ^ (30 * n) ≤ dn f (n + 1) := by
  rw [dn_s]
  have h1 := dn_nn (n := n) (fun j hj => h j (by omega))
  have h2 := Int.mul_le_mul_of_nonneg_right (c := 2 ^ (30 * n)) (show 1 ≤ f n by have := h n (by omega); omega) (Int.le_of_lt (p30p n))
  omega
/-- a number of s limbs without its highest is less -/
theorem dn_top {f : Nat → Int} {n : Nat} (h : lms f (n + 1)) (h0 : 2 ^ (30 * n) ≤ dn f (n + 1)) : f n ≠ 0 := by
  intro z
  rw [dn_s, z] at h0
  have h1 := dn_lt (n := n) (fun j hj => h j (by omega))
  omega
theorem dn_up {f g : Nat → Int} {i : Nat} : ∀ {n : Nat}, i < n → (∀ j, j < n → j ≠ i → g j = f j) → dn g n = dn f n + (g i - f i) * 2 ^ (30 * i)
  | 0, hi, _ => absurd hi (by omega)
  | n + 1, hi, h => by
    rw [dn_s, dn_s]
    by_cases z : i = n
    · subst z
      rw [dn_cg i (fun j hj => h j (by omega) (by omega)), Int.sub_mul]
      omega
    · rw [dn_up (n := n) (by omega) (fun j hj hj' => h j (by omega) hj'), h n (by omega) (fun u => z u.symm)]
      omega
theorem dn_z {f : Nat → Int} {s : Nat} : ∀ {n : Nat}, s ≤ n → (∀ j, s ≤ j → j < n → f j = 0) → dn f n = dn f s
  | 0, hs, _ => by rw [show s = 0 by omega]
  | n + 1, hs, h => by
    by_cases z : s = n + 1
    · rw [z]
    · rw [dn_s, h n (by omega) (by omega), dn_z (n := n) (by omega) (fun j h1 h2 => h j h1 (by omega))]
      omega
theorem dn_sp (f : Nat → Int) (m : Nat) : ∀ n, dn f (m + n) = dn f m + 2 ^ (30 * m) * dn (fun j => f (m + j)) n
  | 0 => by show dn f m = dn f m + 2 ^ (30 * m) * 0; omega
  | n + 1 => by
    show dn f (m + n) + f (m + n) * 2 ^ (30 * (m + n)) = dn f m + 2 ^ (30 * m) * (dn (fun j => f (m + j)) n + f (m + n) * 2 ^ (30 * n))
    rw [dn_sp f m n, p30a, Int.mul_add, Int.add_assoc, Int.mul_left_comm]
/-- the lowest limb apart -/
theorem dn_lo (f : Nat → Int) (n : Nat) : dn f (n + 1) = f 0 + 1073741824 * dn (fun j => f (1 + j)) n := by
  rw [show n + 1 = 1 + n by omega, dn_sp]
  show 0 + f 0 * 2 ^ (30 * 0) + _ = _
  rw [show (2 : Int) ^ (30 * 0) = 1 by decide, show (2 : Int) ^ (30 * 1) = 1073741824 by decide]
  omega
/-- sizes by values -/
theorem dn_sz {f : Nat → Int} {s n : Nat} (h : lms f s) (h0 : 0 < s → f (s - 1) ≠ 0) (hv : dn f s < 2 ^ (30 * n)) : s ≤ n := by
  refine Classical.byContradiction (fun u => ?_)
  obtain ⟨t, rfl⟩ : ∃ t, s = t + 1 := ⟨s - 1, by omega⟩
  have h1 := dn_ge h (h0 (by omega))
  have h2 := p30m (m := n) (k := t) (by omega)
  omega
/-- one step of a carry -/
theorem c_st {D D' l x : Int} {i : Nat} (e : D' = D + (x % 1073741824 - l) * 2 ^ (30 * i)) : D' + x / 1073741824 * 2 ^ (30 * (i + 1)) = D + (x - l) * 2 ^ (30 * i) := by
  rw [e, p30]
  have h := Int.emod_add_mul_ediv x 1073741824
  generalize (2 : Int) ^ (30 * i) = p at *
  have h2 : x * p = (x % 1073741824) * p + (x / 1073741824) * (p * 1073741824) := by
    conv => lhs; rw [← h]
    rw [Int.add_mul, Int.mul_comm 1073741824, Int.mul_assoc, Int.mul_comm 1073741824]
  rw [Int.sub_mul, Int.sub_mul, h2]
  omega
theorem al_mul {D1 D0 c f l p e : Int} (h : D1 + c * p = D0 + (f - 1) * e) : D1 + ((c + f * l) - l) * p = D0 + (f - 1) * (e + l * p) := by grind
theorem al_add {D1 D0 c f l p e x : Int} (h : D1 + c * p = D0 + f * e) : D1 + ((c + (l + f * x)) - l) * p = D0 + f * (e + x * p) := by grind
theorem al_car {D1 T c l p : Int} (h : D1 + c * p = T) : D1 + ((c + l) - l) * p = T := by grind
theorem al_prod {D1 D0 c f l pi pj e x : Int} (h : D1 + c * (pi * pj) = D0 + f * (pi * e)) : D1 + ((c + (l + f * x)) - l) * (pi * pj) = D0 + f * (pi * (e + x * pj)) := by grind
theorem al_div {N D e dv r p l q : Int} (h : N = dv * (D - (e + l * p)) + r * (p * 1073741824) + (e + l * p)) : N = dv * (D + (q - l) * p - e) + ((r * 1073741824 + l) - dv * q) * p + e := by grind
theorem al_sub {D1 D0 c f l p e x : Int} (h : D1 + c * p = D0 - f * e) : D1 + ((c + (l - f * x)) - l) * p = D0 - f * (e + x * p) := by grind
theorem al_cmb {D1 D0 c f g u v p e k : Int} (h : D1 + c * p = D0 - e + f * e + g * k) : D1 + ((c + (f * u + g * v)) - u) * p = D0 - (e + u * p) + f * (e + u * p) + g * (k + v * p) := by grind
theorem al_cmb2 {D1 D0 c f g u v p e k : Int} (h : D1 + c * p = D0 - k + f * e + g * k) : D1 + ((c + (f * u + g * v)) - v) * p = D0 - (k + v * p) + f * (e + u * p) + g * (k + v * p) := by grind
end
section
/-! The class's natural numbers: sums and multiples. -/
section NAC
variable {G : mG} {d a b Y Cy s n X Cx w : Nat} {M M' M1 M2 M3 : mM} {v : Int}
theorem i_ush {x : Int} (k : Nat) (hk : k < 32) (h0 : 0 ≤ x) (h : i32 x) : ushrI x k = x / 2 ^ k := by
  have e : ∀ k, k < 32 → ((Int32.ofInt ((k : Nat) : Int)).toUInt32 &&& Int32.toUInt32 31).toBitVec = BitVec.ofNat 32 k := by decide
  unfold ushrI
  show (BitVec.ofInt 32 x >>> (((Int32.ofInt ((k : Nat) : Int)).toUInt32 &&& Int32.toUInt32 31).toBitVec % 32#32)).toInt = _
  rw [e k hk]
  have e2 : ∀ k, k < 32 → (BitVec.ofNat 32 k % 32#32).toNat = k := by decide
  have h1 : (BitVec.ofInt 32 x).toNat = x.toNat := by
    rw [BitVec.toNat_ofInt]
    show (x % 4294967296).toNat = _
    rw [Int.emod_eq_of_lt h0 (by unfold i32 at h; omega)]
  have h2 : (BitVec.ofInt 32 x >>> (BitVec.ofNat 32 k % 32#32)).toNat = x.toNat / 2 ^ k := by
    rw [BitVec.ushiftRight_eq', e2 k hk, BitVec.toNat_ushiftRight, h1, Nat.shiftRight_eq_div_pow]
  rw [BitVec.toInt_eq_toNat_cond, h2]
  have h3 : ((x.toNat : Nat) : Int) = x := Int.toNat_of_nonneg h0
  have h4 : x.toNat / 2 ^ k ≤ x.toNat := Nat.div_le_self _ _
  have h5 : x.toNat < 2147483648 := by unfold i32 at h; omega
  rw [if_pos (by omega), Int.natCast_ediv, h3]
  norm_cast
theorem s_nlz {x : Int} (h0 : 0 < x) (h : i32 x) (hO : mOk M) : Ci G y_JI_nlz d [vi x] M (fun r M' => M' = M ∧ ∃ k : Nat, r = ((k : Nat) : Int) ∧ k ≤ 31 ∧ 2 ^ (31 - k) ≤ x ∧ x < 2 ^ (32 - k)) := by
  have us : ∀ (y : Int) (k : Nat), k < 32 → 0 ≤ y → i32 y → ushrI y (k : Int) = y / 2 ^ k := fun y k hk h0 h => i_ush k hk h0 h
  unfold i32 at h
  refine k_JI_nlz hO h ⟨fun _ v5 e5 v6 e6 v12 e12 v13 e13 v19 e19 v20 e20 v26 e26 v27 e27 => ⟨rfl, ?_⟩, fun y => absurd h0 y⟩
  have a1 : (x < 65536 ∧ v5 = x ∧ v6 = 31) ∨ (65536 ≤ x ∧ v5 = x / 65536 ∧ v6 = 15) := by
    by_cases c : x < 65536
    · rw [if_pos c] at e5 e6; exact Or.inl ⟨c, e5, e6⟩
    · rw [if_neg c] at e5 e6
      rw [show ushrI x 16 = x / 65536 from us x 16 (by decide) (by omega) h] at e5
      exact Or.inr ⟨by omega, e5, e6⟩
  have b5 : 0 < v5 ∧ v5 < 65536 := by omega
  have a2 : (v5 < 256 ∧ v12 = v5 ∧ v13 = v6) ∨ (256 ≤ v5 ∧ v12 = v5 / 256 ∧ v13 = v6 - 8) := by
    by_cases c : v5 < 256
    · rw [if_pos c] at e12 e13; exact Or.inl ⟨c, e12, e13⟩
    · rw [if_neg c] at e12 e13
      rw [show ushrI v5 8 = v5 / 256 from us v5 8 (by decide) (by omega) ⟨by omega, by omega⟩] at e12
      exact Or.inr ⟨by omega, e12, e13⟩
  have b12 : 0 < v12 ∧ v12 < 256 := by omega
  have a3 : (v12 < 16 ∧ v19 = v12 ∧ v20 = v13) ∨ (16 ≤ v12 ∧ v19 = v12 / 16 ∧ v20 = v13 - 4) := by
    by_cases c : v12 < 16
    · rw [if_pos c] at e19 e20; exact Or.inl ⟨c, e19, e20⟩
    · rw [if_neg c] at e19 e20
      rw [show ushrI v12 4 = v12 / 16 from us v12 4 (by decide) (by omega) ⟨by omega, by omega⟩] at e19
      exact Or.inr ⟨by omega, e19, e20⟩
  have b19 : 0 < v19 ∧ v19 < 16 := by omega
  have a4 : (v19 < 4 ∧ v26 = v19 ∧ v27 = v20) ∨ (4 ≤ v19 ∧ v26 = v19 / 4 ∧ v27 = v20 - 2) := by
    by_cases c : v19 < 4
    · rw [if_pos c] at e26 e27; exact Or.inl ⟨c, e26, e27⟩
    · rw [if_neg c] at e26 e27
      rw [show ushrI v19 2 = v19 / 4 from us v19 2 (by decide) (by omega) ⟨by omega, by omega⟩] at e26
      exact Or.inr ⟨by omega, e26, e27⟩
  have b26 : 0 < v26 ∧ v26 < 4 := by omega
  have e1 : ushrI v26 1 = v26 / 2 := us v26 1 (by decide) (by omega) ⟨by omega, by omega⟩
  rw [e1]
  clear e5 e6 e12 e13 e19 e20 e26 e27 us e1
  have fin : ∀ (k : Nat) (p q : Int), k ≤ 31 → v27 - v26 / 2 = (k : Int) → p = 2 ^ (31 - k) → q = 2 ^ (32 - k) → (p ≤ x ∧ x < q) → ∃ k : Nat, v27 - v26 / 2 = ((k : Nat) : Int) ∧ k ≤ 31 ∧ 2 ^ (31 - k) ≤ x ∧ x < 2 ^ (32 - k) := fun k p q hk e ep eq u => ⟨k, e, hk, by rw [← ep]; exact u.1, by rw [← eq]; exact u.2⟩
  rcases a1 with ⟨c1, q1, r1⟩ | ⟨c1, q1, r1⟩ <;> rcases a2 with ⟨c2, q2, r2⟩ | ⟨c2, q2, r2⟩ <;> rcases a3 with ⟨c3, q3, r3⟩ | ⟨c3, q3, r3⟩ <;> rcases a4 with ⟨c4, q4, r4⟩ | ⟨c4, q4, r4⟩ <;> rcases (show v26 = 1 ∨ 2 ≤ v26 by omega) with c5 | c5
  · exact fin 31 1 2 (by decide) (by omega) (by decide) (by decide) ⟨by omega, by omega⟩
  · exact fin 30 2 4 (by decide) (by omega) (by decide) (by decide) ⟨by omega, by omega⟩
  · exact fin 29 4 8 (by decide) (by omega) (by decide) (by decide) ⟨by omega, by omega⟩
  · exact fin 28 8 16 (by decide) (by omega) (by decide) (by decide) ⟨by omega, by omega⟩
  · exact fin 27 16 32 (by decide) (by omega) (by decide) (by decide) ⟨by omega, by omega⟩
  · exact fin 26 32 64 (by decide) (by omega) (by decide) (by decide) ⟨by omega, by omega⟩
  · exact fin 25 64 128 (by decide) (by omega) (by decide) (by decide) ⟨by omega, by omega⟩
  · exact fin 24 128 256 (by decide) (by omega) (by decide) (by decide) ⟨by omega, by omega⟩
  · exact fin 23 256 512 (by decide) (by omega) (by decide) (by decide) ⟨by omega, by omega⟩
  · exact fin 22 512 1024 (by decide) (by omega) (by decide) (by decide) ⟨by omega, by omega⟩
  · exact fin 21 1024 2048 (by decide) (by omega) (by decide) (by decide) ⟨by omega, by omega⟩
  · exact fin 20 2048 4096 (by decide) (by omega) (by decide) (by decide) ⟨by omega, by omega⟩
  · exact fin 19 4096 8192 (by decide) (by omega) (by decide) (by decide) ⟨by omega, by omega⟩
  · exact fin 18 8192 16384 (by decide) (by omega) (by decide) (by decide) ⟨by omega, by omega⟩
  · exact fin 17 16384 32768 (by decide) (by omega) (by decide) (by decide) ⟨by omega, by omega⟩
  · exact fin 16 32768 65536 (by decide) (by omega) (by decide) (by decide) ⟨by omega, by omega⟩
  · exact fin 15 65536 131072 (by decide) (by omega) (by decide) (by decide) ⟨by omega, by omega⟩
  · exact fin 14 131072 262144 (by decide) (by omega) (by decide) (by decide) ⟨by omega, by omega⟩
  · exact fin 13 262144 524288 (by decide) (by omega) (by decide) (by decide) ⟨by omega, by omega⟩
  · exact fin 12 524288 1048576 (by decide) (by omega) (by decide) (by decide) ⟨by omega, by omega⟩
  · exact fin 11 1048576 2097152 (by decide) (by omega) (by decide) (by decide) ⟨by omega, by omega⟩
  · exact fin 10 2097152 4194304 (by decide) (by omega) (by decide) (by decide) ⟨by omega, by omega⟩
  · exact fin 9 4194304 8388608 (by decide) (by omega) (by decide) (by decide) ⟨by omega, by omega⟩
  · exact fin 8 8388608 16777216 (by decide) (by omega) (by decide) (by decide) ⟨by omega, by omega⟩
  · exact fin 7 16777216 33554432 (by decide) (by omega) (by decide) (by decide) ⟨by omega, by omega⟩
  · exact fin 6 33554432 67108864 (by decide) (by omega) (by decide) (by decide) ⟨by omega, by omega⟩
  · exact fin 5 67108864 134217728 (by decide) (by omega) (by decide) (by decide) ⟨by omega, by omega⟩
  · exact fin 4 134217728 268435456 (by decide) (by omega) (by decide) (by decide) ⟨by omega, by omega⟩
  · exact fin 3 268435456 536870912 (by decide) (by omega) (by decide) (by decide) ⟨by omega, by omega⟩
  · exact fin 2 536870912 1073741824 (by decide) (by omega) (by decide) (by decide) ⟨by omega, by omega⟩
  · exact fin 1 1073741824 2147483648 (by decide) (by omega) (by decide) (by decide) ⟨by omega, by omega⟩
  · exact fin 0 2147483648 4294967296 (by decide) (by omega) (by decide) (by decide) ⟨by omega, by omega⟩
theorem s_JA_fillR {p q : Nat} (hO : mOk M) (hK : mK M a = 30) (hp : p ≤ q) (hq : q ≤ mN M a) (hN : mN M a ≤ 100000) (hv : i32 v) : Cv G y_JA_fillR (d + 2) [vr a, vi p, vi q, vi v] M (fun M' => mOk M' ∧ FI (fun x => x = a) M M' ∧ ∀ i, mI M' a i = if p ≤ i ∧ i < q then v else mI M a i) := by
  refine k_JA_fillR hO ⟨by omega, by omega⟩ ⟨by omega, by omega⟩ hv ⟨hK, ?_⟩
  refine k_JA_rangeCheck hO ⟨by omega, by omega⟩ ⟨by omega, by omega⟩ ⟨by omega, by omega⟩ ⟨fun _ => ⟨fun _ => ⟨fun _ => ⟨hO, ?_⟩, fun y => y (by omega)⟩, fun y => y (by omega)⟩, fun y => y (by omega)⟩
  suffices HH : ∀ (t i : Nat) (M1 : mM), q ≤ i + t → p ≤ i → i ≤ q → mOk M1 → FI (fun x => x = a) M M1 → (∀ j, mI M1 a j = if p ≤ j ∧ j < i then v else mI M a j) → h_JA_fillR_10 G (d + 1) a q v i M1 (fun M' => mOk M' ∧ FI (fun x => x = a) M M' ∧ ∀ i, mI M' a i = if p ≤ i ∧ i < q then v else mI M a i) from HH q p M (by omega) (by omega) hp hO FI.refl (fun j => by rw [if_neg (by omega)])
  intro t
  induction t with
  | zero =>
    intro i M1 h1 h2 h3 o f hj
    have e : i = q := by omega
    subst e
    exact k_JA_fillR_10 o ⟨by omega, by omega⟩ hv ⟨by omega, by omega⟩ ⟨fun _ => ⟨o, f, hj⟩, fun y => absurd y (by omega)⟩
  | succ t ih =>
    intro i M1 h1 h2 h3 o f hj
    refine k_JA_fillR_10 o ⟨by omega, by omega⟩ hv ⟨by omega, by omega⟩ ⟨fun y => ?_, fun y => ?_⟩
    · have e : i = q := by omega
      subst e
      exact ⟨o, f, hj⟩
    · rw [f.1, f.2.1, Int.toNat_natCast]
      refine ⟨hK, by omega, fun M8 e8 => ?_⟩
      rw [show ((i : Int) + 1) = ((i + 1 : Nat) : Int) by omega]
      refine ih (i + 1) M8 (by omega) (by omega) (by omega) (by rw [e8]; exact mOk_UI o hv) (f.trans (by rw [e8]; exact FI.ui rfl)) (fun j => ?_)
      rw [mI_ui a j e8, hj j]
      by_cases y1 : j = i
      · rw [if_pos ⟨rfl, y1⟩, if_pos (by omega)]
      · rw [if_neg (fun u => y1 u.2)]
        by_cases y2 : p ≤ j ∧ j < i
        · rw [if_pos y2, if_pos (by omega)]
        · rw [if_neg y2, if_neg (by omega)]
/-- a number becomes v; it wanted at most w limbs -/
def nst (M : mM) (a Y Cy w : Nat) (v : Int) (M' : mM) : Prop := mOk M' ∧ ∃ Y' Cy' s', Nt M' a Y' Cy' s' ∧ dn (mI M' Y') s' = v ∧ FA (fun x => x = a ∨ x = Y) (fun x => x = a) M M' ∧ ((Y' = Y ∧ Cy' = Cy ∧ mZ M' = mZ M ∧ mS M' = mS M) ∨ (Y' = mZ M ∧ Cy' ≤ 2 * w ∧ 2 * Cy ≤ Cy' ∧ mZ M' = mZ M + 1 ∧ mS M' = mS M + Cy'))
theorem nst_fi {s' : Nat} (h : Nt M' a Y Cy s') (o : mOk M') (f : FI (fun x => x = a ∨ x = Y) M M') (e : dn (mI M' Y) s' = v) : nst M a Y Cy w v M' :=
  ⟨o, Y, Cy, s', h, e, f.fa, Or.inl ⟨rfl, rfl, f.2.2.2.2.1, f.2.2.2.2.2.1⟩⟩
/-- what reserve left -/
def rsv (M : mM) (a Y Cy w Y' Cy' : Nat) (M' : mM) : Prop := (Y' = Y ∧ Cy' = Cy ∧ M' = M) ∨ (Y' = mZ M ∧ mZ M' = mZ M + 1 ∧ mS M' = mS M + Cy' ∧ 2 * Cy ≤ Cy' ∧ Cy' ≤ 2 * w)
theorem nst_rs {Y' Cy' s' : Nat} (F : FA (fun _ => False) (fun x => x = a) M M1) (g : rsv M a Y Cy w Y' Cy' M1) (f : FI (fun x => x = a ∨ x = Y') M1 M') (o : mOk M') (h : Nt M' a Y' Cy' s') (e : dn (mI M' Y') s' = v) : nst M a Y Cy w v M' := by
  refine ⟨o, Y', Cy', s', h, e, (F.mono (fun _ _ y => y.elim) (fun _ _ y => y)).trans2 (f.fa (R := fun _ => False)) ?_ (fun _ _ y => y.elim), ?_⟩
  · intro x hx u
    rcases u with u | u
    · exact Or.inl u
    · rcases g with ⟨g, -⟩ | ⟨g, -⟩
      · exact Or.inr (u.trans g)
      · omega
  · rcases g with ⟨g1, g2, g3⟩ | ⟨g1, g2, g3, g4, g5⟩
    · exact Or.inl ⟨g1, g2, by rw [f.2.2.2.2.1, g3], by rw [f.2.2.2.2.2.1, g3]⟩
    · exact Or.inr ⟨g1, g5, g4, by rw [f.2.2.2.2.1, g2], by rw [f.2.2.2.2.2.1, g3]⟩
theorem dn_ui {i : Nat} {x : Int} (hi : i < n) (e : M' = mUI M Y i x) : dn (mI M' Y) n = dn (mI M Y) n + (x - mI M Y i) * 2 ^ (30 * i) := by
  have h := dn_up (f := mI M Y) (g := mI M' Y) hi (fun j _ hj' => by rw [mI_ui Y j e, if_neg (fun u => hj' u.2)])
  rw [h, mI_ui Y i e, if_pos ⟨rfl, rfl⟩]
theorem lim_ui {i : Nat} {x : Int} (h : lim M Y n) (hx : 0 ≤ x ∧ x < 1073741824) (e : M' = mUI M Y i x) : lim M' Y n := fun j hj => by
  rw [mI_ui Y j e]
  by_cases c : Y = Y ∧ j = i
  · rw [if_pos c]; exact hx
  · rw [if_neg c]; exact h j hj
theorem m30 (x : Int) : 0 ≤ x % 1073741824 ∧ x % 1073741824 < 1073741824 := ⟨Int.emod_nonneg _ (by decide), Int.emod_lt_of_pos _ (by decide)⟩
theorem m30i (x : Int) : i32 (x % 1073741824) := ⟨by have := m30 x; omega, by have := m30 x; omega⟩
theorem l30i {x : Int} (h : 0 ≤ x ∧ x < 1073741824) : i32 x := ⟨by omega, by omega⟩
theorem s_Na_put0v {x : Int} (hx : 0 ≤ x ∧ x < 1073741824) (hO : mOk M) (h : Nl M a Y Cy) : Cv G y_Na_put0 d [vr a, vi x] M (nst M a Y Cy w x) := by
  refine (s_Na_put0 hx hO h).mono (fun M' q => ?_)
  obtain ⟨o, f, s, -, t, e⟩ := q
  exact nst_fi t o f e
theorem s_Na_putLong {x : Int} (hx : 0 ≤ x ∧ x < 1152921504606846976) (hO : mOk M) (h : Nl M a Y Cy) : Cv G y_Na_putLong (d + 1) [vr a, vl x] M (nst M a Y Cy w x) := by
  obtain ⟨k0, r0, kY, nY, ⟨c1, c2⟩, ne, z1, z2⟩ := id h
  refine k_Na_putLong hO ⟨by omega, by omega⟩ ?_
  rw [r0, nY, j_and, j_ushr hx.1 (by omega)]
  refine ⟨k0, kY, ⟨by omega, by omega⟩, m30i _, fun M5 e5 => ?_⟩
  have f5 : FI (fun y => y = Y) M M5 := by rw [e5]; exact FI.ui rfl
  rw [f5.1, f5.2.1, f5.2.2.1, r0, nY]
  refine ⟨kY, ⟨by omega, by omega⟩, ⟨by omega, by omega⟩, fun M10 e10 => ?_⟩
  have f10 : FI (fun y => y = Y) M5 M10 := by rw [e10]; exact FI.ui rfl
  have o10 : mOk M10 := by rw [e10]; exact mOk_UI (by rw [e5]; exact mOk_UI hO (m30i _)) ⟨by omega, by omega⟩
  have y0 : mI M10 Y 0 = x % 1073741824 := by rw [mI_ui Y 0 e10, if_neg (fun u => absurd u.2 (by decide)), mI_ui Y 0 e5, if_pos ⟨rfl, rfl⟩]
  have y1 : mI M10 Y 1 = x / 1073741824 := by rw [mI_ui Y 1 e10, if_pos ⟨rfl, rfl⟩]
  have ff := f5.trans f10
  refine (s_Na_trim (n := 2) o10 (h.fi ff) (by omega) (fun j hj => ?_)).mono (fun M12 q => ?_)
  · rcases (show j = 0 ∨ j = 1 by omega) with u | u
    · rw [u, y0]; exact m30 x
    · rw [u, y1]; omega
  · obtain ⟨o, f, -, s, -, t, e⟩ := q
    refine ⟨o, nst_fi t o ((ff.mono (fun _ u => Or.inr u)).trans (f.mono (fun _ u => Or.inl u))) ?_⟩
    rw [e]
    show 0 + mI M10 Y 0 * 2 ^ (30 * 0) + mI M10 Y 1 * 2 ^ (30 * 1) = x
    rw [y0, y1, show (2 : Int) ^ (30 * 0) = 1 by decide, show (2 : Int) ^ (30 * 1) = 1073741824 by decide]
    omega
end NAC
end
