/-! The solver: printing, telling, adopting, the next state. -/
section PR
variable {G : mG} {d s n k w : Nat} {M : mM}
abbrev syS (s o : Nat) : Nat → Prop := fun y => y = s + 12 ∨ y = s + 13 ∨ y = s + 67 ∨ y = o
theorem s_MS_say {a o ra p : Nat} (hO : mOk M) (h : Sv M s n) (hA : W3 M a ra) (oa : s + 67 < a) (z1 : mI M a 1 ≤ 900) (hv : wv M a < 10 ^ 160) (ho : mK M o = 30) (hp : p + 160 ≤ mN M o) (hp2 : p < 10000) (oo : o < s ∨ s + 21067 < o) :
    Ci G y_MS_say (d + 3) [vr s, vr a, vr o, vi p] M (fun r M' => mOk M' ∧ FI (syS s o) M M' ∧ Sv M' s n ∧ (p : Int) < r ∧ r ≤ (p : Int) + 160) := by
  obtain ⟨V, g, c, e, t, W, -⟩ := id h
  refine k_MS_say hO ⟨by omega, by omega⟩ ?_
  rw [V.r0, V.r31]
  refine ⟨V.k0, W.1.1.1, (s_digits2 (d := d) (D := 160) hO W.1 hA (by omega) z1 V.k67 (by rw [V.n67]; omega) (by omega) (by omega) hv (by omega)).mono (fun x M1 h1 => ?_)⟩
  obtain ⟨o1, f1, Z1, x0, x1, hd⟩ := h1
  have W1 : Wk M1 s := W.out f1 Z1 (fun y q => by omega)
  have S1 : Sv M1 s n := h.out f1 (fun y q => by omega) W1
  refine ⟨⟨by omega, by omega⟩, o1, ?_⟩
  suffices H : ∀ (c l : Nat) (M2 : mM), (l : Int) + c = x → mOk M2 → FI (fun y => y = o) M1 M2 → h_MS_say_17 G (d + 2) s o p x l M2 (fun r M' => mOk M' ∧ FI (syS s o) M M' ∧ Sv M' s n ∧ (p : Int) < r ∧ r ≤ (p : Int) + 160) from
    H x.toNat 0 M1 (by omega) o1 FI.refl
  intro c
  induction c with
  | zero =>
    intro l M2 hl o2 f2
    exact k_MS_say_17 o2 ⟨by omega, by omega⟩ ⟨by omega, by omega⟩ ⟨by omega, by omega⟩ ⟨fun _ => ⟨o2, (f1.mono (fun y q => by omega)).trans (f2.mono (fun y q => by omega)), S1.out f2 (fun y q => by omega) (W1.out f2 (W1.1.far f2 (fun y q => by omega)) (fun y q => by omega)), by omega, by omega⟩, fun q => by omega⟩
  | succ c ih =>
    intro l M2 hl o2 f2
    have V2 := S1.1.fi f2
    have n2 : mN M2 o = mN M o := by rw [f2.2.1, f1.2.1]
    have k2 : mK M2 o = 30 := by rw [f2.1, f1.1]; exact ho
    have hdl := hd (x - 1 - l).toNat (by omega)
    refine k_MS_say_17 o2 ⟨by omega, by omega⟩ ⟨by omega, by omega⟩ ⟨by omega, by omega⟩ ⟨fun q => by omega, fun _ => ?_⟩
    rw [V2.r31, V2.n67, n2, f2.2.2.2.2.2.2 (s + 67) (by omega)]
    refine ⟨V2.k0, V2.k67, by omega, k2, by omega, ⟨by omega, by omega⟩, fun M3 e3 => ?_⟩
    have f3 : FI (fun y => y = o) M2 M3 := by rw [e3]; exact FI.ui rfl
    have o3 : mOk M3 := by rw [e3]; exact mOk_UI o2 ⟨by omega, by omega⟩
    exact ih (l + 1) M3 (by omega) o3 (f2.trans f3)
theorem s_MS_print {o : Nat} (hO : mOk M) (h : Sv M s n) (hk : k < n) (hw : w < 3) (hh : mI M (s + 30) w ≠ 0) (ho : mK M o = 30) (hp : 400 ≤ mN M o) (oo : o < s ∨ s + 21067 < o) :
    Ci G y_MS_print (d + 4) [vr s, vi k, vi w, vr o] M (fun r M' => mOk M' ∧ FI (syS s o) M M' ∧ Sv M' s n ∧ 0 ≤ r ∧ r ≤ 321) := by
  have hn5 := h.n5
  obtain ⟨a1, a2⟩ := h.frac hk hw hh
  have al := a1.low
  obtain ⟨V, g, c, e, t, W, -⟩ := id h
  obtain ⟨F, -, -, -⟩ := id a1
  refine k_MS_print hO ⟨by omega, by omega⟩ ⟨by omega, by omega⟩ ?_
  rw [V.r11, V.n29, a2, F.1.2.1]
  refine ⟨V.k0, V.k29, by omega, F.1.1, (s_MS_say (d := d) (p := 0) hO h F.2.1 (by unfold frc; omega) (by omega) al.2.2.2.1 ho (by omega) (by omega) oo).mono (fun x M1 h1 => ?_)⟩
  obtain ⟨o1, f1, S1, x0, x1⟩ := h1
  have hs1 : ∀ y, syS s o y → y < frc s k w ∨ frc s k w + 4 < y := fun y q => by unfold frc; omega
  have F1 := F.out f1 hs1
  have a1' := a1.out f1 hs1
  have al1 := a1'.low
  rw [F1.1.1.2.2]
  refine ⟨⟨by omega, by omega⟩, o1, F1.1.1.1, F1.1.2.2.1.1.1, (s_MW_isOne o1 F1.1.2.2.1).mono (fun y M2 h2 => ?_)⟩
  obtain ⟨e2, hy⟩ := h2
  subst e2
  refine ⟨⟨by split at hy <;> omega, by split at hy <;> omega⟩, o1, fun _ => ⟨by rw [f1.1]; exact ho, by rw [f1.2.1]; omega, fun M3 e3 => ?_⟩, fun _ => ⟨o1, f1, S1, by omega, by omega⟩⟩
  have f3 : FI (fun y => y = o) M2 M3 := by rw [e3]; exact FI.ui rfl
  have o3 : mOk M3 := by rw [e3]; exact mOk_UI o1 ⟨by omega, by omega⟩
  have W1 := S1.2.2.2.2.2.1
  have S3 : Sv M3 s n := S1.out f3 (fun y q => by omega) (W1.out f3 (W1.1.far f3 (fun y q => by omega)) (fun y q => by omega))
  have hs3 : ∀ y, y = o → y < frc s k w ∨ frc s k w + 4 < y := fun y q => by unfold frc; omega
  have F3 := F1.1.out f3 hs3
  have al3 := (a1'.out f3 hs3).low
  rw [F3.1.1.2.2, show x + 1 = ((x + 1).toNat : Int) by omega]
  refine ⟨F3.1.1.1, S3.1.k0, (s_MS_say (d := d) (p := (x + 1).toNat) o3 S3 F3.1.2.2.1 (by unfold frc; omega) (by omega) al3.2.2.2.2 (by rw [f3.1, f1.1]; exact ho) (by rw [f3.2.1, f1.2.1]; omega) (by omega) oo).mono (fun z M4 h4 => ?_)⟩
  obtain ⟨o4, f4, S4, z0, z1⟩ := h4
  exact ⟨⟨by omega, by omega⟩, o4, o4, (f1.trans (f3.mono (fun y q => by omega))).trans f4, S4, by omega, by omega⟩
/-- only told commands have changed -/
theorem Sv.told {M' : mM} (h : Sv M s n) (f : FI (fun y => y = s + 32) M M') (ht : TW M' s) : Sv M' s n := by
  have hn5 := h.n5
  obtain ⟨V, g, c, e, t, W, T, R, H, hc⟩ := h
  have sg : sameG M M' s := sameG.of f (by omega) (fun y a b q => by omega)
  have fe := f.2.2.2.2.2.2
  exact ⟨V.fi f, sg.gw g, sg.gb c, by rw [sg.1]; exact e, ht, W.far f (fun y q => by omega), T.out f (fun y q => by omega), fun e he => (R e he).out f (fun y q => by omega), fun w hw => (H w hw).out f (by omega) (fun y q => by omega) hw, fun q => (hc (by rw [← fe (s + 30) (by omega)]; exact q)).out sg (fe _ (by omega))⟩
theorem s_MS_tell {i : Nat} (hO : mOk M) (h : Sv M s n) (hk : k < n) (hi : (i : Int) < mny M s k) : Cv G y_MS_tell d [vr s, vi k, vi i] M (fun M' => mOk M' ∧ FI (vK s) M M' ∧ Sv M' s n) := by
  have hn5 := h.n5
  obtain ⟨V, g, c, e, t, W, -⟩ := id h
  have h3 := g.2.2.1
  have hcm := g.cmd (i := k) (by omega)
  have hm0 : mny M s k ≤ 4200 := by unfold mny; omega
  refine k_MS_tell hO ⟨by omega, by omega⟩ ⟨by omega, by omega⟩ ?_
  rw [V.r14, V.n32, Int.toNat_natCast]
  refine ⟨V.k0, V.k32, by omega, fun M1 e1 => ?_⟩
  have f1 : FI (fun y => y = s + 32) M M1 := by rw [e1]; exact FI.ui rfl
  have o1 : mOk M1 := by rw [e1]; exact mOk_UI hO ⟨by omega, by omega⟩
  have sg : sameG M M1 s := sameG.of f1 (by omega) (fun y a b q => by omega)
  refine ⟨o1, f1.mono (fun y q => by omega), h.told f1 (fun j hj => ?_)⟩
  rw [sg.1] at hj
  rw [sg.hm, e1, mI_UI]
  by_cases z : j = k
  · rw [if_pos ⟨rfl, z⟩, z]
    exact ⟨by omega, fun _ => hi⟩
  · rw [if_neg (fun w => z w.2)]
    exact t j hj
theorem s_MS_adopt (hO : mOk M) (h : Sv M s n) (hh : mI M (s + 30) 0 = 1) : Cv G y_MS_adopt (d + 1) [vr s] M (fun M' => mOk M' ∧ FI (vK s) M M' ∧ Sv M' s n) := by
  have hn5 := h.n5
  obtain ⟨V, g, c, e, t, W, T, R, H, hc⟩ := id h
  have hc := hc hh
  refine k_MS_adopt hO ?_
  suffices Hh : ∀ (c k : Nat) (M2 : mM), k + c = n → mOk M2 → FI (fun y => y = s + 32) M M2 → TW M2 s → h_MS_adopt_2 G d s k M2 (fun M' => mOk M' ∧ FI (vK s) M M' ∧ Sv M' s n) from
    Hh n 0 M (by omega) hO FI.refl t
  intro c
  induction c with
  | zero =>
    intro k M2 hk o2 f2 t2
    have V2 := V.fi f2
    refine k_MS_adopt_2 o2 ⟨by omega, by omega⟩ ?_
    rw [f2.2.2.2.2.2.2 s (by omega), e]
    exact ⟨V2.k0, fun _ => ⟨o2, f2.mono (fun y q => by omega), h.told f2 t2⟩, fun q => by omega⟩
  | succ c ih =>
    intro k M2 hk o2 f2 t2
    have S2 := h.told f2 t2
    have V2 := V.fi f2
    have sg : sameG M M2 s := sameG.of f2 (by omega) (fun y a b q => by omega)
    have g2 := sg.gw g
    have h3 := g2.2.2.1
    have e2 : mI M2 s 1 = n := by rw [sg.1]; exact e
    have hcm := g2.cmd (i := k) (by omega)
    have hm0 : 0 ≤ mny M2 s k ∧ mny M2 s k ≤ 4200 := by unfold mny; omega
    refine k_MS_adopt_2 o2 ⟨by omega, by omega⟩ ?_
    rw [e2, V2.r14]
    refine ⟨V2.k0, fun q => by omega, fun _ => (s_MS_many o2 V2 g2 (by omega)).mono (fun y M3 h3' => ?_)⟩
    obtain ⟨e3, hy⟩ := h3'
    subst e3
    rw [V2.r15, V2.n33, V2.n32, Int.toNat_natCast, f2.2.2.2.2.2.2 (s + 33) (by omega)]
    refine ⟨⟨by omega, by omega⟩, o2, fun _ => ⟨V2.k0, V2.k33, by omega⟩, fun v hv => ?_⟩
    have hck := hc k (by omega)
    rw [← sg.hm] at hck
    have hv2 : 0 ≤ v ∧ (0 < mny M3 s k → v < mny M3 s k) ∧ v ≤ 4200 := by
      by_cases z : y = 0
      · rw [if_pos z] at hv
        omega
      · rw [if_neg z] at hv
        have := hck (by omega)
        omega
    refine ⟨V2.k32, by omega, ⟨by omega, by omega⟩, fun M4 e4 => ?_⟩
    have f4 : FI (fun y => y = s + 32) M3 M4 := by rw [e4]; exact FI.ui rfl
    have o4 : mOk M4 := by rw [e4]; exact mOk_UI o2 ⟨by omega, by omega⟩
    have sg4 : sameG M3 M4 s := sameG.of f4 (by omega) (fun y a b q => by omega)
    refine ih (k + 1) M4 (by omega) o4 (f2.trans f4) (fun j hj => ?_)
    rw [sg4.1] at hj
    rw [sg4.hm, e4, mI_UI]
    by_cases z : j = k
    · rw [if_pos ⟨rfl, z⟩, z]
      exact ⟨hv2.1, hv2.2.1⟩
    · rw [if_neg (fun w => z w.2)]
      exact t2 j hj
theorem s_MS_hasValues (hO : mOk M) (h : Sv M s n) : Ci G y_MS_hasValues d [vr s] M (fun r M' => M' = M ∧ (r = 0 ∨ r = 1) ∧ r = mI M (s + 30) 0) := by
  obtain ⟨V, g, c, e, t, W, T, R, H, hc⟩ := id h
  have a := (H 0 (by omega)).1
  refine k_MS_hasValues hO ?_
  rw [V.r12, V.n30]
  exact ⟨V.k0, V.k30, by omega, a, rfl, a, rfl⟩
end PR
