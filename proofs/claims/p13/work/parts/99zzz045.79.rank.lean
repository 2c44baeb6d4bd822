/-! The solver: ranks and choices. -/
def At (M : mM) (s n : Nat) (x : Nat → Rat) : Prop := Vk M s ∧ GW M s ∧ GB M s ∧ mI M s 1 = n ∧ Wk M s ∧ Xt M s 68 n x ∧ ∀ k, k < n → 0 ≤ x k ∧ x k ≤ 1
theorem At.out {S : Nat → Prop} {M M' : mM} {s n : Nat} {x : Nat → Rat} (h : At M s n x) (f : FI S M M') (hs : ∀ y, S y → (s < y ∧ y < s + 22) ∨ (s + 28 < y ∧ y < s + 68)) (hW : Wk M' s) : At M' s n x := by
  obtain ⟨V, g, c, e, -, X, b⟩ := h
  have G : sameG M M' s := sameG.of f (fun q => by have := hs s q; omega) (fun y a b q => by have := hs y q; omega)
  exact ⟨V.fi f, G.gw g, G.gb c, by rw [G.1]; exact e, hW, X.out f (fun y q => by have := hs y q; omega), b⟩
theorem At.wout {M M' : mM} {s n : Nat} {x : Nat → Rat} (h : At M s n x) (f : FI (wS s) M M') (hW : Wk M' s) : At M' s n x := h.out f (fun y q => by omega) hW
abbrev atQ (M : mM) (s : Nat) : Int → mM → Prop := fun r M' => mOk M' ∧ FI (wS s) M M' ∧ Wk M' s ∧ (r = 0 ∨ r = 1)
section RA
variable {G : mG} {d s n : Nat} {M : mM} {x : Nat → Rat}
theorem s_MS_attains {k i : Nat} (hO : mOk M) (hA : At M s n x) (hk : k < n) (hi : (i : Int) < mny M s k) : Ci G y_MS_attains (d + 6) [vr s, vi k, vi i] M (atQ M s) := by
  obtain ⟨hV, hG, hC, hn, hW, hX, h01⟩ := hA
  have h2 := hG.2.1
  have h3 := hG.2.2.1
  have hc := hG.cmd (i := k) (by omega)
  have hm0 : mny M s k ≤ 4200 := by unfold mny; omega
  refine k_MS_attains hO ⟨by omega, by omega⟩ ⟨by omega, by omega⟩ ?_
  rw [hV.r11]
  refine ⟨hV.k0, (s_MS_worthOf (d := d) (n := n) (Or.inr ⟨rfl, rfl, rfl⟩) hO hV hG hC hn (by omega) hi hW hX h01).mono (fun M2 h2' => ?_)⟩
  obtain ⟨o2, f2, W2, F2, C2, v2, s2⟩ := h2'
  have V2 := hV.fi f2
  have X2 := hX.out f2 (fun y q => by omega)
  have xk := X2 k hk
  have sz := smp_size F2 C2 (by rw [v2]; exact s2)
  have z3 := xk.1.2.1.1.2.2.2.2.2.2
  have z4 := xk.1.2.2.1.1.2.2.2.2.2.2
  rw [V2.r11, V2.r0, V2.r28, V2.n29, show (3 * (k : Int)).toNat = 3 * k + 0 by omega, V2.f29 k 0 (by omega) (by omega)]
  refine ⟨o2, V2.k0, V2.k29, by omega, W2.1.1.1, (s_MU_compare (d := d + 3) o2 W2.1 F2 xk.1 (by unfold suO; omega) (by unfold suO; omega) (by omega) (by omega)).mono (fun c M3 h3' => ?_)⟩
  obtain ⟨o3, f3, Z3, hcv⟩ := h3'
  have hc3 : c = -1 ∨ c = 0 ∨ c = 1 := by split at hcv <;> (try split at hcv) <;> omega
  exact ⟨⟨by omega, by omega⟩, o3, fun v hv => ⟨o3, f2.trans (f3.mono (fun y q => by omega)), W2.out f3 Z3 (fun y q => by omega), by split at hv <;> omega⟩⟩
theorem s_MS_leadsBelow {k i : Nat} {l : Int} (hl : i32 l) (hO : mOk M) (hV : Vk M s) (hG : GW M s) (hk : (k : Int) < mI M s 1) (hi : (i : Int) < mny M s k) : Ci G y_MS_leadsBelow d [vr s, vi k, vi i, vi l] M (fun r M' => M' = M ∧ (r = 0 ∨ r = 1)) := by
  have hc := hG.cmd hk
  unfold mny at hi
  have hb := hG.brn (c := (mI M (s + 23) k).toNat + i) (by omega)
  have h2 := hG.2.1
  have h3 := hG.2.2.1
  have h4 := hG.2.2.2.1
  have ht := hG.2.2.2.2.2.2.2.2.2.2
  refine k_MS_leadsBelow hO ⟨by omega, by omega⟩ ⟨by omega, by omega⟩ hl ?_
  rw [hV.r5, hV.r7, hV.n23, hV.n25, Int.toNat_natCast]
  have ec : (mI M (s + 23) k + (i : Int)).toNat = (mI M (s + 23) k).toNat + i := by omega
  have ec1 : (mI M (s + 23) k + (i : Int) + 1).toNat = (mI M (s + 23) k).toNat + i + 1 := by omega
  rw [ec]
  refine ⟨hV.k0, hV.k23, by omega, hV.k25, by omega, ?_⟩
  suffices H : ∀ (n : Nat) (f l6 : Int), mI M (s + 25) ((mI M (s + 23) k).toNat + i + 1) - l6 = n → mI M (s + 25) ((mI M (s + 23) k).toNat + i) ≤ l6 → (f = 0 ∨ f = 1) → h_MS_leadsBelow_22 G d s l (mI M (s + 23) k + i) f l6 M (fun r M' => M' = M ∧ (r = 0 ∨ r = 1)) from
    H _ 0 _ (Int.toNat_of_nonneg (by omega)).symm (by omega) (Or.inl rfl)
  intro n
  induction n with
  | zero =>
    intro f l6 hn hl6 hf
    refine k_MS_leadsBelow_22 hO hl ⟨by omega, by omega⟩ ⟨by omega, by omega⟩ ⟨by omega, by omega⟩ ?_
    rw [hV.r7, hV.n25, ec1]
    exact ⟨hV.k0, hV.k25, by omega, fun _ => ⟨hf, rfl, hf⟩, fun c => by omega⟩
  | succ n ih =>
    intro f l6 hn hl6 hf
    have htl := ht l6.toNat (by omega)
    refine k_MS_leadsBelow_22 hO hl ⟨by omega, by omega⟩ ⟨by omega, by omega⟩ ⟨by omega, by omega⟩ ?_
    rw [hV.r7, hV.r8, hV.r16, hV.n25, hV.n26, hV.n34, ec1]
    exact ⟨hV.k0, hV.k25, by omega, fun c => by omega, fun _ => ⟨hV.k26, by omega, hV.k34, by omega, fun v hv => ih v (l6 + 1) (by omega) (by omega) (by split at hv <;> omega)⟩⟩
theorem s_MS_isUnknown {k : Nat} (hO : mOk M) (hA : At M s n x) (hk : k < n) : Ci G y_MS_isUnknown (d + 2) [vr s, vi k] M (fun r M' => M' = M ∧ (r = 0 ∨ r = 1)) := by
  obtain ⟨hV, hG, hC, hn, hW, hX, h01⟩ := hA
  have h2 := hG.2.1
  have xk := hX k hk
  refine k_MS_isUnknown hO ⟨by omega, by omega⟩ ?_
  rw [hV.r4, hV.r11, hV.n22, hV.n29, show (3 * (k : Int)).toNat = 3 * k + 0 by omega, hV.f29 k 0 (by omega) (by omega)]
  refine ⟨hV.k0, hV.k22, by omega, fun _ => ⟨rfl, Or.inl rfl⟩, fun _ => ⟨hV.k29, by omega, xk.1.1.1, (s_MF_isZero hO xk.1).mono (fun y M2 h2' => ?_)⟩⟩
  obtain ⟨e2, hy⟩ := h2'
  subst e2
  exact ⟨⟨by split at hy <;> omega, by split at hy <;> omega⟩, hO, fun v hv => ⟨rfl, by split at hv <;> omega⟩⟩
theorem s_MS_getsRank {k : Nat} {l : Int} (hl : i32 l) (hO : mOk M) (hA : At M s n x) (hk : k < n) : Ci G y_MS_getsRank (d + 7) [vr s, vi k, vi l] M (atQ M s) := by
  have hA0 := hA
  obtain ⟨hV, hG, hC, hn, hW, hX, h01⟩ := hA
  have h2 := hG.2.1
  have h3 := hG.2.2.1
  have hc := hG.cmd (i := k) (by omega)
  have hm0 : 0 ≤ mny M s k ∧ mny M s k ≤ 4200 := by unfold mny; omega
  refine k_MS_getsRank hO ⟨by omega, by omega⟩ hl ?_
  suffices H : ∀ (c i : Nat) (e a : Int) (M2 : mM), i + c = (mny M s k).toNat → (e = 0 ∨ e = 1) → (a = 0 ∨ a = 1) → mOk M2 → FI (wS s) M M2 → Wk M2 s → h_MS_getsRank_8 G (d + 6) s k l e a i M2 (atQ M s) from
    H (mny M s k).toNat 0 0 1 M (by omega) (Or.inl rfl) (Or.inr rfl) hO FI.refl hW
  intro c
  induction c with
  | zero =>
    intro i e a M2 hi he ha o2 f2 W2
    have A2 := hA0.wout f2 W2
    obtain ⟨V2, G2, C2, n2, -, X2, -⟩ := A2
    have sg : sameG M M2 s := sameG.of f2 (by omega) (fun y _ _ => by omega)
    refine k_MS_getsRank_8 o2 ⟨by omega, by omega⟩ hl ⟨by omega, by omega⟩ ⟨by omega, by omega⟩ ⟨by omega, by omega⟩ ⟨V2.k0, (s_MS_many o2 V2 G2 (by omega)).mono (fun y M3 h3' => ?_)⟩
    obtain ⟨e3, hy⟩ := h3'
    subst e3
    rw [sg.hm] at hy
    rw [V2.r4, V2.n22]
    refine ⟨⟨by omega, by omega⟩, o2, fun _ => ⟨V2.k0, V2.k22, by omega, fun v hv => ?_⟩, fun q => by omega⟩
    have hv01 : v = 0 ∨ v = 1 := by split at hv <;> omega
    exact ⟨hv01, o2, f2, W2, hv01⟩
  | succ c ih =>
    intro i e a M2 hi he ha o2 f2 W2
    have A2 := hA0.wout f2 W2
    obtain ⟨V2, G2, C2, n2, -, X2, -⟩ := id A2
    have sg : sameG M M2 s := sameG.of f2 (by omega) (fun y _ _ => by omega)
    have him : (i : Int) < mny M2 s k := by rw [sg.hm]; omega
    refine k_MS_getsRank_8 o2 ⟨by omega, by omega⟩ hl ⟨by omega, by omega⟩ ⟨by omega, by omega⟩ ⟨by omega, by omega⟩ ⟨V2.k0, (s_MS_many o2 V2 G2 (by omega)).mono (fun y M3 h3' => ?_)⟩
    obtain ⟨e3, hy⟩ := h3'
    subst e3
    rw [sg.hm] at hy
    refine ⟨⟨by omega, by omega⟩, o2, fun q => by omega, fun _ => ⟨V2.k0, (s_MS_attains (d := d) o2 A2 hk him).mono (fun z M4 h4 => ?_)⟩⟩
    obtain ⟨o4, f4, W4, hz⟩ := h4
    have A4 := A2.wout f4 W4
    refine ⟨⟨by omega, by omega⟩, o4, fun q => ih (i + 1) e a M4 (by omega) he ha o4 (f2.trans f4) W4, fun q => ?_⟩
    have sg4 : sameG M3 M4 s := sameG.of f4 (by omega) (fun y _ _ => by omega)
    refine ⟨A4.1.k0, (s_MS_leadsBelow hl o4 A4.1 A4.2.1 (by rw [A4.2.2.2.1]; omega) (by rw [sg4.hm]; exact him)).mono (fun u M5 h5 => ?_)⟩
    obtain ⟨e5, hu⟩ := h5
    subst e5
    exact ⟨⟨by omega, by omega⟩, o4, fun v hv w hw => ih (i + 1) v w M5 (by omega) (by split at hv <;> omega) (by split at hw <;> omega) o4 (f2.trans f4) W4⟩
theorem s_MS_choose {k : Nat} (hO : mOk M) (hA : At M s n x) (hk : k < n) : Ci G y_MS_choose (d + 7) [vr s, vi k] M (fun r M' => mOk M' ∧ FI (wS s) M M' ∧ Wk M' s ∧ 0 ≤ r ∧ (0 < mny M s k → r < mny M s k)) := by
  have hA0 := hA
  obtain ⟨hV, hG, hC, hn, hW, hX, h01⟩ := hA
  have h2 := hG.2.1
  have h3 := hG.2.2.1
  have hc := hG.cmd (i := k) (by omega)
  have hm0 : 0 ≤ mny M s k ∧ mny M s k ≤ 4200 := by unfold mny; omega
  refine k_MS_choose hO ⟨by omega, by omega⟩ ?_
  suffices H : ∀ (c i : Nat) (M2 : mM), i + c = (mny M s k).toNat → mOk M2 → FI (wS s) M M2 → Wk M2 s → h_MS_choose_2 G (d + 6) s k i M2 (fun r M' => mOk M' ∧ FI (wS s) M M' ∧ Wk M' s ∧ 0 ≤ r ∧ (0 < mny M s k → r < mny M s k)) from
    H (mny M s k).toNat 0 M (by omega) hO FI.refl hW
  intro c
  induction c with
  | zero =>
    intro i M2 hi o2 f2 W2
    have A2 := hA0.wout f2 W2
    obtain ⟨V2, G2, C2, n2, -, X2, -⟩ := A2
    have sg : sameG M M2 s := sameG.of f2 (by omega) (fun y _ _ => by omega)
    refine k_MS_choose_2 o2 ⟨by omega, by omega⟩ ⟨by omega, by omega⟩ ⟨V2.k0, (s_MS_many o2 V2 G2 (by omega)).mono (fun y M3 h3' => ?_)⟩
    obtain ⟨e3, hy⟩ := h3'
    subst e3
    rw [sg.hm] at hy
    exact ⟨⟨by omega, by omega⟩, o2, fun _ => ⟨o2, f2, W2, by omega, fun q => q⟩, fun q => by omega⟩
  | succ c ih =>
    intro i M2 hi o2 f2 W2
    have A2 := hA0.wout f2 W2
    obtain ⟨V2, G2, C2, n2, -, X2, -⟩ := id A2
    have sg : sameG M M2 s := sameG.of f2 (by omega) (fun y _ _ => by omega)
    have him : (i : Int) < mny M2 s k := by rw [sg.hm]; omega
    have hfin : ∀ M4, mOk M4 → FI (wS s) M M4 → Wk M4 s → (mOk M4 ∧ FI (wS s) M M4 ∧ Wk M4 s ∧ 0 ≤ (i : Int) ∧ (0 < mny M s k → (i : Int) < mny M s k)) := fun M4 a b c => ⟨a, b, c, by omega, fun _ => by omega⟩
    refine k_MS_choose_2 o2 ⟨by omega, by omega⟩ ⟨by omega, by omega⟩ ⟨V2.k0, (s_MS_many o2 V2 G2 (by omega)).mono (fun y M3 h3' => ?_)⟩
    obtain ⟨e3, hy⟩ := h3'
    subst e3
    rw [sg.hm] at hy
    rw [V2.r4, V2.n22]
    refine ⟨⟨by omega, by omega⟩, o2, fun q => by omega, fun _ => ⟨V2.k0, V2.k22, by omega, fun _ => (s_MS_attains (d := d) o2 A2 hk him).mono (fun z M4 h4 => ?_), fun _ => (s_MS_isUnknown (d := d + 4) o2 A2 hk).mono (fun z M4 h4 => ?_)⟩⟩
    · obtain ⟨o4, f4, W4, hz⟩ := h4
      exact ⟨⟨by omega, by omega⟩, o4, fun _ => ih (i + 1) M4 (by omega) o4 (f2.trans f4) W4, fun _ => hfin M4 o4 (f2.trans f4) W4⟩
    · obtain ⟨e4, hz⟩ := h4
      subst e4
      refine ⟨⟨by omega, by omega⟩, o2, fun _ => ⟨fun _ => ih (i + 1) M4 (by omega) o2 f2 W2, fun q => absurd rfl q⟩, fun _ => ⟨V2.k0, (s_MS_attains (d := d) o2 A2 hk him).mono (fun u M5 h5 => ?_)⟩⟩
      obtain ⟨o5, f5, W5, hu⟩ := h5
      have A5 := A2.wout f5 W5
      have V5 := A5.1
      have sg5 : sameG M4 M5 s := sameG.of f5 (by omega) (fun y _ _ => by omega)
      rw [V5.r16, V5.n34]
      refine ⟨⟨by omega, by omega⟩, o5, fun _ => ⟨fun _ => ih (i + 1) M5 (by omega) o5 (f2.trans f5) W5, fun q => absurd rfl q⟩, fun _ => ⟨V5.k0, V5.k34, by omega, (s_MS_leadsBelow (o5 _ _).1 o5 V5 A5.2.1 (by rw [A5.2.2.2.1]; omega) (by rw [sg5.hm]; exact him)).mono (fun t M6 h6 => ?_)⟩⟩
      obtain ⟨e6, ht⟩ := h6
      subst e6
      exact ⟨⟨by omega, by omega⟩, o5, fun v hv => ⟨fun _ => ih (i + 1) M6 (by omega) o5 (f2.trans f5) W5, fun _ => hfin M6 o5 (f2.trans f5) W5⟩⟩
end RA
