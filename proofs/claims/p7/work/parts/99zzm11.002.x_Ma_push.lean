section
section
variable {G : mG} {d z m U Ab Be C Ab0 Be0 C0 t s c p O P K : Nat} {M0 M M' M1 M2 : mM} {S R : Nat → Prop}
theorem x_Ma_push {x y : Int} (h : MS M0 z m U Ab0 Be0 C0 M t c) (ht : t ≤ 16384) (hx : i32 x) (hy : 1 ≤ y ∧ y < 1000000000) : Cv G y_Ma_push (d + 2) [vr m, vi x, vi y] M (fun M' => MS M0 z m U Ab0 Be0 C0 M' (t + 1) c ∧ mtq m M M' ∧ plq M M' m t ∧ ptq M' m t x y) := by
  obtain ⟨Ab, Be, C, ok, hk, hf, hab, hr, ⟨h8, htC, hb⟩, hc, hm⟩ := h
  obtain ⟨k0, ⟨r3, r5, r6, r7, r10, r11, r12, r13, r14⟩, ⟨kU, k2, kA, kB, k5, k6, k7, k8, k9⟩, ⟨n2, nA, nB, n5, n6, n7, n8, n9⟩, hbs, ⟨sA, sB, sne, sz⟩, ⟨z0, zA, zB, zU⟩, ⟨c64, c32⟩⟩ := id hk
  have iy : i32 y := ⟨by omega, by omega⟩
  refine k_Ma_push ok hx iy ?_
  rw [r6, nA, h8]
  refine ⟨k0, kA, ⟨by omega, by omega⟩, fun e => ?_, fun e => ?_⟩
  · -- the pile grows
    have eC : C = t := by omega
    replace sA : Hid _ := sA
    replace sB : Hid _ := sB
    replace sne : Hid _ := sne
    replace hab : Hid _ := hab
    subst eC
    rw [show (2 : Int) * (C : Int) = ((2 * C : Nat) : Int) by first | rfl | omega]
    refine (s_JA_copyOf ok kA zA (by omega) (by omega)).mono (fun x10 M9 q => ?_)
    obtain ⟨ex, o9, f9, Z9, S9, K9, N9, I9⟩ := q
    subst ex
    have m9 : m < mZ M := by omega
    refine ⟨o9, by rw [(f9.2 m m9).1]; exact k0, fun M13 e13 => ?_⟩
    have f13 : FA (fun _ => False) (fun x => x = m) M9 M13 := FA.ur rfl e13
    have Z13 : mZ M13 = mZ M + 1 := by rw [e13]; exact Z9
    have g13 : FA (fun _ => False) (fun x => x = m) M M13 := (f9.mono (fun _ _ q => q) (fun _ _ q => q.elim)).trans f13
    have i13 : mI M13 m 8 = C := by rw [e13, mI_UR, (f9.2 m m9).2.2.2.2 (fun q => q)]; exact h8
    have b13 : mR M13 m 7 = Be := by rw [e13, mR_UR, if_neg (by omega), (f9.2 m m9).2.2.2.1 (fun q => q)]; exact r7
    have o13 : mOk M13 := by rw [e13]; exact o9
    rw [b13, i13, show (2 : Int) * (C : Int) = ((2 * C : Nat) : Int) by first | rfl | omega]
    refine (s_JA_copyOf (l := 2 * C) o13 (by rw [(g13.2 Be zB).1]; exact kB) (by omega) (by rw [(g13.2 Be zB).2.1]; omega) (by omega)).mono (fun x16 M15 q => ?_)
    obtain ⟨ex, o15, f15, Z15, S15, K15, N15, I15⟩ := q
    subst ex
    rw [Z13] at K15 N15 I15 Z15
    have iA30 : ∀ j, j < C → mI M9 (mZ M) j = mI M Ab j := fun j hj => I9 j (by omega)
    have nB13 : mN M13 Be = C := by rw [(g13.2 Be zB).2.1]; exact nB
    have iB13 : mI M13 Be = mI M Be := (g13.2 Be zB).2.2.2.2 (fun q => q)
    rw [nB13, iB13] at I15
    refine ⟨o15, by rw [(f15.2 m (by omega)).1, (g13.2 m m9).1]; exact k0, fun M19 e19 => ?_⟩
    have f19 : FA (fun _ => False) (fun x => x = m) M15 M19 := FA.ur rfl e19
    have f13_15 : FA (fun _ => False) (fun x => x = m) M13 M15 := f15.mono (fun _ _ q => q) (fun _ _ q => q.elim)
    have g19 : FA (fun _ => False) (fun x => x = m) M M19 := (g13.trans f13_15).trans f19
    have o19 : mOk M19 := by rw [e19]; exact o15
    have Z19 : mZ M19 = mZ M + 2 := by rw [e19, mZ_UR, Z15]
    have S19 : mS M19 = mS M + 4 * C := by rw [e19, mS_UR, S15, e13, mS_UR, S9]; omega
    have k19 : ∀ b, mK M19 b = mK M15 b := fun b => by rw [e19]; rfl
    have n19 : ∀ b, mN M19 b = mN M15 b := fun b => by rw [e19]; rfl
    have i19 : ∀ b, mI M19 b = mI M15 b := fun b => by rw [e19]; rfl
    have kZ : mK M19 (mZ M) = 30 := by rw [k19, (f15.2 (mZ M) (by omega)).1, e13]; exact K9
    have nZ : mN M19 (mZ M) = 2 * C := by rw [n19, (f15.2 (mZ M) (by omega)).2.1, e13]; exact N9
    have kZ1 : mK M19 (mZ M + 1) = 30 := by rw [k19]; exact K15
    have nZ1 : mN M19 (mZ M + 1) = 2 * C := by rw [n19]; exact N15
    have iZ1 : ∀ j, j < C → mI M19 (mZ M + 1) j = mI M Be j := fun j hj => by rw [i19]; exact I15 j hj
    have R19 : ∀ i, mR M19 m i = if i = 7 then mZ M + 1 else if i = 6 then mZ M else mR M m i := fun i => by
      rw [e19, mR_UR, Z13]
      by_cases y7 : i = 7
      · rw [if_pos ⟨rfl, y7⟩, if_pos y7]
      · rw [if_neg (fun q => y7 q.2), if_neg y7, (f15.2 m (by omega)).2.2.2.1 (fun q => q), e13, mR_UR]
        by_cases y6 : i = 6
        · rw [if_pos ⟨rfl, y6⟩, if_pos y6]
        · rw [if_neg (fun q => y6 q.2), if_neg y6, (f9.2 m m9).2.2.2.1 (fun q => q)]
    have M19i : ∀ b, b < mZ M → mI M19 b = mI M b := fun b hb => (g19.2 b hb).2.2.2.2 (fun q => q)
    have t19 : mI M19 m 8 = C := by rw [M19i m m9]; exact h8
    rw [R19 6, if_neg (by decide), if_pos rfl, t19, nZ, Int.toNat_natCast]
    refine ⟨kZ, by omega, fun M23 e23 => ?_⟩
    have f23 : FI (fun b => b = mZ M) M19 M23 := by rw [e23]; exact FI.ui rfl
    have t23 : mI M23 m 8 = C := by rw [f23.2.2.2.2.2.2 m (by omega)]; exact t19
    rw [f23.2.2.1, R19 7, if_pos rfl, f23.1, f23.2.1, t23, nZ1, Int.toNat_natCast]
    refine ⟨kZ1, by omega, fun M27 e27 => ?_⟩
    have f27 : FI (fun b => b = mZ M + 1) M23 M27 := by rw [e27]; exact FI.ui rfl
    have t27 : mI M27 m 8 = C := by rw [f27.2.2.2.2.2.2 m (by omega)]; exact t23
    rw [t27]
    refine ⟨⟨by omega, by omega⟩, fun M30 e30 => ?_⟩
    have f30 : FI (fun b => b = m) M27 M30 := by rw [e30]; exact FI.ui rfl
    have f1930 : FI (fun b => b = m ∨ b = mZ M ∨ b = mZ M + 1) M19 M30 := ((f23.mono (fun _ q => Or.inr (Or.inl q))).trans (f27.mono (fun _ q => Or.inr (Or.inr q)))).trans (f30.mono (fun _ q => Or.inl q))
    have FF : FA (fun x => x = m) (fun x => x = m) M M30 := (g19.mono (fun _ _ q => q.elim) (fun _ _ q => q)).trans2 (FI.fa (R := fun _ => False) f1930) (fun x hx q => by
      rcases q with q | q | q
      · exact q
      · omega
      · omega) (fun _ _ q => q.elim)
    have o30 : mOk M30 := by rw [e30]; exact mOk_UI (by rw [e27]; exact mOk_UI (by rw [e23]; exact mOk_UI o19 hx) iy) ⟨by omega, by omega⟩
    have i30 : ∀ i, mI M30 m i = if i = 8 then (C : Int) + 1 else mI M m i := fun i => by
      rw [mI_ui m i e30]
      by_cases y8 : i = 8
      · rw [if_pos ⟨rfl, y8⟩, if_pos y8]
      · rw [if_neg (fun q => y8 q.2), if_neg y8, f27.2.2.2.2.2.2 m (by omega), f23.2.2.2.2.2.2 m (by omega), M19i m m9]
    have b30 : ∀ j, j < C + 1 → mI M30 (mZ M + 1) j = if j = C then y else mI M Be j := fun j hj => by
      rw [f30.2.2.2.2.2.2 (mZ M + 1) (by omega), mI_ui _ j e27]
      by_cases yC : j = C
      · rw [if_pos ⟨rfl, yC⟩, if_pos yC]
      · rw [if_neg (fun q => yC q.2), if_neg yC, f23.2.2.2.2.2.2 (mZ M + 1) (by omega), iZ1 j (by omega)]
    have a30 : ∀ j, j < C + 1 → mI M30 (mZ M) j = if j = C then x else mI M Ab j := fun j hj => by
      rw [f30.2.2.2.2.2.2 (mZ M) (by omega), f27.2.2.2.2.2.2 (mZ M) (by omega), mI_ui _ j e23]
      by_cases yC : j = C
      · rw [if_pos ⟨rfl, yC⟩, if_pos yC]
      · rw [if_neg (fun q => yC q.2), if_neg yC, i19, (f15.2 (mZ M) (by omega)).2.2.2.2 (fun q => q), e13, mI_UR, iA30 j (by omega)]
    have R30 : ∀ i, mR M30 m i = if i = 7 then mZ M + 1 else if i = 6 then mZ M else mR M m i := fun i => by rw [f1930.2.2.1]; exact R19 i
    have kk : ∀ b, b < mZ M → mK M30 b = mK M b := fun b hb => (FF.2 b hb).1
    have nn : ∀ b, b < mZ M → mN M30 b = mN M b := fun b hb => (FF.2 b hb).2.1
    have z30 : mZ M30 = mZ M + 2 := by rw [f1930.2.2.2.2.1]; exact Z19
    have s30 : mS M30 = mS M + 4 * C := by rw [f1930.2.2.2.2.2.1]; exact S19
    refine ⟨⟨mZ M, mZ M + 1, 2 * C, o30, ?_, ?_, ⟨Or.inr hf.1.1, Or.inr (by have := hf.1.1; omega)⟩, ⟨by omega, by omega⟩, ⟨by rw [i30, if_pos rfl]; omega, by omega, fun j hj => ?_⟩, by rw [i30, if_neg (by decide)]; exact hc, by rw [i30, if_neg (by decide)]; exact hm.1, by rw [i30, if_neg (by decide)]; exact hm.2.1, by rw [R30, if_neg (by decide), if_neg (by decide)]; exact hm.2.2⟩, fun b hb => ?_, fun j hj => ?_, ?_⟩
    · unfold MK
      rw [kk m m9, kk U zU, kk (m + 2) (by omega), kk (m + 5) (by omega), kk (m + 6) (by omega), kk (m + 7) (by omega), kk (m + 8) (by omega), kk (m + 9) (by omega), nn (m + 2) (by omega), nn (m + 5) (by omega), nn (m + 6) (by omega), nn (m + 7) (by omega), nn (m + 8) (by omega), nn (m + 9) (by omega), nn U zU, R30 3, R30 5, R30 6, R30 7, R30 10, R30 11, R30 12, R30 13, R30 14, i30 4, z30, f1930.1, f1930.2.1]
      refine ⟨k0, ⟨r3, r5, rfl, rfl, r10, r11, r12, r13, r14⟩, ⟨kU, k2, kZ, kZ1, k5, k6, k7, k8, k9⟩, ⟨n2, nZ, nZ1, n5, n6, n7, n8, n9⟩, hbs, ⟨Or.inr z0, Or.inr (by omega), by omega, sz⟩, ⟨by omega, by omega, by omega, by omega⟩, ⟨by omega, by omega⟩⟩
    · exact hf.trans2 FF (fun x hx q => Or.inl q) (fun _ _ q => q)
    · rw [b30 j hj]
      by_cases yC : j = C
      · rw [if_pos yC]; exact hy
      · rw [if_neg yC]; exact hb j (by omega)
    · rw [(FF.2 b (by omega)).2.2.2.2 (by omega)]
    · rw [R30 6, if_neg (by decide), if_pos rfl, R30 7, if_pos rfl, a30 j (by omega), if_neg (by omega), b30 j (by omega), if_neg (by omega), r6, r7]
      exact ⟨rfl, rfl⟩
    · unfold ptq
      rw [R30 6, if_neg (by decide), if_pos rfl, R30 7, if_pos rfl, a30 C (by omega), if_pos rfl, b30 C (by omega), if_pos rfl]
      exact ⟨rfl, rfl⟩
  · rw [Int.toNat_natCast]
    refine ⟨by omega, fun M33 e33 => ?_⟩
    have f33 : FI (fun b => b = Ab) M M33 := by rw [e33]; exact FI.ui rfl
    have mA : m ≠ Ab := by omega
    have mB : m ≠ Be := by omega
    replace sA : Hid _ := sA
    replace sB : Hid _ := sB
    replace hab : Hid _ := hab
    have t33 : mI M33 m 8 = t := by rw [f33.2.2.2.2.2.2 m mA]; exact h8
    rw [f33.2.2.1, r7, f33.1, f33.2.1, t33, nB, Int.toNat_natCast]
    refine ⟨kB, by omega, fun M37 e37 => ?_⟩
    have f37 : FI (fun b => b = Be) M33 M37 := by rw [e37]; exact FI.ui rfl
    have t37 : mI M37 m 8 = t := by rw [f37.2.2.2.2.2.2 m mB]; exact t33
    rw [t37]
    refine ⟨⟨by omega, by omega⟩, fun M40 e40 => ?_⟩
    have f40 : FI (fun b => b = m) M37 M40 := by rw [e40]; exact FI.ui rfl
    have o40 : mOk M40 := by rw [e40]; exact mOk_UI (by rw [e37]; exact mOk_UI (by rw [e33]; exact mOk_UI ok hx) iy) ⟨by omega, by omega⟩
    have ff : FI (mcS m Ab Be) M M40 := ((f33.mono (fun _ q => Or.inr (Or.inr (Or.inr (Or.inl q))))).trans (f37.mono (fun _ q => Or.inr (Or.inr (Or.inr (Or.inr q)))))).trans (f40.mono (fun _ q => Or.inl q))
    have i40 : ∀ i, mI M40 m i = if i = 8 then (t : Int) + 1 else mI M m i := fun i => by
      rw [mI_ui m i e40]
      by_cases y8 : i = 8
      · rw [if_pos ⟨rfl, y8⟩, if_pos y8]
      · rw [if_neg (fun q => y8 q.2), if_neg y8, f37.2.2.2.2.2.2 m mB, f33.2.2.2.2.2.2 m mA]
    refine ⟨ms_step (t' := t + 1) (c' := c) o40 hk hf hab hr hm ff (by rw [i40, if_neg (by decide)]) (by rw [i40, if_neg (by decide)]) (by rw [i40, if_pos rfl]; omega) (by omega) (fun j hj => ?_) (by rw [i40, if_neg (by decide)]; exact hc), fun b hb => ?_, fun j hj => ?_, ?_⟩
    · rw [f40.2.2.2.2.2.2 Be (fun q => mB q.symm), mI_ui Be j e37]
      by_cases yt : j = t
      · rw [if_pos ⟨rfl, yt⟩]; exact hy
      · rw [if_neg (fun q => yt q.2), f33.2.2.2.2.2.2 Be (fun q => sne q.symm)]
        exact hb j (by omega)
    · unfold Hid at sA sB
      rw [f40.2.2.2.2.2.2 b (by omega), f37.2.2.2.2.2.2 b (by omega), f33.2.2.2.2.2.2 b (by omega)]
    · rw [ff.2.2.1, r6, r7, f40.2.2.2.2.2.2 Ab (fun q => mA q.symm), f40.2.2.2.2.2.2 Be (fun q => mB q.symm), f37.2.2.2.2.2.2 Ab sne, mI_ui Ab j e33, mI_ui Be j e37, if_neg (by omega), if_neg (by omega), f33.2.2.2.2.2.2 Be (fun q => sne q.symm)]
      exact ⟨rfl, rfl⟩
    · unfold ptq
      rw [ff.2.2.1, r6, r7, f40.2.2.2.2.2.2 Ab (fun q => mA q.symm), f40.2.2.2.2.2.2 Be (fun q => mB q.symm), f37.2.2.2.2.2.2 Ab sne, mI_ui Ab t e33, mI_ui Be t e37, if_pos ⟨rfl, rfl⟩, if_pos ⟨rfl, rfl⟩]
      exact ⟨rfl, rfl⟩
end
end
