section
/-! The class's machine: places, push. -/
section MAA
variable {G : mG} {d z m U Ab Be C Ab0 Be0 C0 t c p O P K : Nat} {M0 M M' M1 M2 : mM} {S R : Nat → Prop}
theorem s_JA_copyOf {a l : Nat} (hO : mOk M) (hK : mK M a = 30) (ha : a < mZ M) (hl : mN M a < l) (hl2 : l ≤ 16777216) : Cr G y_JA_copyOf (d + 1) [vr a, vi l] M (fun x M' => x = mZ M ∧ mOk M' ∧ FA (fun _ => False) (fun _ => False) M M' ∧ mZ M' = mZ M + 1 ∧ mS M' = mS M + l ∧ mK M' (mZ M) = 30 ∧ mN M' (mZ M) = l ∧ ∀ j, j < mN M a → mI M' (mZ M) j = mI M a j) := by
  refine k_JA_copyOf hO ⟨by omega, by omega⟩ ⟨hK, ⟨by omega, by omega⟩, fun y => absurd y (by omega), fun _ => ⟨⟨by omega, by omega⟩, fun M7 e7 => ?_⟩⟩
  rw [Int.toNat_natCast] at e7
  have f7 : FA (fun _ => False) (fun _ => False) M M7 := FA.new e7
  have n7 : mN M7 a = mN M a := (f7.2 a ha).2.1
  have k7 : mK M7 a = mK M a := (f7.2 a ha).1
  have l7 : mN M7 (mZ M) = l := by rw [e7, mN_New, if_pos rfl]
  have o7 : mOk M7 := by rw [e7]; exact mOk_New hO
  have i7 : mI M7 a = mI M a := (f7.2 a ha).2.2.2.2 (fun q => q)
  rw [n7, k7, l7, if_neg (by omega), Int.toNat_natCast]
  refine ⟨hK, ⟨by omega, by omega⟩, ⟨by omega, by omega, by omega, by omega, by omega⟩, fun M12 e12 => ?_⟩
  have g12 : FA (fun _ => False) (fun _ => False) M M12 := by
    refine ⟨by rw [e12]; exact f7.1, fun x hx => ?_⟩
    obtain ⟨b1, b2, b3, b4, b5⟩ := f7.2 x hx
    refine ⟨by rw [e12]; exact b1, by rw [e12]; exact b2, by rw [e12]; exact b3, fun q => by rw [e12]; exact b4 q, fun q => ?_⟩
    rw [← b5 q, e12]
    funext j
    exact if_neg (fun u => by have := u.1; omega)
  refine ⟨rfl, by rw [e12]; exact mOk_Cpy o7, g12, by rw [e12]; show mZ M7 = mZ M + 1; rw [e7]; rfl, by rw [e12]; show mS M7 = mS M + l; rw [e7]; rfl, by rw [e12]; show mK M7 (mZ M) = 30; rw [e7, mK_New, if_pos rfl], by rw [e12]; exact l7, fun j hj => ?_⟩
  rw [e12]
  show (if mZ M = mZ M ∧ 0 ≤ j ∧ j < 0 + mN M a then mI M7 a (0 + (j - 0)) else mI M7 (mZ M) j) = mI M a j
  rw [if_pos ⟨rfl, by omega, by omega⟩, i7]
  simp
/-- the machine's places: m the machine, U its numbers, Ab and Be its pile -/
def MK (M : mM) (z m U Ab Be C : Nat) : Prop := mK M m = 5 ∧ (mR M m 3 = U ∧ mR M m 5 = m + 2 ∧ mR M m 6 = Ab ∧ mR M m 7 = Be ∧ mR M m 10 = m + 5 ∧ mR M m 11 = m + 6 ∧ mR M m 12 = m + 7 ∧ mR M m 13 = m + 8 ∧ mR M m 14 = m + 9) ∧ (mK M U = 30 ∧ mK M (m + 2) = 30 ∧ mK M Ab = 30 ∧ mK M Be = 30 ∧ mK M (m + 5) = 30 ∧ mK M (m + 6) = 30 ∧ mK M (m + 7) = 30 ∧ mK M (m + 8) = 30 ∧ mK M (m + 9) = 30) ∧ (mN M (m + 2) = 12 ∧ mN M Ab = C ∧ mN M Be = C ∧ mN M (m + 5) = 60 ∧ mN M (m + 6) = 60 ∧ mN M (m + 7) = 60 ∧ mN M (m + 8) = 61 ∧ mN M (m + 9) = 61) ∧ (0 ≤ mI M m 4 ∧ mI M m 4 + 12 ≤ mN M U) ∧ ((Ab = m + 3 ∨ z ≤ Ab) ∧ (Be = m + 4 ∨ z ≤ Be) ∧ Ab ≠ Be ∧ m + 10 ≤ z) ∧ (z ≤ mZ M ∧ Ab < mZ M ∧ Be < mZ M ∧ U < mZ M) ∧ (64 ≤ C ∧ C ≤ 32768)
/-- the cells that a run may change -/
def mcS (m Ab Be : Nat) : Nat → Prop := fun x => x = m ∨ x = m + 2 ∨ (m + 5 ≤ x ∧ x ≤ m + 9) ∨ x = Ab ∨ x = Be
/-- the machine on its way: t values on the pile, c calls -/
def MS (M0 : mM) (z m U Ab0 Be0 C0 : Nat) (M : mM) (t c : Nat) : Prop := ∃ Ab Be C, mOk M ∧ MK M z m U Ab Be C ∧ FA (mcS m Ab0 Be0) (fun x => x = m) M0 M ∧ ((Ab = Ab0 ∨ mZ M0 ≤ Ab) ∧ (Be = Be0 ∨ mZ M0 ≤ Be)) ∧ (mS M + 4 * C0 = mS M0 + 4 * C ∧ 32 * mZ M + C0 ≤ 32 * mZ M0 + C) ∧ (mI M m 8 = t ∧ t ≤ C ∧ ∀ j, j < t → 1 ≤ mI M Be j ∧ mI M Be j < 1000000000) ∧ mI M m 15 = c ∧ (mI M m 9 = mI M0 m 9 ∧ mI M m 4 = mI M0 m 4 ∧ mR M m 0 = mR M0 m 0)
/-- only ints of the machine's cells change -/
theorem MK.fi (h : MK M z m U Ab Be C) (f : FI S M M') (h4 : mI M' m 4 = mI M m 4) : MK M' z m U Ab Be C := by
  obtain ⟨f1, f2, f3, f4, f5, -⟩ := f
  unfold MK at h ⊢
  rw [f1, f2, f3, f5, h4]
  exact h
/-- a step that keeps the places -/
theorem ms_step {t' c' : Nat} (ok : mOk M') (hk : MK M z m U Ab Be C) (hf : FA (mcS m Ab0 Be0) (fun x => x = m) M0 M) (hab : (Ab = Ab0 ∨ mZ M0 ≤ Ab) ∧ (Be = Be0 ∨ mZ M0 ≤ Be)) (hr : mS M + 4 * C0 = mS M0 + 4 * C ∧ 32 * mZ M + C0 ≤ 32 * mZ M0 + C) (hm : mI M m 9 = mI M0 m 9 ∧ mI M m 4 = mI M0 m 4 ∧ mR M m 0 = mR M0 m 0) (f : FI (mcS m Ab Be) M M') (h4 : mI M' m 4 = mI M m 4) (h9 : mI M' m 9 = mI M m 9) (ht : mI M' m 8 = t') (htC : t' ≤ C) (hb : ∀ j, j < t' → 1 ≤ mI M' Be j ∧ mI M' Be j < 1000000000) (hc : mI M' m 15 = c') : MS M0 z m U Ab0 Be0 C0 M' t' c' := by
  refine ⟨Ab, Be, C, ok, hk.fi f h4, hf.trans2 (FI.fa f) (fun x hx q => ?_) (fun x _ q => q), hab, by rw [f.2.2.2.2.1, f.2.2.2.2.2.1]; exact hr, ⟨ht, htC, hb⟩, hc, by rw [h9]; exact hm.1, by rw [h4]; exact hm.2.1, by rw [f.2.2.1]; exact hm.2.2⟩
  rcases q with q | q | q | q | q
  · exact Or.inl q
  · exact Or.inr (Or.inl q)
  · exact Or.inr (Or.inr (Or.inl q))
  · rcases hab.1 with e | e
    · exact Or.inr (Or.inr (Or.inr (Or.inl (by omega))))
    · omega
  · rcases hab.2 with e | e
    · exact Or.inr (Or.inr (Or.inr (Or.inr (by omega))))
    · omega
theorem mI_ui {a j : Nat} {x : Int} (b i : Nat) (e : M' = mUI M a j x) : mI M' b i = if b = a ∧ i = j then x else mI M b i := by rw [e, mI_UI]
/-- the tables of the machine that a push leaves alone -/
def mtb (m : Nat) (M M' : mM) : Prop := ∀ b, m + 5 ≤ b → b ≤ m + 9 → mI M' b = mI M b
theorem s_Ma_push {x y : Int} (h : MS M0 z m U Ab0 Be0 C0 M t c) (ht : t ≤ 16384) (hx : i32 x) (hy : 1 ≤ y ∧ y < 1000000000) : Cv G y_Ma_push (d + 2) [vr m, vi x, vi y] M (fun M' => MS M0 z m U Ab0 Be0 C0 M' (t + 1) c ∧ mtb m M M') := by
  obtain ⟨Ab, Be, C, ok, hk, hf, hab, hr, ⟨h8, htC, hb⟩, hc, hm⟩ := h
  obtain ⟨k0, ⟨r3, r5, r6, r7, r10, r11, r12, r13, r14⟩, ⟨kU, k2, kA, kB, k5, k6, k7, k8, k9⟩, ⟨n2, nA, nB, n5, n6, n7, n8, n9⟩, hbs, ⟨sA, sB, sne, sz⟩, ⟨z0, zA, zB, zU⟩, ⟨c64, c32⟩⟩ := id hk
  have iy : i32 y := ⟨by omega, by omega⟩
  refine k_Ma_push ok hx iy ?_
  rw [r6, nA, h8]
  refine ⟨k0, kA, ⟨by omega, by omega⟩, fun e => ?_, fun e => ?_⟩
  · -- the pile grows
    have eC : C = t := by omega
    subst eC
    rw [show (2 : Int) * (C : Int) = ((2 * C : Nat) : Int) by omega]
    refine (s_JA_copyOf ok kA zA (by omega) (by omega)).mono (fun x10 M9 q => ?_)
    obtain ⟨ex, o9, f9, Z9, S9, K9, N9, I9⟩ := q
    subst ex
    have m9 : m < mZ M := by omega
    refine ⟨o9, by rw [(f9.2 m m9).1]; exact k0, fun M13 e13 => ?_⟩
    have f13 : FA (fun _ => False) (fun x => x = m) M9 M13 := FA.ur rfl e13
    have Z13 : mZ M13 = mZ M + 1 := by rw [e13]; exact Z9
    have g13 : FA (fun _ => False) (fun x => x = m) M M13 := (f9.mono (fun _ _ q => q) (fun _ _ q => q.elim)).trans f13
    have i13 : mI M13 m 8 = C := by rw [e13, mI_UR, (f9.2 m m9).2.2.2.2 (fun q => q)]; exact h8
    have b13 : mR M13 m 7 = Be := by rw [e13, mR_UR, if_neg (by omega), (f9.2 m m9).2.2.2.1 (fun q => q)]; exact r7
    have o13 : mOk M13 := by rw [e13]; exact o9
    rw [b13, i13, show (2 : Int) * (C : Int) = ((2 * C : Nat) : Int) by omega]
    refine (s_JA_copyOf (l := 2 * C) o13 (by rw [(g13.2 Be zB).1]; exact kB) (by omega) (by rw [(g13.2 Be zB).2.1]; omega) (by omega)).mono (fun x16 M15 q => ?_)
    obtain ⟨ex, o15, f15, Z15, S15, K15, N15, I15⟩ := q
    subst ex
    rw [Z13] at K15 N15 I15 Z15
    have nB13 : mN M13 Be = C := by rw [(g13.2 Be zB).2.1]; exact nB
    have iB13 : mI M13 Be = mI M Be := (g13.2 Be zB).2.2.2.2 (fun q => q)
    rw [nB13, iB13] at I15
    refine ⟨o15, by rw [(f15.2 m (by omega)).1, (g13.2 m m9).1]; exact k0, fun M19 e19 => ?_⟩
    have f19 : FA (fun _ => False) (fun x => x = m) M15 M19 := FA.ur rfl e19
    have f13_15 : FA (fun _ => False) (fun x => x = m) M13 M15 := f15.mono (fun _ _ q => q) (fun _ _ q => q.elim)
    have g19 : FA (fun _ => False) (fun x => x = m) M M19 := (g13.trans f13_15).trans f19
    have o19 : mOk M19 := by rw [e19]; exact o15
    have Z19 : mZ M19 = mZ M + 2 := by rw [e19, mZ_UR, Z15]
    have S19 : mS M19 = mS M + 4 * C := by rw [e19, mS_UR, S15, e13, mS_UR, S9]; omega
    have k19 : ∀ b, mK M19 b = mK M15 b := fun b => by rw [e19]; rfl
    have n19 : ∀ b, mN M19 b = mN M15 b := fun b => by rw [e19]; rfl
    have i19 : ∀ b, mI M19 b = mI M15 b := fun b => by rw [e19]; rfl
    have kZ : mK M19 (mZ M) = 30 := by rw [k19, (f15.2 (mZ M) (by omega)).1, e13]; exact K9
    have nZ : mN M19 (mZ M) = 2 * C := by rw [n19, (f15.2 (mZ M) (by omega)).2.1, e13]; exact N9
    have kZ1 : mK M19 (mZ M + 1) = 30 := by rw [k19]; exact K15
    have nZ1 : mN M19 (mZ M + 1) = 2 * C := by rw [n19]; exact N15
    have iZ1 : ∀ j, j < C → mI M19 (mZ M + 1) j = mI M Be j := fun j hj => by rw [i19]; exact I15 j hj
    have R19 : ∀ i, mR M19 m i = if i = 7 then mZ M + 1 else if i = 6 then mZ M else mR M m i := fun i => by
      rw [e19, mR_UR, Z13]
      by_cases y7 : i = 7
      · rw [if_pos ⟨rfl, y7⟩, if_pos y7]
      · rw [if_neg (fun q => y7 q.2), if_neg y7, (f15.2 m (by omega)).2.2.2.1 (fun q => q), e13, mR_UR]
        by_cases y6 : i = 6
        · rw [if_pos ⟨rfl, y6⟩, if_pos y6]
        · rw [if_neg (fun q => y6 q.2), if_neg y6, (f9.2 m m9).2.2.2.1 (fun q => q)]
    have M19i : ∀ b, b < mZ M → mI M19 b = mI M b := fun b hb => (g19.2 b hb).2.2.2.2 (fun q => q)
    have t19 : mI M19 m 8 = C := by rw [M19i m m9]; exact h8
    rw [R19 6, if_neg (by decide), if_pos rfl, t19, nZ, Int.toNat_natCast]
    refine ⟨kZ, by omega, fun M23 e23 => ?_⟩
    have f23 : FI (fun b => b = mZ M) M19 M23 := by rw [e23]; exact FI.ui rfl
    have t23 : mI M23 m 8 = C := by rw [f23.2.2.2.2.2.2 m (by omega)]; exact t19
    rw [f23.2.2.1, R19 7, if_pos rfl, f23.1, f23.2.1, t23, nZ1, Int.toNat_natCast]
    refine ⟨kZ1, by omega, fun M27 e27 => ?_⟩
    have f27 : FI (fun b => b = mZ M + 1) M23 M27 := by rw [e27]; exact FI.ui rfl
    have t27 : mI M27 m 8 = C := by rw [f27.2.2.2.2.2.2 m (by omega)]; exact t23
    rw [t27]
    refine ⟨⟨by omega, by omega⟩, fun M30 e30 => ?_⟩
    have f30 : FI (fun b => b = m) M27 M30 := by rw [e30]; exact FI.ui rfl
    have f1930 : FI (fun b => b = m ∨ b = mZ M ∨ b = mZ M + 1) M19 M30 := ((f23.mono (fun _ q => Or.inr (Or.inl q))).trans (f27.mono (fun _ q => Or.inr (Or.inr q)))).trans (f30.mono (fun _ q => Or.inl q))
    have FF : FA (fun x => x = m) (fun x => x = m) M M30 := (g19.mono (fun _ _ q => q.elim) (fun _ _ q => q)).trans2 (FI.fa (R := fun _ => False) f1930) (fun x hx q => by
      rcases q with q | q | q
      · exact q
      · omega
      · omega) (fun _ _ q => q.elim)
    have o30 : mOk M30 := by rw [e30]; exact mOk_UI (by rw [e27]; exact mOk_UI (by rw [e23]; exact mOk_UI o19 hx) iy) ⟨by omega, by omega⟩
    have i30 : ∀ i, mI M30 m i = if i = 8 then (C : Int) + 1 else mI M m i := fun i => by
      rw [mI_ui m i e30]
      by_cases y8 : i = 8
      · rw [if_pos ⟨rfl, y8⟩, if_pos y8]
      · rw [if_neg (fun q => y8 q.2), if_neg y8, f27.2.2.2.2.2.2 m (by omega), f23.2.2.2.2.2.2 m (by omega), M19i m m9]
    have b30 : ∀ j, j < C + 1 → mI M30 (mZ M + 1) j = if j = C then y else mI M Be j := fun j hj => by
      rw [f30.2.2.2.2.2.2 (mZ M + 1) (by omega), mI_ui _ j e27]
      by_cases yC : j = C
      · rw [if_pos ⟨rfl, yC⟩, if_pos yC]
      · rw [if_neg (fun q => yC q.2), if_neg yC, f23.2.2.2.2.2.2 (mZ M + 1) (by omega), iZ1 j (by omega)]
    have R30 : ∀ i, mR M30 m i = if i = 7 then mZ M + 1 else if i = 6 then mZ M else mR M m i := fun i => by rw [f1930.2.2.1]; exact R19 i
    have kk : ∀ b, b < mZ M → mK M30 b = mK M b := fun b hb => (FF.2 b hb).1
    have nn : ∀ b, b < mZ M → mN M30 b = mN M b := fun b hb => (FF.2 b hb).2.1
    have z30 : mZ M30 = mZ M + 2 := by rw [f1930.2.2.2.2.1]; exact Z19
    have s30 : mS M30 = mS M + 4 * C := by rw [f1930.2.2.2.2.2.1]; exact S19
    refine ⟨⟨mZ M, mZ M + 1, 2 * C, o30, ?_, ?_, ⟨Or.inr hf.1.1, Or.inr (by have := hf.1.1; omega)⟩, ⟨by omega, by omega⟩, ⟨by rw [i30, if_pos rfl]; omega, by omega, fun j hj => ?_⟩, by rw [i30, if_neg (by decide)]; exact hc, by rw [i30, if_neg (by decide)]; exact hm.1, by rw [i30, if_neg (by decide)]; exact hm.2.1, by rw [R30, if_neg (by decide), if_neg (by decide)]; exact hm.2.2⟩, fun b hb hb2 => ?_⟩
    · unfold MK
      rw [kk m m9, kk U zU, kk (m + 2) (by omega), kk (m + 5) (by omega), kk (m + 6) (by omega), kk (m + 7) (by omega), kk (m + 8) (by omega), kk (m + 9) (by omega), nn (m + 2) (by omega), nn (m + 5) (by omega), nn (m + 6) (by omega), nn (m + 7) (by omega), nn (m + 8) (by omega), nn (m + 9) (by omega), nn U zU, R30 3, R30 5, R30 6, R30 7, R30 10, R30 11, R30 12, R30 13, R30 14, i30 4, z30, f1930.1, f1930.2.1]
      refine ⟨k0, ⟨r3, r5, rfl, rfl, r10, r11, r12, r13, r14⟩, ⟨kU, k2, kZ, kZ1, k5, k6, k7, k8, k9⟩, ⟨n2, nZ, nZ1, n5, n6, n7, n8, n9⟩, hbs, ⟨Or.inr z0, Or.inr (by omega), by omega, sz⟩, ⟨by omega, by omega, by omega, by omega⟩, ⟨by omega, by omega⟩⟩
    · exact hf.trans2 FF (fun x hx q => Or.inl q) (fun _ _ q => q)
    · rw [b30 j hj]
      by_cases yC : j = C
      · rw [if_pos yC]; exact hy
      · rw [if_neg yC]; exact hb j (by omega)
    · rw [(FF.2 b (by omega)).2.2.2.2 (by omega)]
  · rw [Int.toNat_natCast]
    refine ⟨by omega, fun M33 e33 => ?_⟩
    have f33 : FI (fun b => b = Ab) M M33 := by rw [e33]; exact FI.ui rfl
    have mA : m ≠ Ab := by omega
    have mB : m ≠ Be := by omega
    have t33 : mI M33 m 8 = t := by rw [f33.2.2.2.2.2.2 m mA]; exact h8
    rw [f33.2.2.1, r7, f33.1, f33.2.1, t33, nB, Int.toNat_natCast]
    refine ⟨kB, by omega, fun M37 e37 => ?_⟩
    have f37 : FI (fun b => b = Be) M33 M37 := by rw [e37]; exact FI.ui rfl
    have t37 : mI M37 m 8 = t := by rw [f37.2.2.2.2.2.2 m mB]; exact t33
    rw [t37]
    refine ⟨⟨by omega, by omega⟩, fun M40 e40 => ?_⟩
    have f40 : FI (fun b => b = m) M37 M40 := by rw [e40]; exact FI.ui rfl
    have o40 : mOk M40 := by rw [e40]; exact mOk_UI (by rw [e37]; exact mOk_UI (by rw [e33]; exact mOk_UI ok hx) iy) ⟨by omega, by omega⟩
    have ff : FI (mcS m Ab Be) M M40 := ((f33.mono (fun _ q => Or.inr (Or.inr (Or.inr (Or.inl q))))).trans (f37.mono (fun _ q => Or.inr (Or.inr (Or.inr (Or.inr q)))))).trans (f40.mono (fun _ q => Or.inl q))
    have i40 : ∀ i, mI M40 m i = if i = 8 then (t : Int) + 1 else mI M m i := fun i => by
      rw [mI_ui m i e40]
      by_cases y8 : i = 8
      · rw [if_pos ⟨rfl, y8⟩, if_pos y8]
      · rw [if_neg (fun q => y8 q.2), if_neg y8, f37.2.2.2.2.2.2 m mB, f33.2.2.2.2.2.2 m mA]
    refine ⟨ms_step (t' := t + 1) (c' := c) o40 hk hf hab hr hm ff (by rw [i40, if_neg (by decide)]) (by rw [i40, if_neg (by decide)]) (by rw [i40, if_pos rfl]; omega) (by omega) (fun j hj => ?_) (by rw [i40, if_neg (by decide)]; exact hc), fun b hb hb2 => ?_⟩
    · rw [f40.2.2.2.2.2.2 Be (fun q => mB q.symm), mI_ui Be j e37]
      by_cases yt : j = t
      · rw [if_pos ⟨rfl, yt⟩]; exact hy
      · rw [if_neg (fun q => yt q.2), f33.2.2.2.2.2.2 Be (fun q => sne q.symm)]
        exact hb j (by omega)
    · rw [f40.2.2.2.2.2.2 b (by omega), f37.2.2.2.2.2.2 b (by omega), f33.2.2.2.2.2.2 b (by omega)]
end MAA
end
section
/-! The class's machine: stop, settle, relate, store, compute. -/
section MAB
variable {G : mG} {d z m U Ab Be C Ab0 Be0 C0 t c p O P K : Nat} {M0 M M' M1 M2 : mM} {S R : Nat → Prop}
theorem mtb.refl : mtb m M M := fun _ _ _ => rfl
theorem mtb.trans (h : mtb m M M1) (k : mtb m M1 M2) : mtb m M M2 := fun b h1 h2 => by rw [k b h1 h2, h b h1 h2]
theorem PK.fa (h : PK M z p O P K) (f : FA S R M M') (hp : ¬ R p) : PK M' z p O P K := by
  obtain ⟨h1, ⟨r0, r1⟩, ⟨k0, k1, n0, n1⟩, sp, ⟨z0, z1, z2⟩, hc, hl⟩ := id h
  have hpz : p < mZ M := by omega
  have zz := f.1.1
  obtain ⟨fp1, -, -, fp4, -⟩ := f.2 p hpz
  have fp := fp4 hp
  obtain ⟨fO1, fO2, -⟩ := f.2 O z1
  obtain ⟨fP1, fP2, -⟩ := f.2 P z2
  refine ⟨by rw [fp1]; exact h1, by rw [fp]; exact ⟨r0, r1⟩, by rw [fO1, fO2, fP1, fP2]; exact ⟨k0, k1, n0, n1⟩, sp, ⟨by omega, by omega, by omega⟩, hc, ?_⟩
  have kk : ∀ i, i ≤ 15 → mK M' (p + i) = mK M (p + i) := fun i hi => (f.2 (p + i) (by omega)).1
  have nn : ∀ i, i ≤ 15 → mN M' (p + i) = mN M (p + i) := fun i hi => (f.2 (p + i) (by omega)).2.1
  unfold PL at hl ⊢
  rw [fp, kk 3 (by omega), kk 4 (by omega), kk 5 (by omega), kk 6 (by omega), kk 7 (by omega), kk 8 (by omega), kk 9 (by omega), kk 10 (by omega), kk 11 (by omega), kk 12 (by omega), kk 13 (by omega), kk 14 (by omega), kk 15 (by omega), nn 3 (by omega), nn 4 (by omega), nn 5 (by omega), nn 6 (by omega), nn 7 (by omega), nn 8 (by omega), nn 9 (by omega), nn 10 (by omega), nn 11 (by omega), nn 12 (by omega), nn 13 (by omega), nn 14 (by omega), nn 15 (by omega)]
  exact hl
/-- a field of the machine is written -/
theorem ms_fld {j : Nat} {v : Int} (h : MS M0 z m U Ab0 Be0 C0 M t c) (hv : i32 v) (e : M' = mUI M m j v) (j4 : j ≠ 4) (j8 : j ≠ 8) (j9 : j ≠ 9) (j15 : j ≠ 15) : MS M0 z m U Ab0 Be0 C0 M' t c ∧ mtb m M M' := by
  obtain ⟨Ab, Be, C, ok, hk, hf, hab, hr, ⟨h8, htC, hb⟩, hc, hm⟩ := h
  have f : FI (fun b => b = m) M M' := by rw [e]; exact FI.ui rfl
  have g : ∀ i, i ≠ j → mI M' m i = mI M m i := fun i hi => by rw [mI_ui m i e, if_neg (fun q => hi q.2)]
  have mB : Be ≠ m := by have := hk.2.2.2.2.2.1; omega
  refine ⟨ms_step (t' := t) (c' := c) (by rw [e]; exact mOk_UI ok hv) hk hf hab hr hm (f.mono (fun _ q => Or.inl q)) (g 4 (fun q => j4 q.symm)) (g 9 (fun q => j9 q.symm)) (by rw [g 8 (fun q => j8 q.symm)]; exact h8) htC (fun i hi => by rw [f.2.2.2.2.2.2 Be mB]; exact hb i hi) (by rw [g 15 (fun q => j15 q.symm)]; exact hc), fun b h1 h2 => f.2.2.2.2.2.2 b (by omega)⟩
/-- the pile gets lower -/
theorem ms_top {t' : Nat} {v : Int} (h : MS M0 z m U Ab0 Be0 C0 M t c) (hv : v = t') (htt : t' ≤ t) (e : M' = mUI M m 8 v) : MS M0 z m U Ab0 Be0 C0 M' t' c ∧ mtb m M M' ∧ FI (fun b => b = m) M M' := by
  obtain ⟨Ab, Be, C, ok, hk, hf, hab, hr, ⟨h8, htC, hb⟩, hc, hm⟩ := h
  have f : FI (fun b => b = m) M M' := by rw [e]; exact FI.ui rfl
  have g : ∀ i, i ≠ 8 → mI M' m i = mI M m i := fun i hi => by rw [mI_ui m i e, if_neg (fun q => hi q.2)]
  have mB : Be ≠ m := by have := hk.2.2.2.2.2.1; omega
  have c32 := hk.2.2.2.2.2.2.2.2
  refine ⟨ms_step (t' := t') (c' := c) (by rw [e]; exact mOk_UI ok (by rw [hv]; exact ⟨by omega, by omega⟩)) hk hf hab hr hm (f.mono (fun _ q => Or.inl q)) (g 4 (by decide)) (g 9 (by decide)) (by rw [mI_ui m 8 e, if_pos ⟨rfl, rfl⟩]; exact hv) (by omega) (fun i hi => by rw [f.2.2.2.2.2.2 Be mB]; exact hb i (by omega)) (by rw [g 15 (by decide)]; exact hc), fun b h1 h2 => f.2.2.2.2.2.2 b (by omega), f⟩
theorem s_Ma_stop {x y : Int} (hx : i32 x) (hy : i32 y) (h : MS M0 z m U Ab0 Be0 C0 M t c) : Ci G y_Ma_stop d [vr m, vi x, vi y] M (fun r M' => r = 0 ∧ MS M0 z m U Ab0 Be0 C0 M' t c ∧ mtb m M M' ∧ mI M' m 1 = x) := by
  have ok : mOk M := by obtain ⟨_, _, _, ok, -⟩ := h; exact ok
  have k0 : mK M m = 5 := by obtain ⟨_, _, _, -, hk, -⟩ := h; exact hk.1
  refine k_Ma_stop ok hx hy ⟨k0, fun M2 e2 M4 e4 => ?_⟩
  obtain ⟨h2, b2⟩ := ms_fld h hx e2 (by decide) (by decide) (by decide) (by decide)
  obtain ⟨h4, b4⟩ := ms_fld h2 hy e4 (by decide) (by decide) (by decide) (by decide)
  exact ⟨rfl, h4, b2.trans b4, by rw [mI_ui m 1 e4, if_neg (fun t => absurd t.2 (by decide)), mI_ui m 1 e2, if_pos ⟨rfl, rfl⟩]⟩
/-- a value of the pile is written -/
theorem ms_val {j : Nat} {x y : Int} (h : MS M0 z m U Ab0 Be0 C0 M t c) (hj : j < t) (hx : i32 x) (hy : 1 ≤ y ∧ y < 1000000000) (e1 : M1 = mUI M (mR M m 6) j x) (e2 : M2 = mUI M1 (mR M1 m 7) j y) : MS M0 z m U Ab0 Be0 C0 M2 t c ∧ mtb m M M2 := by
  obtain ⟨Ab, Be, C, ok, hk, hf, hab, hr, ⟨h8, htC, hb⟩, hc, hm⟩ := h
  have r6 := hk.2.1.2.2.1
  have r7 := hk.2.1.2.2.2.1
  obtain ⟨sA, sB, sne, sz⟩ := hk.2.2.2.2.2.1
  rw [r6] at e1
  have f1 : FI (fun b => b = Ab) M M1 := by rw [e1]; exact FI.ui rfl
  rw [f1.2.2.1, r7] at e2
  have f2 : FI (fun b => b = Be) M1 M2 := by rw [e2]; exact FI.ui rfl
  have g : mI M2 m = mI M m := by rw [f2.2.2.2.2.2.2 m (by omega), f1.2.2.2.2.2.2 m (by omega)]
  refine ⟨ms_step (t' := t) (c' := c) (by rw [e2]; exact mOk_UI (by rw [e1]; exact mOk_UI ok hx) ⟨by omega, by omega⟩) hk hf hab hr hm ((f1.mono (fun _ q => Or.inr (Or.inr (Or.inr (Or.inl q))))).trans (f2.mono (fun _ q => Or.inr (Or.inr (Or.inr (Or.inr q)))))) (by rw [g]) (by rw [g]) (by rw [g]; exact h8) htC (fun i hi => ?_) (by rw [g]; exact hc), fun b h1 h2 => by rw [f2.2.2.2.2.2.2 b (by omega), f1.2.2.2.2.2.2 b (by omega)]⟩
  rw [mI_ui Be i e2]
  by_cases y0 : i = j
  · rw [if_pos ⟨rfl, y0⟩]; exact hy
  · rw [if_neg (fun q => y0 q.2), f1.2.2.2.2.2.2 Be (fun q => sne q.symm)]; exact hb i hi
/-- only the value above is written -/
theorem ms_abv {j : Nat} {x : Int} (h : MS M0 z m U Ab0 Be0 C0 M t c) (hx : i32 x) (e1 : M1 = mUI M (mR M m 6) j x) : MS M0 z m U Ab0 Be0 C0 M1 t c ∧ mtb m M M1 := by
  obtain ⟨Ab, Be, C, ok, hk, hf, hab, hr, ⟨h8, htC, hb⟩, hc, hm⟩ := h
  have r6 := hk.2.1.2.2.1
  obtain ⟨sA, sB, sne, sz⟩ := hk.2.2.2.2.2.1
  rw [r6] at e1
  have f1 : FI (fun b => b = Ab) M M1 := by rw [e1]; exact FI.ui rfl
  have g : mI M1 m = mI M m := f1.2.2.2.2.2.2 m (by omega)
  exact ⟨ms_step (t' := t) (c' := c) (by rw [e1]; exact mOk_UI ok hx) hk hf hab hr hm (f1.mono (fun _ q => Or.inr (Or.inr (Or.inr (Or.inl q))))) (by rw [g]) (by rw [g]) (by rw [g]; exact h8) htC (fun i hi => by rw [f1.2.2.2.2.2.2 Be (fun q => sne q.symm)]; exact hb i hi) (by rw [g]; exact hc), fun b h1 h2 => f1.2.2.2.2.2.2 b (by omega)⟩
/-- the pile's places and what is on top -/
theorem MS.pile (h : MS M0 z m U Ab0 Be0 C0 M t c) : mOk M ∧ mK M m = 5 ∧ mI M m 8 = t ∧ mK M (mR M m 6) = 30 ∧ mK M (mR M m 7) = 30 ∧ (t : Int) ≤ mN M (mR M m 6) ∧ (t : Int) ≤ mN M (mR M m 7) ∧ mN M (mR M m 6) ≤ 32768 ∧ mN M (mR M m 7) ≤ 32768 ∧ (∀ j, j < t → 1 ≤ mI M (mR M m 7) j ∧ mI M (mR M m 7) j < 1000000000) ∧ (m ≠ mR M m 6 ∧ m ≠ mR M m 7) ∧ mR M m 6 ≠ mR M m 7 := by
  obtain ⟨Ab, Be, C, ok, hk, hf, hab, hr, ⟨h8, htC, hb⟩, hc, hm⟩ := h
  obtain ⟨k0, ⟨r3, r5, r6, r7, -⟩, ⟨kU, k2, kA, kB, -⟩, ⟨n2, nA, nB, -⟩, hbs, ⟨sA, sB, sne, sz⟩, -, ⟨c64, c32⟩⟩ := hk
  rw [r6, r7, nA, nB]
  exact ⟨ok, k0, h8, kA, kB, by omega, by omega, by omega, by omega, hb, ⟨by omega, by omega⟩, sne⟩
theorem s_Ma_commonDivisor {x y : Int} (hx : -9223372036854775807 ≤ x ∧ x ≤ 9223372036854775807) (hy : 1 ≤ y ∧ y ≤ 9223372036854775807) (hO : mOk M) : Cj G y_Ma_commonDivisor d [vl x, vl y] M (fun v M' => M' = M ∧ 1 ≤ v ∧ v ≤ y) := by
  refine k_Ma_commonDivisor hO ⟨by omega, by omega⟩ ⟨by omega, by omega⟩ (fun v2 e2 => ?_)
  have v0 : 0 ≤ v2 ∧ v2 ≤ 9223372036854775807 := by
    have := (cmpz x 0).1
    rw [e2]
    split <;> omega
  clear e2
  suffices HH : ∀ (s i : Nat) (a b : Int), 100 ≤ i + s → i ≤ 100 → (0 ≤ a ∧ a ≤ 9223372036854775807) → (0 ≤ b ∧ b ≤ y) → (i = 0 → b = y) → (0 < i → 1 ≤ a ∧ a ≤ y) → h_Ma_commonDivisor_20 G d a b i M (fun v M' => M' = M ∧ 1 ≤ v ∧ v ≤ y) from HH 100 0 v2 y (by omega) (by omega) v0 ⟨by omega, by omega⟩ (fun _ => rfl) (fun q => absurd q (by omega))
  intro s
  induction s with
  | zero =>
    intro i a b hs hi ha hb h0 h1
    have cb := (cmpz b 0).2.2.2.1
    have ca := (cmpz a 0).2.2.2.1
    refine k_Ma_commonDivisor_20 hO ⟨by omega, by omega⟩ ⟨by omega, by omega⟩ (i32s (by omega) (by omega)) ⟨fun _ v12 e12 => ?_, fun q => absurd (Or.inl (by omega)) q⟩
    have := h1 (by omega)
    rw [if_neg (by rw [ca]; omega)] at e12
    rw [e12]
    exact ⟨rfl, this⟩
  | succ s ih =>
    intro i a b hs hi ha hb h0 h1
    have cb := (cmpz b 0).2.2.2.1
    have ca := (cmpz a 0).2.2.2.1
    refine k_Ma_commonDivisor_20 hO ⟨by omega, by omega⟩ ⟨by omega, by omega⟩ (i32s (by omega) (by omega)) ⟨fun q v12 e12 => ?_, fun q => ?_⟩
    · have hi0 : 0 < i := by
        rcases q with q | q
        · omega
        · rw [cb] at q
          by_cases u : i = 0
          · have := h0 u; omega
          · omega
      have := h1 hi0
      rw [if_neg (by rw [ca]; omega)] at e12
      rw [e12]
      exact ⟨rfl, this⟩
    · have i100 : i < 100 := by
        by_cases u : (100 : Int) ≤ i
        · exact absurd (Or.inl u) q
        · omega
      have b0 : b ≠ 0 := fun u => q (Or.inr (by rw [cb]; exact u))
      have t1 := Int.tmod_nonneg b ha.1
      have t2 := (tmod9 (x := a) (y := b) (by omega)).2
      refine ⟨b0, ih (i + 1) b (Int.tmod a b) (by omega) (by omega) ⟨by omega, by omega⟩ ⟨t1, by omega⟩ (fun u => absurd u (by omega)) (fun _ => ⟨by omega, by omega⟩)⟩
theorem s_Ma_settle {x y : Int} {sg : Int} (hx : -5000000000000000000 ≤ x ∧ x ≤ 5000000000000000000) (hy : 1 ≤ y ∧ y ≤ 5000000000000000000) (hs : i32 sg) (h : MS M0 z m U Ab0 Be0 C0 M (t + 1) c) : Ci G y_Ma_settle (d + 1) [vr m, vl x, vl y, vi sg] M (fun r M' => (r = 0 ∨ r = 1) ∧ MS M0 z m U Ab0 Be0 C0 M' (t + 1) c ∧ mtb m M M' ∧ (r = 0 → mI M' m 1 ≠ 0)) := by
  obtain ⟨ok, k0, h8, kA, kB, tA, tB, bA, bB, hb, ⟨mA, mB⟩, ne⟩ := h.pile
  refine k_Ma_settle ok ⟨by omega, by omega⟩ ⟨by omega, by omega⟩ hs ((s_Ma_commonDivisor ⟨by omega, by omega⟩ ⟨by omega, by omega⟩ ok).mono (fun g M1 q => ?_))
  obtain ⟨e1, g1, g2⟩ := q
  subst e1
  have dx := m_tdivB (x := x) (z := g) (by omega)
  have dy := m_tdivB (x := y) (z := g) (by omega)
  have dy0 : 1 ≤ Int.tdiv y g := by
    rw [Int.tdiv_eq_ediv_of_nonneg (by omega)]
    exact (Int.le_ediv_iff_mul_le (by omega)).mpr (by omega)
  have c1 := (cmpz (Int.tdiv x g) 1000000000).1
  have c2 := (cmpz (Int.tdiv x g) (-1000000000)).2.1
  have c3 := (cmpz (Int.tdiv y g) 1000000000).2.2.1
  refine ⟨⟨by omega, by omega⟩, ok, by omega, by omega, ⟨by omega, by omega⟩, fun _ _ => ⟨by omega, by omega⟩, fun _ => ⟨k0, (s_Ma_stop (i32s (by omega) (by omega)) hs h).mono (fun r M' q => ?_)⟩, fun q => ?_⟩
  · obtain ⟨e, q1, q2, q3⟩ := q
    rw [e]
    exact ⟨i32s (by omega) (by omega), q1.pile.1, Or.inl rfl, Or.inl rfl, q1, q2, fun _ => by rw [q3]; decide⟩
  · have u1 : Int.tdiv x g < 1000000000 ∧ -1000000000 < Int.tdiv x g ∧ Int.tdiv y g < 1000000000 := by
      rw [c1, c2, c3] at q
      clear c1 c2 c3
      omega
    clear q c1 c2 c3
    have e8 : (mI M1 m 8 - 1) = (t : Int) := by omega
    rw [e8, Int.toNat_natCast]
    refine ⟨k0, kA, by omega, ⟨by omega, by omega⟩, fun M23 e23 => ?_⟩
    have f23 : FI (fun b => b = mR M1 m 6) M1 M23 := by rw [e23]; exact FI.ui rfl
    have e8' : (mI M23 m 8 - 1) = (t : Int) := by rw [f23.2.2.2.2.2.2 m mA]; exact e8
    rw [e8', Int.toNat_natCast]
    refine ⟨by rw [f23.1, f23.2.2.1]; exact kB, by rw [f23.2.1, f23.2.2.1]; omega, ⟨by omega, by omega⟩, fun M28 e28 => ?_⟩
    have hv := ms_val h (j := t) (by omega) ⟨by omega, by omega⟩ ⟨dy0, u1.2.2⟩ e23 e28
    exact ⟨Or.inr rfl, hv.1, hv.2, fun t => absurd t (by decide)⟩
end MAB
end
section
/-! The class's machine: relate, store, compute. -/
section MAC
variable {G : mG} {d z m U Ab Be C Ab0 Be0 C0 t s c p O P K : Nat} {M0 M M' M1 M2 : mM} {S R : Nat → Prop}
/-- what Math.floorMod answers -/
def FMs (G : mG) : Prop := ∀ (d : Nat) (M : mM) (x y : Int), mOk M → i64 x → 0 < y → i64 y → Cj G y_JM_floorMod d [vl x, vl y] M (fun v M' => M' = M ∧ 0 ≤ v ∧ v < y)
theorem s_Ma_relate {o x : Int} (io : i32 o) (ix : i32 x) (h : MS M0 z m U Ab0 Be0 C0 M (t + 1) c) (hA : (t : Int) + 1 < mN M (mR M m 6)) (hB : (t : Int) + 1 < mN M (mR M m 7)) (hv : 1 ≤ mI M (mR M m 7) (t + 1) ∧ mI M (mR M m 7) (t + 1) < 1000000000) : Ci G y_Ma_relate d [vr m, vi o, vi x] M (fun r M' => r = 1 ∧ MS M0 z m U Ab0 Be0 C0 M' (t + 1) c ∧ mtb m M M') := by
  obtain ⟨ok, k0, h8, kA, kB, tA, tB, bA, bB, hb, ⟨mA, mB⟩, ne⟩ := h.pile
  have q1 : Int.toNat (mI M m 8 - 1) = t := by omega
  have q2 : Int.toNat (mI M m 8) = t + 1 := by omega
  refine k_Ma_relate ok io ix ⟨fun _ v7 _ v13 _ => ⟨fun _ => ?_, fun _ => k_Ma_relate_75 ok ⟨rfl, h, mtb.refl⟩⟩, fun _ v50 _ => ⟨k0, fun v57 e57 => ?_⟩⟩
  · rw [q1, q2]
    refine ⟨k0, kA, by omega, by omega, fun M24 e24 => ?_⟩
    have f24 : FI (fun b => b = mR M m 6) M M24 := by rw [e24]; exact FI.ui rfl
    have e8 : mI M24 m 8 = mI M m 8 := by rw [f24.2.2.2.2.2.2 m mA]
    rw [e8, q1, q2]
    refine ⟨by rw [f24.1, f24.2.2.1]; exact kB, by rw [f24.2.1, f24.2.2.1]; omega, by rw [f24.2.1, f24.2.2.1]; omega, fun M29 e29 => ?_⟩
    have eB : mI M24 (mR M24 m 7) (t + 1) = mI M (mR M m 7) (t + 1) := by rw [f24.2.2.1, f24.2.2.2.2.2.2 _ (fun u => ne u.symm)]
    have w := ms_val h (j := t) (by omega) (ok _ _).1 (by rw [eB]; exact hv) e24 e29
    exact k_Ma_relate_75 w.1.pile.1 ⟨rfl, w.1, w.2⟩
  · rw [q1]
    refine ⟨kA, by omega, fun M64 e64 => ?_⟩
    have f64 : FI (fun b => b = mR M m 6) M M64 := by rw [e64]; exact FI.ui rfl
    have e8 : mI M64 m 8 = mI M m 8 := by rw [f64.2.2.2.2.2.2 m mA]
    rw [e8, q1]
    refine ⟨by rw [f64.1, f64.2.2.1]; exact kB, by rw [f64.2.1, f64.2.2.1]; omega, fun M68 e68 => ?_⟩
    have i57 : i32 v57 := by rw [e57]; split <;> exact i32s (by omega) (by omega)
    have w := ms_val h (j := t) (by omega) i57 ⟨by omega, by omega⟩ e64 e68
    exact ⟨rfl, w.1, w.2⟩
/-- a number that is set -/
theorem ms_nxt {j : Nat} {x : Int} (h : MS M0 z m U Ab0 Be0 C0 M t c) (hx : i32 x) (e1 : M1 = mUI M (m + 2) j x) : MS M0 z m U Ab0 Be0 C0 M1 t c ∧ mtb m M M1 := by
  obtain ⟨Ab, Be, C, ok, hk, hf, hab, hr, ⟨h8, htC, hb⟩, hc, hm⟩ := h
  obtain ⟨sA, sB, sne, sz⟩ := hk.2.2.2.2.2.1
  have f1 : FI (fun b => b = m + 2) M M1 := by rw [e1]; exact FI.ui rfl
  have g : mI M1 m = mI M m := f1.2.2.2.2.2.2 m (by omega)
  exact ⟨ms_step (t' := t) (c' := c) (by rw [e1]; exact mOk_UI ok hx) hk hf hab hr hm (f1.mono (fun _ q => Or.inr (Or.inl q))) (by rw [g]) (by rw [g]) (by rw [g]; exact h8) htC (fun i hi => by rw [f1.2.2.2.2.2.2 Be (by omega)]; exact hb i hi) (by rw [g]; exact hc), fun b h1 h2 => f1.2.2.2.2.2.2 b (by omega)⟩
theorem s_Ma_store {x : Int} {v : Nat} (ix : i32 x) (hv : v < 12) (h : MS M0 z m U Ab0 Be0 C0 M (t + 1) c) (hp : PK M z p O P K) (h0 : mR M m 0 = p) : Ci G y_Ma_store (d + 1) [vr m, vi x, vi v] M (fun r M' => (r = 0 ∨ r = 1) ∧ MS M0 z m U Ab0 Be0 C0 M' t c ∧ mtb m M M' ∧ (r = 0 → mI M' m 1 ≠ 0)) := by
  obtain ⟨ok, k0, h8, kA, kB, tA, tB, bA, bB, hb, ⟨mA, mB⟩, ne⟩ := h.pile
  refine k_Ma_store ok ix (i32s (by omega) (by omega)) ⟨k0, ⟨by omega, by omega⟩, fun M3 e3 => ?_⟩
  obtain ⟨h3, b3, f3⟩ := ms_top (t' := t) h (by omega) (by omega) e3
  obtain ⟨ok3, k03, h83, kA3, kB3, tA3, tB3, bA3, bB3, hb3, -, -⟩ := h3.pile
  have hp3 := hp.fi f3
  have h03 : mR M3 m 0 = p := by rw [f3.2.2.1]; exact h0
  have hm5 : mR M3 m 5 = m + 2 ∧ mK M3 (m + 2) = 30 ∧ mN M3 (m + 2) = 12 := by
    obtain ⟨_, _, _, -, hk, -⟩ := h3
    exact ⟨hk.2.1.2.1, hk.2.2.1.2.1, hk.2.2.2.1.1⟩
  have lA : mN M3 (mR M3 m 6) = mN M (mR M m 6) := by rw [f3.2.1, f3.2.2.1]
  have lB : mN M3 (mR M3 m 7) = mN M (mR M m 7) := by rw [f3.2.1, f3.2.2.1]
  obtain ⟨pk, -, -, -, -, -, ⟨⟨p4, p5, -⟩, ⟨pk4, pk5, -⟩, ⟨pn4, pn5, -⟩⟩⟩ := hp3
  rw [h03, p4, p5, pn4, pn5, lA, lB, h83, Int.toNat_natCast, Int.toNat_natCast, hm5.1, hm5.2.2]
  have st : ∀ {y : Int}, i32 y → y ≠ 0 → Ci G y_Ma_stop d [vr m, vi y, vi x] M3 (fun r M' => i32 r ∧ mOk M' ∧ ((r = 0 ∨ r = 1) ∧ ((r = 0 ∨ r = 1) ∧ MS M0 z m U Ab0 Be0 C0 M' t c ∧ mtb m M M' ∧ (r = 0 → mI M' m 1 ≠ 0)))) := fun {y} hy y0 => (s_Ma_stop hy ix h3).mono (fun r M' q => by
    obtain ⟨e, q1, q2, q3⟩ := q
    rw [e]
    exact ⟨i32s (by omega) (by omega), q1.pile.1, Or.inl rfl, Or.inl rfl, q1, b3.trans q2, fun _ => by rw [q3]; exact y0⟩)
  refine ⟨kB3, by omega, fun _ => ⟨kA3, by omega, pk, pk4, by omega, fun _ => ⟨by omega, pk5, by omega⟩, fun _ => st (i32s (by omega) (by omega)) (by decide), fun _ => ⟨by omega, hm5.2.1, by omega, fun M45 e45 => ?_⟩⟩, fun _ => st (i32s (by omega) (by omega)) (by decide)⟩
  have w := ms_nxt h3 (ok3 _ _).1 e45
  exact ⟨Or.inr rfl, w.1, b3.trans w.2, fun t => absurd t (by decide)⟩
theorem mulab {x y : Int} {A B : Nat} (hx : x.natAbs ≤ A) (hy : y.natAbs ≤ B) : (x * y).natAbs ≤ A * B := by
  rw [Int.natAbs_mul]
  exact Nat.mul_le_mul hx hy
/-- what an order of the pile needs -/
def cmO (V t : Nat) (o x : Int) (t' : Nat) : Prop := ((o = 40 ∨ o = 41) ∧ 1 ≤ t ∧ t' = t) ∨ (o = 43 ∧ 0 ≤ x ∧ x ≤ 1000000 ∧ x % 16 < V ∧ t = t' + 1) ∨ ((o = 15 ∨ o = 16 ∨ (19 ≤ o ∧ o ≤ 29)) ∧ 2 ≤ t ∧ t = t' + 1)
/-- what is left behind -/
def cpQ (M0 : mM) (z m U Ab0 Be0 C0 : Nat) (M : mM) (t' c : Nat) (r : Int) (M' : mM) : Prop := ((r = 0 ∧ mI M' m 1 ≠ 0 ∧ ∃ t2, MS M0 z m U Ab0 Be0 C0 M' t2 c) ∨ (r = 1 ∧ MS M0 z m U Ab0 Be0 C0 M' t' c)) ∧ mtb m M M'
theorem s_Ma_compute {V : Nat} {o x : Int} {t' : Nat} (hF : FMs G) (hV : V ≤ 12) (io : i32 o) (ix : i32 x) (ho : cmO V t o x t') (h : MS M0 z m U Ab0 Be0 C0 M t c) (hp : PK M z p O P K) (h0 : mR M m 0 = p) : Ci G y_Ma_compute (d + 3) [vr m, vi o, vi x] M (cpQ M0 z m U Ab0 Be0 C0 M t' c) := by
  obtain ⟨ok, k0, h8, kA, kB, tA, tB, bA, bB, hb, ⟨mA, mB⟩, ne⟩ := h.pile
  unfold cmO at ho
  refine k_Ma_computew ok io ix ⟨fun y40 => ?_, fun y40 => ⟨fun y41 => ?_, fun y41 => ⟨fun y43 => ⟨k0, ?_⟩, fun y43 => ?_⟩⟩⟩
  · have tt : 1 ≤ t ∧ t' = t := by omega
    refine ⟨k0, kA, by omega, by omega, fun M9 e9 => ?_⟩
    have w := ms_abv h i32_w32 e9
    exact ⟨Or.inr ⟨rfl, by rw [tt.2]; exact w.1⟩, w.2⟩
  · have tt : 1 ≤ t ∧ t' = t := by omega
    refine ⟨k0, kA, by omega, by omega, fun M18 e18 => ?_⟩
    have w := ms_abv h i32_w32 e18
    exact ⟨Or.inr ⟨rfl, by rw [tt.2]; exact w.1⟩, w.2⟩
  · have tt : 0 ≤ x ∧ x ≤ 1000000 ∧ x % 16 < V ∧ t = t' + 1 := by omega
    rw [Int.tdiv_eq_ediv_of_nonneg tt.1, Int.tmod_eq_emod_of_nonneg tt.1]
    obtain ⟨v, ev⟩ : ∃ v : Nat, x % 16 = v := ⟨(x % 16).toNat, by omega⟩
    rw [ev]
    rw [tt.2.2.2] at h
    refine (s_Ma_store ⟨by omega, by omega⟩ (by omega) h hp h0).mono (fun r M' q => ?_)
    obtain ⟨q1, q2, q3, q4⟩ := q
    refine ⟨by rcases q1 with e | e <;> rw [e] <;> exact i32s (by omega) (by omega), q2.pile.1, q1, ?_, q3⟩
    rcases q1 with e | e
    · exact Or.inl ⟨e, q4 e, t', q2⟩
    · exact Or.inr ⟨e, q2⟩
  · have tt : 2 ≤ t ∧ t = t' + 1 := by omega
    obtain ⟨s, es⟩ : ∃ s, t = s + 2 := ⟨t - 2, by omega⟩
    have et' : t' = s + 1 := by omega
    subst et'
    subst es
    clear ho
    refine ⟨k0, ⟨by omega, by omega⟩, fun M29 e29 => ?_⟩
    obtain ⟨h29, b29, f29⟩ := ms_top (t' := s + 1) h (by omega) (by omega) e29
    obtain ⟨ok9, k09, h89, kA9, kB9, -, -, -, -, hb9, -, -⟩ := h29.pile
    have lA : mN M29 (mR M29 m 6) = mN M (mR M m 6) := by rw [f29.2.1, f29.2.2.1]
    have lB : mN M29 (mR M29 m 7) = mN M (mR M m 7) := by rw [f29.2.1, f29.2.2.1]
    have iB : mI M29 (mR M29 m 7) = mI M (mR M m 7) := by rw [f29.2.2.1, f29.2.2.2.2.2.2 _ (fun u => mB u.symm)]
    have q1 : Int.toNat (mI M29 m 8 - 1) = s := by omega
    have q2 : Int.toNat (mI M29 m 8) = s + 1 := by omega
    have vb : 1 ≤ mI M29 (mR M29 m 7) s ∧ mI M29 (mR M29 m 7) s < 1000000000 := by rw [iB]; exact hb s (by omega)
    have vd9 : 1 ≤ mI M29 (mR M29 m 7) (s + 1) ∧ mI M29 (mR M29 m 7) (s + 1) < 1000000000 := by rw [iB]; exact hb (s + 1) (by omega)
    have va := (ok9 (mR M29 m 6) s).1
    have vc := (ok9 (mR M29 m 6) (s + 1)).1
    rw [q1, q2, lA, lB]
    have rel : ∀ {y : Int}, i32 y → Ci G y_Ma_relate (d + 2) [vr m, vi o, vi y] M29 (fun r M' => i32 r ∧ mOk M' ∧ ((r = 0 ∨ r = 1) ∧ cpQ M0 z m U Ab0 Be0 C0 M (s + 1) c r M')) := fun {y} hy => (s_Ma_relate io hy h29 (by rw [lA]; omega) (by rw [lB]; omega) vd9).mono (fun r M' q => by
      obtain ⟨e, q1, q2⟩ := q
      rw [e]
      exact ⟨i32s (by omega) (by omega), q1.pile.1, Or.inr rfl, Or.inr ⟨rfl, q1⟩, b29.trans q2⟩)
    have stp : ∀ {y : Int}, i32 y → y ≠ 0 → Ci G y_Ma_stop (d + 2) [vr m, vi y, vi x] M29 (fun r M' => i32 r ∧ mOk M' ∧ (r = 0 ∨ r = 1) ∧ cpQ M0 z m U Ab0 Be0 C0 M (s + 1) c r M') := fun {y} hy y0 => (s_Ma_stop hy ix h29).mono (fun r M' q => by
      obtain ⟨e, q1, q2, q3⟩ := q
      rw [e]
      exact ⟨i32s (by omega) (by omega), q1.pile.1, Or.inl rfl, Or.inl ⟨rfl, by rw [q3]; exact y0, _, q1⟩, b29.trans q2⟩)
    have stl : ∀ {u v : Int}, u.natAbs ≤ 5000000000000000000 → 1 ≤ v → v.natAbs ≤ 5000000000000000000 → Ci G y_Ma_settle (d + 2) [vr m, vl u, vl v, vi x] M29 (fun r M' => i32 r ∧ mOk M' ∧ (r = 0 ∨ r = 1) ∧ cpQ M0 z m U Ab0 Be0 C0 M (s + 1) c r M') := fun {u v} hu hv1 hv2 => (s_Ma_settle (by omega) (by omega) ix h29).mono (fun r M' q => by
      obtain ⟨q1, q2, q3, q4⟩ := q
      refine ⟨by rcases q1 with e | e <;> rw [e] <;> exact i32s (by omega) (by omega), q2.pile.1, q1, ?_, b29.trans q3⟩
      rcases q1 with e | e
      · exact Or.inl ⟨e, q4 e, _, q2⟩
      · exact Or.inr ⟨e, q2⟩)
    obtain ⟨a, ea⟩ : ∃ a, a = mI M29 (mR M29 m 6) s := ⟨_, rfl⟩
    obtain ⟨b, eb⟩ : ∃ b, b = mI M29 (mR M29 m 7) s := ⟨_, rfl⟩
    obtain ⟨e, ee⟩ : ∃ e, e = mI M29 (mR M29 m 6) (s + 1) := ⟨_, rfl⟩
    obtain ⟨f, ef⟩ : ∃ f, f = mI M29 (mR M29 m 7) (s + 1) := ⟨_, rfl⟩
    rw [← ea, ← eb, ← ee, ← ef]
    rw [← ea] at va
    rw [← ee] at vc
    rw [← eb] at vb
    rw [← ef] at vd9
    unfold i32 at va vc
    have na : a.natAbs ≤ 2147483648 := by omega
    have ne9 : e.natAbs ≤ 2147483648 := by omega
    have nb : b.natAbs ≤ 999999999 := by omega
    have nf : f.natAbs ≤ 999999999 := by omega
    have m1 := mulab na nf
    have m2 := mulab ne9 nb
    have m3 := mulab nb nf
    have m4 := mulab na ne9
    have m5 := mulab nb ne9
    have p3 : 1 ≤ b * f := Int.mul_pos (show 0 < b by omega) (show 0 < f by omega)
    have ce := cmpz e 0
    refine ⟨kA9, by omega, kB9, by omega, by omega, by omega, fun _ => (stl (by omega) p3 (by omega)), fun _ => ⟨fun _ => stl (by omega) p3 (by omega), fun _ => ⟨fun _ => stl (by omega) p3 (by omega), fun _ => ⟨fun _ => ⟨fun _ => stp (i32s (by omega) (by omega)) (by decide), fun y0 => ⟨fun y1 => ?_, fun y1 => ?_⟩⟩, fun _ => ⟨fun _ => ⟨fun y0 => ⟨fun y1 => ?_, fun y1 => ?_⟩, fun _ => stp (i32s (by omega) (by omega)) (by decide)⟩, fun _ => ?_⟩⟩⟩⟩⟩
    · have en : e < 0 := by
        have := ce.2.2.2.1
        have := ce.2.1
        omega
      have p5 : 1 ≤ -b * e := by
        have := Int.mul_pos (show 0 < b by omega) (show 0 < -e by omega)
        rw [Int.mul_neg] at this
        rw [Int.neg_mul]
        omega
      have m6 : (-a * f).natAbs = (a * f).natAbs := by rw [Int.neg_mul, Int.natAbs_neg]
      have m7 : (-b * e).natAbs = (b * e).natAbs := by rw [Int.neg_mul, Int.natAbs_neg]
      refine (stl (u := -a * f) (v := -b * e) (by omega) p5 (by omega)).mono (fun r M' q => ?_)
      exact ⟨q.1, q.2.1, k_Ma_compute_304 q.2.1 q.1 q.2.2⟩
    · have en : 0 < e := by
        have := ce.2.1
        omega
      have p5 : 1 ≤ b * e := Int.mul_pos (show 0 < b by omega) en
      refine (stl (u := a * f) (v := b * e) (by omega) p5 (by omega)).mono (fun r M' q => ?_)
      exact ⟨q.1, q.2.1, k_Ma_compute_304 q.2.1 q.1 q.2.2⟩
    · have en : 0 < e := by
        have := ce.2.2.2.2
        omega
      refine (hF (d + 2) M29 a e ok9 ⟨by omega, by omega⟩ en ⟨by omega, by omega⟩).mono (fun v M76 q => ?_)
      obtain ⟨e76, v0, v1⟩ := q
      subst e76
      refine ⟨⟨by omega, by omega⟩, ok9, k09, (stl (u := v) (v := 1) (by omega) (by omega) (by omega)).mono (fun r M' q => ?_)⟩
      exact ⟨q.1, q.2.1, k_Ma_compute_356 q.2.1 q.1 q.2.2⟩
    · refine (stp (i32s (by omega) (by omega)) (by decide)).mono (fun r M' q => ?_)
      exact ⟨q.1, q.2.1, k_Ma_compute_356 q.2.1 q.1 q.2.2⟩
    · refine k_JL_compare ok9 ⟨by omega, by omega⟩ ⟨by omega, by omega⟩ (fun v3 e3 => ?_)
      have i3 : i32 v3 := by rw [e3]; (repeat' split) <;> exact i32s (by omega) (by omega)
      exact ⟨i3, ok9, k09, rel i3⟩
end MAC
end
section
/-! The class's machine: meet, comeBack. -/
section MAD
variable {G : mG} {d z m U Ab Be C Ab0 Be0 C0 t s c p O P K : Nat} {M0 M M' M1 M2 : mM} {S R : Nat → Prop}
theorem s_Ma_meet {x : Nat} {pc : Int} (h : MS M0 z m U Ab0 Be0 C0 M t c) (hp : PK M z p O P K) (h0 : mR M m 0 = p) (hx : x < 60) (hc : c ≤ 60) (ht : t ≤ 16384) (ipc : i32 pc) (hv : mI M (m + 5) x = mI M m 9 → 1 ≤ mI M (m + 7) x ∧ mI M (m + 7) x < 1000000000) (hne : p + 15 < m ∨ m + 9 < p) : Ci G y_Ma_meet (d + 3) [vr m, vi x, vi pc] M (fun r M' => (r = pc ∧ MS M0 z m U Ab0 Be0 C0 M' (t + 1) c ∧ mtb m M M') ∨ (r = mI M (p + 8) x ∧ MS M0 z m U Ab0 Be0 C0 M' t (c + 1) ∧ mI M' (m + 5) = mI M (m + 5) ∧ mI M' (m + 7) = mI M (m + 7) ∧ (∀ i, mI M' (m + 8) i = if i = c then (x : Int) else mI M (m + 8) i) ∧ (∀ i, mI M' (m + 9) i = if i = c then pc else mI M (m + 9) i))) := by
  obtain ⟨Ab, Be, C, ok, hk, hf, hab, hr, ⟨h8, htC, hb⟩, h15, hm⟩ := id h
  obtain ⟨k0, ⟨r3, r5, r6, r7, r10, r11, r12, r13, r14⟩, ⟨kU, k2, kA, kB, k5, k6, k7, k8, k9⟩, ⟨n2, nA, nB, n5, n6, n7, n8, n9⟩, hbs, ⟨sA, sB, sne, sz⟩, ⟨z0, zA, zB, zU⟩, ⟨c64, c32⟩⟩ := id hk
  obtain ⟨pk, -, -, -, -, -, ⟨⟨-, -, -, -, -, p10, -⟩, ⟨-, -, -, -, -, pk10, -⟩, ⟨-, -, -, -, -, pn10, -⟩⟩⟩ := id hp
  refine k_Ma_meet ok (i32s (by omega) (by omega)) ipc ?_
  rw [r10, n5, r11, n6, r12, n7, r13, n8, h15, Int.toNat_natCast, Int.toNat_natCast]
  refine ⟨k0, k5, by omega, fun e => ⟨k6, by omega, k7, by omega, (s_Ma_push h ht (ok _ _).1 (hv e)).mono (fun M' q => ⟨q.1.pile.1, Or.inl ⟨rfl, q.1, q.2⟩⟩)⟩, fun _ => ⟨k8, by omega, fun M15 e15 => ?_⟩⟩
  have f15 : FI (fun b => b = m + 8) M M15 := by rw [e15]; exact FI.ui rfl
  rw [f15.2.2.1, r14, f15.1, f15.2.1, f15.2.2.2.2.2.2 m (by omega), h15, n9, Int.toNat_natCast]
  refine ⟨k9, by omega, fun M19 e19 => ?_⟩
  have f19 : FI (fun b => b = m + 9) M15 M19 := by rw [e19]; exact FI.ui rfl
  rw [f19.2.2.2.2.2.2 m (by omega), f15.2.2.2.2.2.2 m (by omega), h15]
  refine ⟨⟨by omega, by omega⟩, fun M22 e22 => ?_⟩
  have f22 : FI (fun b => b = m) M19 M22 := by rw [e22]; exact FI.ui rfl
  have ff : FI (fun b => b = m ∨ b = m + 8 ∨ b = m + 9) M M22 := ((f15.mono (fun _ q => Or.inr (Or.inl q))).trans (f19.mono (fun _ q => Or.inr (Or.inr q)))).trans (f22.mono (fun _ q => Or.inl q))
  have i22 : ∀ i, mI M22 m i = if i = 15 then (c : Int) + 1 else mI M m i := fun i => by
    rw [mI_ui m i e22]
    by_cases y : i = 15
    · rw [if_pos ⟨rfl, y⟩, if_pos y]
    · rw [if_neg (fun q => y q.2), if_neg y, f19.2.2.2.2.2.2 m (by omega), f15.2.2.2.2.2.2 m (by omega)]
  have o22 : mOk M22 := by rw [e22]; exact mOk_UI (by rw [e19]; exact mOk_UI (by rw [e15]; exact mOk_UI ok (i32s (by omega) (by omega))) ipc) ⟨by omega, by omega⟩
  rw [ff.1, ff.2.1, ff.2.2.1, h0, p10, pn10, ff.2.2.2.2.2.2 (p + 8) (by omega)]
  refine ⟨pk, pk10, by omega, Or.inr ⟨rfl, ms_step (t' := t) (c' := c + 1) o22 hk hf hab hr hm (ff.mono (fun b q => by
      rcases q with q | q | q
      · exact Or.inl q
      · exact Or.inr (Or.inr (Or.inl (by omega)))
      · exact Or.inr (Or.inr (Or.inl (by omega))))) (by rw [i22, if_neg (by decide)]) (by rw [i22, if_neg (by decide)]) (by rw [i22, if_neg (by decide)]; exact h8) htC (fun j hj => by rw [ff.2.2.2.2.2.2 Be (by omega)]; exact hb j hj) (by rw [i22, if_pos rfl]; omega), ff.2.2.2.2.2.2 _ (by omega), ff.2.2.2.2.2.2 _ (by omega), fun i => ?_, fun i => ?_⟩⟩
  · rw [f22.2.2.2.2.2.2 _ (by omega), f19.2.2.2.2.2.2 _ (by omega), mI_ui _ i e15]
    by_cases y : i = c
    · rw [if_pos ⟨rfl, y⟩, if_pos y]
    · rw [if_neg (fun q => y q.2), if_neg y]
  · rw [f22.2.2.2.2.2.2 _ (by omega), mI_ui _ i e19]
    by_cases y : i = c
    · rw [if_pos ⟨rfl, y⟩, if_pos y]
    · rw [if_neg (fun q => y q.2), if_neg y, f15.2.2.2.2.2.2 _ (by omega)]
theorem s_Ma_comeBack {x : Nat} (h : MS M0 z m U Ab0 Be0 C0 M (t + 1) (c + 1)) (hx : mI M (m + 8) c = x) (hx6 : x < 60) (hc : c ≤ 60) : Ci G y_Ma_comeBack d [vr m] M (fun r M' => r = mI M (m + 9) c ∧ MS M0 z m U Ab0 Be0 C0 M' (t + 1) c ∧ mI M' (m + 8) = mI M (m + 8) ∧ mI M' (m + 9) = mI M (m + 9) ∧ (∀ i, mI M' (m + 5) i = if i = x then mI M m 9 else mI M (m + 5) i) ∧ (∀ i, i ≠ x → mI M' (m + 7) i = mI M (m + 7) i) ∧ 1 ≤ mI M' (m + 7) x ∧ mI M' (m + 7) x < 1000000000) := by
  obtain ⟨Ab, Be, C, ok, hk, hf, hab, hr, ⟨h8, htC, hb⟩, h15, hm⟩ := id h
  obtain ⟨k0, ⟨r3, r5, r6, r7, r10, r11, r12, r13, r14⟩, ⟨kU, k2, kA, kB, k5, k6, k7, k8, k9⟩, ⟨n2, nA, nB, n5, n6, n7, n8, n9⟩, hbs, ⟨sA, sB, sne, sz⟩, ⟨z0, zA, zB, zU⟩, ⟨c64, c32⟩⟩ := id hk
  refine k_Ma_comeBack ok ⟨k0, ⟨by omega, by omega⟩, fun M3 e3 => ?_⟩
  have f3 : FI (fun b => b = m) M M3 := by rw [e3]; exact FI.ui rfl
  have i3 : mI M3 m 15 = c := by rw [mI_ui m 15 e3, if_pos ⟨rfl, rfl⟩]; omega
  have g3 : ∀ i, i ≠ 15 → mI M3 m i = mI M m i := fun i hi => by rw [mI_ui m i e3, if_neg (fun q => hi q.2)]
  rw [f3.2.2.1, r13, r10, f3.1, f3.2.1, n8, n5, i3, Int.toNat_natCast, f3.2.2.2.2.2.2 (m + 8) (by omega), hx, Int.toNat_natCast, g3 9 (by decide)]
  refine ⟨k8, by omega, k5, by omega, fun M9 e9 => ?_⟩
  have f9 : FI (fun b => b = m + 5) M3 M9 := by rw [e9]; exact FI.ui rfl
  have g9 : mI M9 m = mI M3 m := f9.2.2.2.2.2.2 m (by omega)
  have q1 : Int.toNat (mI M m 8 - 1) = t := by omega
  rw [f9.2.2.1, f9.1, f9.2.1, f3.2.2.1, f3.1, f3.2.1, r6, r11, nA, n6, g9, g3 8 (by decide), q1]
  refine ⟨kA, by omega, k6, by omega, fun M15 e15 => ?_⟩
  have f15 : FI (fun b => b = m + 6) M9 M15 := by rw [e15]; exact FI.ui rfl
  have g15 : mI M15 m = mI M3 m := by rw [f15.2.2.2.2.2.2 m (by omega), g9]
  rw [f15.2.2.1, f15.1, f15.2.1, f9.2.2.1, f9.1, f9.2.1, f3.2.2.1, f3.1, f3.2.1, r7, r12, nB, n7, g15, g3 8 (by decide), q1]
  have eB : mI M15 Be t = mI M Be t := by rw [f15.2.2.2.2.2.2 Be (by omega), f9.2.2.2.2.2.2 Be (by omega), f3.2.2.2.2.2.2 Be (by omega)]
  refine ⟨kB, by omega, k7, by omega, fun M21 e21 => ?_⟩
  have f21 : FI (fun b => b = m + 7) M15 M21 := by rw [e21]; exact FI.ui rfl
  have g21 : mI M21 m = mI M3 m := by rw [f21.2.2.2.2.2.2 m (by omega), g15]
  have ff : FI (fun b => b = m ∨ (m + 5 ≤ b ∧ b ≤ m + 7)) M M21 := (((f3.mono (fun _ q => Or.inl q)).trans (f9.mono (fun _ q => Or.inr (by omega)))).trans (f15.mono (fun _ q => Or.inr (by omega)))).trans (f21.mono (fun _ q => Or.inr (by omega)))
  have o21 : mOk M21 := by rw [e21]; exact mOk_UI (by rw [e15]; exact mOk_UI (by rw [e9]; exact mOk_UI (by rw [e3]; exact mOk_UI ok ⟨by omega, by omega⟩) (ok _ _).1) ((by rw [e9]; exact mOk_UI (by rw [e3]; exact mOk_UI ok ⟨by omega, by omega⟩) (ok _ _).1 : mOk M9) _ _).1) ((by rw [e15]; exact mOk_UI (by rw [e9]; exact mOk_UI (by rw [e3]; exact mOk_UI ok ⟨by omega, by omega⟩) (ok _ _).1) ((by rw [e9]; exact mOk_UI (by rw [e3]; exact mOk_UI ok ⟨by omega, by omega⟩) (ok _ _).1 : mOk M9) _ _).1 : mOk M15) _ _).1
  rw [ff.2.2.1, ff.1, ff.2.1, r14, n9, g21, i3, Int.toNat_natCast, ff.2.2.2.2.2.2 (m + 9) (by omega)]
  refine ⟨k9, by omega, rfl, ms_step (t' := t + 1) (c' := c) o21 hk hf hab hr hm (ff.mono (fun b q => by
      rcases q with q | q
      · exact Or.inl q
      · exact Or.inr (Or.inr (Or.inl (by omega))))) (by rw [g21, g3 4 (by decide)]) (by rw [g21, g3 9 (by decide)]) (by rw [g21, g3 8 (by decide)]; exact h8) htC (fun j hj => by rw [ff.2.2.2.2.2.2 Be (by omega)]; exact hb j hj) (by rw [g21]; exact i3), ff.2.2.2.2.2.2 _ (by omega), rfl, fun i => ?_, fun i hi => ?_, ?_⟩
  · rw [f21.2.2.2.2.2.2 _ (by omega), f15.2.2.2.2.2.2 _ (by omega), mI_ui _ i e9]
    by_cases y : i = x
    · rw [if_pos ⟨rfl, y⟩, if_pos y]
    · rw [if_neg (fun q => y q.2), if_neg y, f3.2.2.2.2.2.2 _ (by omega)]
  · rw [mI_ui _ i e21, if_neg (fun q => hi q.2), f15.2.2.2.2.2.2 _ (by omega), f9.2.2.2.2.2.2 _ (by omega), f3.2.2.2.2.2.2 _ (by omega)]
  · rw [mI_ui _ x e21, if_pos ⟨rfl, rfl⟩, eB]
    exact hb t (by omega)
end MAD
end
section
/-! The class's machine: run. -/
theorem t6p {O p z m A B : Nat} (a1 : p + 15 < m ∨ m + 9 < p) (s : O = p + 1 ∨ z ≤ O) (a6 : m + 9 < z) (n1 : O ≠ A) (n2 : O ≠ B) (q : O = m ∨ O = m + 2 ∨ (m + 5 ≤ O ∧ O ≤ m + 9) ∨ O = A ∨ O = B) : False := by
  rcases q with q | q | q | q | q
  · omega
  · omega
  · omega
  · exact n1 q
  · exact n2 q
theorem t6q {O p z m A B : Nat} (a1 : p + 15 < m ∨ m + 9 < p) (s : O = p + 2 ∨ z ≤ O) (a6 : m + 9 < z) (n1 : O ≠ A) (n2 : O ≠ B) (q : O = m ∨ O = m + 2 ∨ (m + 5 ≤ O ∧ O ≤ m + 9) ∨ O = A ∨ O = B) : False := by
  rcases q with q | q | q | q | q
  · omega
  · omega
  · omega
  · exact n1 q
  · exact n2 q
theorem t6r {p z m A B i : Nat} (a1 : p + 15 < m ∨ m + 9 < p) (a7 : p + 16 ≤ z) (a8 : A = m + 3 ∨ z ≤ A) (a9 : B = m + 4 ∨ z ≤ B) (hi : i ≤ 15) (q : p + i = m ∨ p + i = m + 2 ∨ (m + 5 ≤ p + i ∧ p + i ≤ m + 9) ∨ p + i = A ∨ p + i = B) : False := by
  rcases q with q | q | q | q | q
  · omega
  · omega
  · omega
  · clear a9; omega
  · clear a8; omega
section MAE
variable {G : mG} {d z m U Ab Be C Ab0 Be0 C0 t s c p O P K L V F E F0 : Nat} {M0 M M' M1 M2 : mM} {S R X : Nat → Prop} {ns : Nat → Int} {sf ef : Nat → Nat} {H : Nat → Nat}
/-- a piece of code from s to e, where its END stands; heights H, at its end h -/
def Cod (M : mM) (O P V F : Nat) (ns : Nat → Int) (s e : Nat) (H : Nat → Nat) (h : Nat) : Prop := CO M O P V F ns H s e (fun _ => False) ∧ H s = 0 ∧ H e = h ∧ h + s ≤ e ∧ mI M O e = 0 ∧ s ≤ e
/-- the names below F: consts have values, formulas have code; each formula's code stands before its users' -/
def FO (M : mM) (p O P V : Nat) (ns : Nat → Int) (sf ef : Nat → Nat) (L F : Nat) : Prop := ∀ x, x < F → (ns x = 4 → 1 ≤ mI M (p + 7) x ∧ mI M (p + 7) x < 1000000000) ∧ (ns x = 7 → mI M (p + 8) x = sf x ∧ (∃ H, Cod M O P V x ns (sf x) (ef x) H 1) ∧ ef x < L ∧ ∀ y, y < x → ns y = 7 → ef y < sf x)
/-- c calls are open: T values lie below the piece of code that runs -/
def Cs (M0 : mM) (m O P V : Nat) (ns : Nat → Int) (sf ef : Nat → Nat) (E F0 s0 e0 h0 : Nat) (M : mM) : Nat → Nat → Nat → Nat → Nat → (Nat → Nat) → Nat → Prop
  | 0, T, F, s, e, _, h => T = 0 ∧ F = F0 ∧ s = s0 ∧ e = e0 ∧ h = h0
  | c + 1, T, F, s, e, _, h => ∃ (T1 F1 s1 e1 : Nat) (H1 : Nat → Nat) (h1 pc1 : Nat), Cs M0 m O P V ns sf ef E F0 s0 e0 h0 M c T1 F1 s1 e1 H1 h1 ∧ Cod M0 O P V F1 ns s1 e1 H1 h1 ∧ (∀ y, y < F1 → ns y = 7 → ef y < s1) ∧ T1 + e1 ≤ E ∧ F1 + c ≤ F0 ∧ mI M (m + 8) c = (F : Int) ∧ F < F1 ∧ ns F = 7 ∧ (s = sf F ∧ e = ef F ∧ h = 1) ∧ mI M (m + 9) c = (pc1 : Int) ∧ s1 < pc1 ∧ pc1 ≤ e1 ∧ T + 1 = T1 + H1 pc1
theorem Cs.cg {s0 e0 h0 : Nat} : ∀ {c T F s e : Nat} {H : Nat → Nat} {h : Nat}, Cs M0 m O P V ns sf ef E F0 s0 e0 h0 M c T F s e H h → (∀ i, i < c → mI M' (m + 8) i = mI M (m + 8) i ∧ mI M' (m + 9) i = mI M (m + 9) i) → Cs M0 m O P V ns sf ef E F0 s0 e0 h0 M' c T F s e H h
  | 0, _, _, _, _, _, _, q, _ => q
  | c + 1, _, _, _, _, _, _, q, hh => by
    obtain ⟨T1, F1, s1, e1, H1, h1, pc1, q1, q2, q3, q4, q5, q6, q7, q8, q9, q10, q11⟩ := q
    exact ⟨T1, F1, s1, e1, H1, h1, pc1, q1.cg (fun i hi => hh i (by omega)), q2, q3, q4, q5, by rw [(hh c (by omega)).1]; exact q6, q7, q8, q9, by rw [(hh c (by omega)).2]; exact q10, q11⟩
/-- formulas that were met have values -/
def MT (M : mM) (m : Nat) (X : Nat → Prop) : Prop := ∀ x, X x → mI M (m + 5) x ≤ mI M m 9 ∧ (mI M (m + 5) x = mI M m 9 → 1 ≤ mI M (m + 7) x ∧ mI M (m + 7) x < 1000000000)
theorem MT.mtb (h : MT M m X) (b : mtb m M M') (h9 : mI M' m 9 = mI M m 9) : MT M' m X := fun x hx => by
  rw [b (m + 5) (by omega) (by omega), b (m + 7) (by omega) (by omega), h9]
  exact h x hx
/-- what a run comes to -/
def rnQ (M0 : mM) (z m U Ab0 Be0 C0 : Nat) (X : Nat → Prop) (h0 : Nat) (r : Int) (M' : mM) : Prop := MT M' m X ∧ ((r = 0 ∧ mI M' m 1 ≠ 0 ∧ ∃ t c, MS M0 z m U Ab0 Be0 C0 M' t c) ∨ (r = 1 ∧ MS M0 z m U Ab0 Be0 C0 M' h0 0))
theorem MS.nine (h : MS M0 z m U Ab0 Be0 C0 M t c) : mI M m 9 = mI M0 m 9 := by
  obtain ⟨_, _, _, -, -, -, -, -, -, -, h9, -⟩ := h
  exact h9
/-- the program and the machine lie apart -/
def Mpr (M0 : mM) (z m p O P Ab0 Be0 : Nat) : Prop := (p + 15 < m ∨ m + 9 < p) ∧ (O ≠ Ab0 ∧ O ≠ Be0 ∧ P ≠ Ab0 ∧ P ≠ Be0) ∧ m + 9 < z ∧ p + 16 ≤ z ∧ (Ab0 = m + 3 ∨ z ≤ Ab0) ∧ (Be0 = m + 4 ∨ z ≤ Be0)
/-- at any time: the program is as it was -/
theorem MS.prog (h : MS M0 z m U Ab0 Be0 C0 M t c) (hp : PK M0 z p O P K) (h0 : mR M0 m 0 = p) (ha : Mpr M0 z m p O P Ab0 Be0) : PK M z p O P K ∧ mR M m 0 = p ∧ mI M O = mI M0 O ∧ mI M P = mI M0 P ∧ ∀ i, i ≤ 15 → mI M (p + i) = mI M0 (p + i) := by
  obtain ⟨Ab, Be, C, ok, hk, hf, hab, hr, -, -, hm⟩ := h
  obtain ⟨a1, ⟨a2, a3, a4, a5⟩, a6, a7, a8, a9⟩ := ha
  obtain ⟨-, -, -, sp, ⟨z0, z1, z2⟩, -, -⟩ := id hp
  refine ⟨hp.fa hf (show ¬ p = m by omega), by rw [hm.2.2]; exact h0, (hf.2 O z1).2.2.2.2 ?_, (hf.2 P z2).2.2.2.2 ?_, fun i hi => (hf.2 (p + i) (by omega)).2.2.2.2 ?_⟩
  · exact fun q => t6p a1 sp.1 a6 a2 a3 q
  · exact fun q => t6q a1 sp.2.1 a6 a4 a5 q
  · exact fun q => t6r a1 a7 a8 a9 hi q
end MAE
end
section
/-! The class's machine: run, the loop. -/
section MAF
variable {G : mG} {d z m U Ab Be C Ab0 Be0 C0 t s c p O P K L V F E F0 s0 e0 h0 : Nat} {M0 M M' M1 M2 : mM} {S R X : Nat → Prop} {ns : Nat → Int} {sf ef : Nat → Nat} {H : Nat → Nat}
theorem stO.all {pc : Nat} {o x : Int} (h : stO V F ns H pc o x) : o ≠ 0 ∧ (o = 3 → H (pc + 1) = H pc + 1) ∧ ((o = 4 ∨ o = 7) → 0 ≤ x ∧ x < F ∧ ns x.toNat = o ∧ H (pc + 1) = H pc + 1) ∧ (o = 5 → 0 ≤ x ∧ x < V ∧ H (pc + 1) = H pc + 1) ∧ ((o = 30 ∨ o = 31 ∨ o = 33) → H (pc + 1) + 1 = H pc) ∧ (o = 42 → 1 ≤ H pc) ∧ ((o = 40 ∨ o = 41) → 1 ≤ H pc ∧ H (pc + 1) = H pc) ∧ ((o = 15 ∨ o = 16 ∨ (19 ≤ o ∧ o ≤ 29)) → 2 ≤ H pc ∧ H (pc + 1) + 1 = H pc) ∧ (o = 43 → 0 ≤ x ∧ x ≤ 1000000 ∧ x % 16 < V ∧ H (pc + 1) + 1 = H pc) ∧ ((o = 3 ∨ o = 4 ∨ o = 5 ∨ o = 7 ∨ o = 30 ∨ o = 31 ∨ o = 33 ∨ o = 42) ∨ (o = 40 ∨ o = 41) ∨ (o = 15 ∨ o = 16 ∨ (19 ≤ o ∧ o ≤ 29)) ∨ o = 43) := by
  unfold stO at h
  rcases h with q | q | q | q | q | q | q | q
  all_goals refine ⟨by omega, by omega, by omega, by omega, by omega, by omega, by omega, by omega, by omega, by omega⟩
theorem s_ma14 (hF : FMs G) (hp : PK M0 z p O P K) (hm0 : mR M0 m 0 = p) (ha : Mpr M0 z m p O P Ab0 Be0) (hL : mI M0 p 2 = L) (hLK : L ≤ K) (hLn : L ≤ 16384) (hE : E < L) (fo : FO M0 p O P V ns sf ef L F0) (hX : ∀ x, x < F0 → ns x = 7 → X x) (hF0 : F0 ≤ 60) (hV : V ≤ 12) : ∀ (n i : Nat) (M : mM) (c T F s e : Nat) (H : Nat → Nat) (h t pc : Nat), 1000000 ≤ i + n → i ≤ 1000000 → MS M0 z m U Ab0 Be0 C0 M t c → MT M m X → Cs M0 m O P V ns sf ef E F0 s0 e0 h0 M c T F s e H h → Cod M0 O P V F ns s e H h → (∀ y, y < F → ns y = 7 → ef y < s) → T + e ≤ E → F + c ≤ F0 → s ≤ pc → pc ≤ e → t = T + H pc → h_Ma_run_14 G (d + 3) m pc i M (rnQ M0 z m U Ab0 Be0 C0 X h0) := by
  intro n
  induction n with
  | zero =>
    intro i M c T F s e H h t pc hn hi hM hT hcs hcd hy hTe hFc hs he ht
    obtain ⟨ok, k0, h8, -⟩ := hM.pile
    obtain ⟨hp1, hr0, -, -, -⟩ := hM.prog hp hm0 ha
    refine k_Ma_run_14 ok (i32s (by omega) (by omega)) ⟨by omega, by omega⟩ ⟨fun y => absurd y (by omega), fun _ => ⟨k0, (s_Ma_stop (i32s (by omega) (by omega)) (i32s (by omega) (by omega)) hM).mono (fun r M' q => ?_)⟩, fun y => absurd (Or.inl (by omega)) y⟩
    obtain ⟨e1, q1, q2, q3⟩ := q
    rw [e1]
    exact ⟨i32s (by omega) (by omega), q1.pile.1, Or.inl rfl, hT.mtb q2 (by rw [q1.nine, hM.nine]), Or.inl ⟨rfl, by rw [q3]; decide, _, _, q1⟩⟩
  | succ n ih =>
    intro i M c T F s e H h t pc hn hi hM hT hcs hcd hy hTe hFc hs he ht
    obtain ⟨ok, k0, h8, kA, kB, tA, tB, bA, bB, hb, ⟨mA, mB⟩, ne⟩ := hM.pile
    obtain ⟨hp1, hr0, iO, iP, iT⟩ := hM.prog hp hm0 ha
    obtain ⟨cO, c1, c2, c3, c4, c5⟩ := hcd
    obtain ⟨pk, ⟨pr0, pr1⟩, ⟨kO, kP, nO, nP⟩, -, -, -, ⟨⟨-, -, -, p8, p9, -⟩, ⟨-, -, -, pk8, pk9, -⟩, ⟨-, -, -, pn8, pn9, -⟩⟩⟩ := id hp1
    have tb : t ≤ 16384 := by
      by_cases ye : pc = e
      · rw [ye] at ht; omega
      · have := (cO pc hs (by omega)).2.2
        omega
    have l2 : mI M p 2 = L := by rw [show p = p + 0 by omega, iT 0 (by omega)]; exact hL
    have stp : Ci G y_Ma_stop (d + 3) [vr m, vi 6, vi 0] M (fun r M' => i32 r ∧ mOk M' ∧ (r = 0 ∨ r = 1) ∧ rnQ M0 z m U Ab0 Be0 C0 X h0 r M') := (s_Ma_stop (i32s (by omega) (by omega)) (i32s (by omega) (by omega)) hM).mono (fun r M' q => by
      obtain ⟨e1, q1, q2, q3⟩ := q
      rw [e1]
      exact ⟨i32s (by omega) (by omega), q1.pile.1, Or.inl rfl, hT.mtb q2 (by rw [q1.nine, hM.nine]), Or.inl ⟨rfl, by rw [q3]; decide, _, _, q1⟩⟩)
    refine k_Ma_run_14 ok (i32s (by omega) (by omega)) ⟨by omega, by omega⟩ ⟨fun _ _ => ⟨k0, by rw [hr0]; exact pk⟩, fun _ => ⟨k0, stp⟩, fun y => ?_⟩
    have i6 : i < 1000000 := by
      by_cases u : (1000000 : Int) ≤ i
      · exact absurd (Or.inl u) y
      · omega
    clear y stp
    have go : ∀ {M1 : mM} {t1 pc1 : Nat} {z1 : Int}, z1 = pc1 → MS M0 z m U Ab0 Be0 C0 M1 t1 c → mtb m M M1 → s ≤ pc1 → pc1 ≤ e → t1 = T + H pc1 → h_Ma_run_14 G (d + 3) m z1 ((i : Int) + 1) M1 (rnQ M0 z m U Ab0 Be0 C0 X h0) := fun {M1 t1 pc1 z1} ez hM1 hb1 g1 g2 g3 => by
      rw [ez, show ((i : Int) + 1) = ((i + 1 : Nat) : Int) by omega]
      exact ih (i + 1) M1 c T F s e H h t1 pc1 (by omega) (by omega) hM1 (hT.mtb hb1 (by rw [hM1.nine, hM.nine])) (hcs.cg (fun j _ => ⟨by rw [hb1 (m + 8) (by omega) (by omega)], by rw [hb1 (m + 9) (by omega) (by omega)]⟩)) ⟨cO, c1, c2, c3, c4, c5⟩ hy hTe hFc g1 g2 g3
    rw [hr0, pr0, pr1, p8, p9, pn8, pn9, nO, nP, iO, iP, Int.toNat_natCast]
    refine ⟨k0, pk, kO, by omega, kP, by omega, fun o0 => ?_, fun o0 => ?_⟩
    · -- the end of a piece
      have ye : pc = e := by
        by_cases u : pc = e
        · exact u
        · exact absurd o0 (cO pc hs (by omega)).1.all.1
      subst ye
      obtain ⟨_, _, _, -, -, -, -, -, -, h15, -⟩ := id hM
      rw [h15]
      refine ⟨fun y => ?_, fun y => ?_⟩
      · have y0 : c = 0 := by omega
        subst y0
        obtain ⟨q1, -, -, -, q5⟩ := hcs
        rw [ht, q1, c2, q5, Nat.zero_add] at hM
        exact ⟨hT, Or.inr ⟨rfl, hM⟩⟩
      · obtain ⟨c', ec⟩ : ∃ c', c = c' + 1 := ⟨c - 1, by omega⟩
        subst ec
        obtain ⟨T1, F1, s1, e1, H1, h1, pc1, q1, q2, q3, q4, q5, q6, q7, q8, ⟨q9a, q9b, q9c⟩, q10, q11, q12, q13⟩ := hcs
        have et : t = T + 1 := by omega
        subst et
        refine (s_Ma_comeBack hM q6 (by omega) (by omega)).mono (fun r M' w => ?_)
        obtain ⟨w1, w2, w3, w4, w5, w6, w7⟩ := w
        have ok' := w2.pile.1
        rw [q10] at w1
        rw [w1, show ((i : Int) + 1) = ((i + 1 : Nat) : Int) by omega]
        refine ⟨i32s (by omega) (by omega), ok', ih (i + 1) M' c' T1 F1 s1 e1 H1 h1 (T + 1) pc1 (by omega) (by omega) w2 (fun x hx => ?_) (q1.cg (fun j _ => ⟨by rw [w3], by rw [w4]⟩)) q2 q3 q4 q5 (by omega) q12 q13⟩
        rw [w5, w2.nine, ← hM.nine]
        by_cases yx : x = F
        · rw [if_pos yx, yx]
          exact ⟨Int.le_refl _, fun _ => w7⟩
        · rw [if_neg yx, w6 x yx]
          exact hT x hx
    · have ye : pc < e := by
        by_cases u : pc = e
        · exact absurd (by rw [u]; exact c4) o0
        · omega
      obtain ⟨st, jmp, hbb⟩ := cO pc hs ye
      obtain ⟨-, f3, f4, f5, f30, f42, f40, f15, f43, fall⟩ := st.all
      have jp : jm (mI M0 O pc) → ∃ tt : Nat, mI M0 P pc = tt ∧ pc < tt ∧ tt ≤ e ∧ (mI M0 O pc = 33 → H tt + 1 = H pc) ∧ (mI M0 O pc ≠ 33 → H tt = H pc) := fun q => (jmp q).elim (fun u => u.elim) (fun u => u)
      clear jmp st
      refine ⟨fun o3 => ?_, fun o3 => ⟨fun o4 => ?_, fun o4 => ⟨fun o5 => ?_, fun o5 => ⟨fun o7 => ?_, fun o7 => ⟨fun o30 => ⟨kA, by omega, fun v61 _ v67 _ v73 _ v79 e79 v83 e83 => ?_⟩, fun o30 => ⟨fun o33 => ?_, fun o33 => ⟨fun o42 => ?_, fun o42 => ?_⟩⟩⟩⟩⟩⟩⟩
      · have i0 : i32 (mI M0 P pc) := by rw [← iP]; exact (ok _ _).1
        refine (s_Ma_push hM tb i0 ⟨by omega, by omega⟩).mono (fun M' q => ⟨q.1.pile.1, go (pc1 := pc + 1) (by omega) q.1 q.2 (by omega) (by omega) ?_⟩)
        have := f3 o3
        omega
      · obtain ⟨x0, x1, x2, x3⟩ := f4 (Or.inl o4)
        have xx : (mI M0 P pc).toNat < F0 := by omega
        have vb := (fo _ xx).1 (by rw [x2]; exact o4)
        have e7 := iT 7 (by omega)
        refine ⟨pk8, by omega, pk9, by omega, (s_Ma_push hM tb (ok _ _).1 (by rw [e7]; exact vb)).mono (fun M' q => ⟨q.1.pile.1, go (pc1 := pc + 1) (by omega) q.1 q.2 (by omega) (by omega) (by omega)⟩)⟩
      · obtain ⟨x0, x1, x2⟩ := f5 o5
        obtain ⟨_, _, _, -, hk, -⟩ := id hM
        have r3 := hk.2.1.1
        have kU := hk.2.2.1.1
        have bs0 := hk.2.2.2.2.1
        rw [r3]
        refine ⟨kU, by omega, (s_Ma_push hM tb (ok _ _).1 ⟨by omega, by omega⟩).mono (fun M' q => ⟨q.1.pile.1, go (pc1 := pc + 1) (by omega) q.1 q.2 (by omega) (by omega) (by omega)⟩)⟩
      · obtain ⟨x0, x1, x2, x3⟩ := f4 (Or.inr o7)
        obtain ⟨x, ex⟩ : ∃ x : Nat, mI M0 P pc = x := ⟨(mI M0 P pc).toNat, by omega⟩
        rw [ex, Int.toNat_natCast, o7] at x2
        rw [ex]
        have xF : x < F := by omega
        obtain ⟨-, fx⟩ := fo x (by omega)
        obtain ⟨g1, ⟨Hx, gx⟩, g3, g4⟩ := fx x2
        have hyx := hy x xF x2
        have gs : sf x ≤ ef x := gx.2.2.2.2.2
        refine (s_Ma_meet (p := p) hM hp1 hr0 (by omega) (by omega) tb (i32s (by omega) (by omega)) (hT x (hX x (by omega) x2)).2 ha.1).mono (fun r M' q => ?_)
        rcases q with ⟨w1, w2, w3⟩ | ⟨w1, w2, w3, w4, w5, w6⟩
        · rw [w1]
          exact ⟨i32s (by omega) (by omega), w2.pile.1, go (pc1 := pc + 1) (by omega) w2 w3 (by omega) (by omega) (by omega)⟩
        · rw [iT 8 (by omega), g1] at w1
          rw [w1, show ((i : Int) + 1) = ((i + 1 : Nat) : Int) by omega]
          refine ⟨i32s (by omega) (by omega), w2.pile.1, ih (i + 1) M' (c + 1) t x (sf x) (ef x) Hx 1 t (sf x) (by omega) (by omega) w2 (fun x' hx' => ?_) ?_ gx g4 (by omega) (by omega) (Nat.le_refl _) gs (by have := gx.2.1; omega)⟩
          · rw [w3, w4, w2.nine, ← hM.nine]
            exact hT x' hx'
          · refine ⟨T, F, s, e, H, h, pc + 1, hcs.cg (fun j hj => ⟨by rw [w5, if_neg (by omega)], by rw [w6, if_neg (by omega)]⟩), ⟨cO, c1, c2, c3, c4, c5⟩, hy, hTe, hFc, by rw [w5, if_pos rfl], xF, x2, ⟨rfl, rfl, rfl⟩, by rw [w6, if_pos rfl]; omega, by omega, by omega, by omega⟩
      · have hh := f30 (by omega)
        obtain ⟨tt, j1, j2, j3, j4, j5⟩ := jp (by unfold jm; omega)
        have j6 := j5 (by omega)
        by_cases y73 : v73 = 0
        · rw [if_pos y73] at e79 e83
          refine ⟨by rw [e83]; exact ⟨by omega, by omega⟩, fun M87 e87 => ?_⟩
          have w := ms_top (t' := T + H (pc + 1)) hM (by omega) (by omega) e87
          exact go (pc1 := pc + 1) (by omega) w.1 w.2.1 (by omega) (by omega) rfl
        · rw [if_neg y73] at e79 e83
          refine ⟨by rw [e83]; exact ⟨by omega, by omega⟩, fun M87 e87 => ?_⟩
          have w := ms_top (t' := T + H tt) hM (by omega) (by omega) e87
          exact go (pc1 := tt) (by omega) w.1 w.2.1 (by omega) (by omega) rfl
      · have hh := f30 (by omega)
        obtain ⟨tt, j1, j2, j3, j4, j5⟩ := jp (by unfold jm; omega)
        have j6 := j4 o33
        refine ⟨⟨by omega, by omega⟩, fun M96 e96 => ?_⟩
        have w := ms_top (t' := T + H (pc + 1)) hM (by omega) (by omega) e96
        obtain ⟨ok6, k06, h86, kA6, kB6, tA6, -⟩ := w.1.pile
        have lA : mN M96 (mR M96 m 6) = mN M (mR M m 6) := by rw [w.2.2.2.1, w.2.2.2.2.1]
        rw [h86, lA]
        refine ⟨kA6, by omega, fun v101 e101 => ?_⟩
        by_cases yy : mI M96 (mR M96 m 6) ((T + H (pc + 1) : Nat) : Int).toNat = 0
        · rw [if_pos yy] at e101
          exact go (pc1 := tt) (by omega) w.1 w.2.1 (by omega) (by omega) (by omega)
        · rw [if_neg yy] at e101
          exact go (pc1 := pc + 1) (by omega) w.1 w.2.1 (by omega) (by omega) rfl
      · obtain ⟨tt, j1, j2, j3, j4, j5⟩ := jp (by unfold jm; omega)
        have j6 := j5 (by omega)
        exact go (pc1 := tt) (by omega) hM mtb.refl (by omega) (by omega) (by omega)
      · have io : i32 (mI M0 O pc) := by rw [← iO]; exact (ok _ _).1
        have ix : i32 (mI M0 P pc) := by rw [← iP]; exact (ok _ _).1
        have cm0 : cmO V t (mI M0 O pc) (mI M0 P pc) (T + H (pc + 1)) := by
          unfold cmO
          rcases fall with q | q | q | q
          · exact absurd q (by omega)
          · have := f40 q
            exact Or.inl ⟨q, by omega, by omega⟩
          · have := f15 q
            exact Or.inr (Or.inr ⟨q, by omega, by omega⟩)
          · obtain ⟨x0, x1, x2, x3⟩ := f43 q
            exact Or.inr (Or.inl ⟨q, x0, x1, x2, by omega⟩)
        refine (s_Ma_compute hF hV io ix cm0 hM hp1 hr0).mono (fun r M' q => ?_)
        obtain ⟨q1, q2⟩ := q
        rcases q1 with ⟨e1, w0, t2, w⟩ | ⟨e1, w⟩
        · rw [e1]
          exact ⟨i32s (by omega) (by omega), w.pile.1, fun _ => ⟨hT.mtb q2 (by rw [w.nine, hM.nine]), Or.inl ⟨rfl, w0, _, _, w⟩⟩, fun u => absurd rfl u⟩
        · rw [e1]
          exact ⟨i32s (by omega) (by omega), w.pile.1, fun u => absurd u (by omega), fun _ => go (pc1 := pc + 1) (by omega) w q2 (by omega) (by omega) rfl⟩
theorem s_Ma_run (hF : FMs G) (ok : mOk M) (hk : MK M z m U Ab0 Be0 C0) (hT : MT M m X) (hp : PK M z p O P K) (hm0 : mR M m 0 = p) (ha : Mpr M z m p O P Ab0 Be0) (hL : mI M p 2 = L) (hLK : L ≤ K) (hLn : L ≤ 16384) (fo : FO M p O P V ns sf ef L F) (hX : ∀ x, x < F → ns x = 7 → X x) (hF0 : F ≤ 60) (hV : V ≤ 12) {h : Nat} {e : Nat} (hcd : Cod M O P V F ns s e H h) (heL : e < L) (hy : ∀ y, y < F → ns y = 7 → ef y < s) : Ci G y_Ma_run (d + 4) [vr m, vi s] M (rnQ M z m U Ab0 Be0 C0 X h) := by
  obtain ⟨sA, sB, sne, sz⟩ := hk.2.2.2.2.2.1
  have c64 := hk.2.2.2.2.2.2.2
  have hse := hcd.2.2.2.2.2
  refine k_Ma_run ok (i32s (by omega) (by omega)) ⟨hk.1, fun M2 e2 M4 e4 => ?_⟩
  have f2 : FI (fun b => b = m) M M2 := by rw [e2]; exact FI.ui rfl
  have f4 : FI (fun b => b = m) M2 M4 := by rw [e4]; exact FI.ui rfl
  have ff := f2.trans f4
  have g : ∀ i, mI M4 m i = if i = 15 then 0 else if i = 8 then 0 else mI M m i := fun i => by
    rw [mI_ui m i e4]
    by_cases y : i = 15
    · rw [if_pos ⟨rfl, y⟩, if_pos y]
    · rw [if_neg (fun q => y q.2), if_neg y, mI_ui m i e2]
      by_cases y8 : i = 8
      · rw [if_pos ⟨rfl, y8⟩, if_pos y8]
      · rw [if_neg (fun q => y8 q.2), if_neg y8]
  have o4 : mOk M4 := by rw [e4]; exact mOk_UI (by rw [e2]; exact mOk_UI ok (i32s (by omega) (by omega))) (i32s (by omega) (by omega))
  have hM : MS M z m U Ab0 Be0 C0 M4 0 0 := ms_step (M := M) (t' := 0) (c' := 0) o4 hk FA.refl ⟨Or.inl rfl, Or.inl rfl⟩ ⟨rfl, Nat.le_refl _⟩ ⟨rfl, rfl, rfl⟩ (ff.mono (fun _ q => Or.inl q)) (by rw [g, if_neg (by decide), if_neg (by decide)]) (by rw [g, if_neg (by decide), if_neg (by decide)]) (by rw [g, if_neg (by decide), if_pos rfl]; rfl) (by omega) (fun j hj => absurd hj (by omega)) (by rw [g, if_pos rfl]; rfl)
  have hb : mtb m M M4 := fun b h1 h2 => ff.2.2.2.2.2.2 b (by omega)
  exact s_ma14 (E := e) (F0 := F) (s0 := s) (e0 := e) hF hp hm0 ha hL hLK hLn heL fo hX hF0 hV 1000000 0 M4 0 0 F s e H h 0 s (by omega) (by omega) hM (hT.mtb hb (by rw [g, if_neg (by decide), if_neg (by decide)])) ⟨rfl, rfl, rfl, rfl, rfl⟩ hcd hy (by omega) (by omega) (Nat.le_refl _) hse (by have := hcd.2.1; omega)
end MAF
end
section
/-! The class's reader of texts: places, tables, frames. -/
theorem t6a {q p O P x : Nat} (u : ¬ (q ≤ x ∧ x ≤ q + 22)) (v : ¬ ((q + 1 ≤ x ∧ x ≤ q + 1 + 9) ∨ (p ≤ x ∧ x ≤ p + 15) ∨ x = O ∨ x = P)) (y : (q ≤ x ∧ x ≤ q + 10) ∨ x = q + 21 ∨ x = q + 22 ∨ x = p ∨ (p + 3 ≤ x ∧ x ≤ p + 15) ∨ x = O ∨ x = P) : False := by
  rcases y with y | y | y | y | y | y | y
  · exact u ⟨y.1, Nat.le_trans y.2 (by omega)⟩
  · exact u (by rw [y]; exact ⟨by omega, by omega⟩)
  · exact u (by rw [y]; exact ⟨by omega, by omega⟩)
  · exact v (Or.inr (Or.inl (by rw [y]; exact ⟨by omega, by omega⟩)))
  · exact v (Or.inr (Or.inl ⟨Nat.le_trans (by omega) y.1, y.2⟩))
  · exact v (Or.inr (Or.inr (Or.inl y)))
  · exact v (Or.inr (Or.inr (Or.inr y)))
theorem t6b {q p O P : Nat} (s : q + 22 < p ∨ p + 15 < q) (o : O < q ∨ q + 22 < O) (o' : P < q ∨ q + 22 < P) (y : (q ≤ q + 11 ∧ q + 11 ≤ q + 10) ∨ q + 11 = q + 21 ∨ q + 11 = q + 22 ∨ q + 11 = p ∨ (p + 3 ≤ q + 11 ∧ q + 11 ≤ p + 15) ∨ q + 11 = O ∨ q + 11 = P) : False := by
  rcases y with y | y | y | y | y | y | y
  · omega
  · omega
  · omega
  · clear o o'; omega
  · clear o o'; omega
  · clear s o'; omega
  · clear s o; omega
theorem t6c {q p O P b j : Nat} (hb : (b = q ∨ b = q + 21 ∨ b = q + 22 ∨ (b = q + 1 ∧ (j = 2 ∨ j = 5 ∨ j = 6)) ∨ (b = p ∧ j = 2))) : (q ≤ b ∧ b ≤ q + 10) ∨ b = q + 21 ∨ b = q + 22 ∨ b = p ∨ (p + 3 ≤ b ∧ b ≤ p + 15) ∨ b = O ∨ b = P := by
  rcases hb with u | u | u | u | u
  · exact Or.inl ⟨by omega, by omega⟩
  · exact Or.inr (Or.inl u)
  · exact Or.inr (Or.inr (Or.inl u))
  · exact Or.inl ⟨by omega, by omega⟩
  · exact Or.inr (Or.inr (Or.inr (Or.inl u.1)))
theorem t6d {q p b i j : Nat} (hb : (b = q ∨ b = q + 21 ∨ b = q + 22 ∨ (b = q + 1 ∧ (j = 2 ∨ j = 5 ∨ j = 6)) ∨ (b = p ∧ j = 2))) (s : q + 22 < p ∨ p + 15 < q) (i2 : i ≠ 2) (i5 : i ≠ 5) (i6 : i ≠ 6) : ¬ (q + 1 = b ∧ i = j) := fun e => by
  obtain ⟨e, e'⟩ := e
  subst e'
  rcases hb with u | u | u | u | u
  · omega
  · omega
  · omega
  · rcases u.2 with v | v | v
    · exact i2 v
    · exact i5 v
    · exact i6 v
  · exact i2 u.2
theorem t6e {q p b i j x : Nat} (hb : (b = q ∨ b = q + 21 ∨ b = q + 22 ∨ (b = q + 1 ∧ (j = 2 ∨ j = 5 ∨ j = 6)) ∨ (b = p ∧ j = 2))) (s : q + 22 < p ∨ p + 15 < q) (i6 : 6 ≤ i) (i9 : i ≤ 9) : ¬ (q + 1 + i = b ∧ x = j) := fun e => by
  obtain ⟨e, -⟩ := e
  rcases hb with u | u | u | u | u
  · omega
  · omega
  · omega
  · have := u.1; omega
  · have := u.1; omega
theorem t6f {q p b i j : Nat} (hb : (b = q ∨ b = q + 21 ∨ b = q + 22 ∨ (b = q + 1 ∧ (j = 2 ∨ j = 5 ∨ j = 6)) ∨ (b = p ∧ j = 2))) (s : q + 22 < p ∨ p + 15 < q) (i2 : i ≠ 2) : ¬ (p = b ∧ i = j) := fun e => by
  obtain ⟨e, e'⟩ := e
  subst e'
  rcases hb with u | u | u | u | u
  · omega
  · omega
  · omega
  · have := u.1; omega
  · exact i2 u.2
theorem t6g {q p b i j x : Nat} (hb : (b = q ∨ b = q + 21 ∨ b = q + 22 ∨ (b = q + 1 ∧ (j = 2 ∨ j = 5 ∨ j = 6)) ∨ (b = p ∧ j = 2))) (s : q + 22 < p ∨ p + 15 < q) (i3 : 3 ≤ i) (i15 : i ≤ 15) : ¬ (p + i = b ∧ x = j) := fun e => by
  obtain ⟨e, -⟩ := e
  rcases hb with u | u | u | u | u
  · omega
  · omega
  · omega
  · have := u.1; omega
  · have := u.1; omega
theorem t6h {q p O b i j : Nat} (hb : (b = q ∨ b = q + 21 ∨ b = q + 22 ∨ (b = q + 1 ∧ (j = 2 ∨ j = 5 ∨ j = 6)) ∨ (b = p ∧ j = 2))) (o : O < q ∨ q + 22 < O) (o2 : O ≠ p) : ¬ (O = b ∧ i = j) := fun e => by
  obtain ⟨e, -⟩ := e
  rcases hb with u | u | u | u | u
  · omega
  · omega
  · omega
  · have := u.1; omega
  · exact o2 (e.trans u.1)
theorem t6i {O p k : Nat} (h : O < p ∨ O = p + k ∨ p + 15 < O) (hk : 0 < k) : O ≠ p := by omega
theorem t6j {q p b i j : Nat} (hb : (b = q ∨ b = q + 21 ∨ b = q + 22 ∨ (b = q + 1 ∧ (j = 2 ∨ j = 5 ∨ j = 6)) ∨ (b = p ∧ j = 2))) (s : q + 22 < p ∨ p + 15 < q) : ¬ (q + 6 = b ∧ i = j) := fun e => by
  obtain ⟨e, -⟩ := e
  rcases hb with u | u | u | u | u
  · omega
  · omega
  · omega
  · have := u.1; omega
  · have := u.1; omega
theorem t6k {q p O P b : Nat} (y : (q + 1 ≤ b ∧ b ≤ q + 1 + 9) ∨ b = p ∨ b = O ∨ b = P) : (q ≤ b ∧ b ≤ q + 10) ∨ b = q + 21 ∨ b = q + 22 ∨ b = p ∨ (p + 3 ≤ b ∧ b ≤ p + 15) ∨ b = O ∨ b = P := by
  rcases y with y | y | y | y
  · exact Or.inl ⟨by omega, by omega⟩
  · exact Or.inr (Or.inr (Or.inr (Or.inl y)))
  · exact Or.inr (Or.inr (Or.inr (Or.inr (Or.inr (Or.inl y)))))
  · exact Or.inr (Or.inr (Or.inr (Or.inr (Or.inr (Or.inr y)))))
theorem t6l {q p O P i : Nat} (s : q + 22 < p ∨ p + 15 < q) (o : O < p ∨ O = p + 1 ∨ p + 15 < O) (o' : P < p ∨ P = p + 2 ∨ p + 15 < P) (i3 : 3 ≤ i) (i15 : i ≤ 15) (y : (q + 1 ≤ p + i ∧ p + i ≤ q + 1 + 9) ∨ p + i = p ∨ p + i = O ∨ p + i = P) : False := by
  rcases y with y | y | y | y
  · clear o o'; omega
  · omega
  · clear s o'; omega
  · clear s o; omega
theorem t6n {q p O P x : Nat} (s : q + 22 < p ∨ p + 15 < q) (o : O < q ∨ q + 22 < O) (o' : P < q ∨ q + 22 < P) (h1 : q ≤ x) (h2 : x ≤ q + 22) : x ≠ p ∧ x ≠ O ∧ x ≠ P := by
  refine ⟨?_, ?_, ?_⟩
  · clear o o'; omega
  · clear s o'; omega
  · clear s o; omega
theorem t6o {p O P i : Nat} (o : O < p ∨ O = p + 1 ∨ p + 15 < O) (o' : P < p ∨ P = p + 2 ∨ p + 15 < P) (i3 : 3 ≤ i) (i15 : i ≤ 15) : p + i ≠ p ∧ p + i ≠ O ∧ p + i ≠ P := by
  refine ⟨?_, ?_, ?_⟩
  · omega
  · clear o'; omega
  · clear o; omega
section TRA
variable {G : mG} {d z q w T A B D N C n p O P K Ab Be Cm V F c s L L' cnt Bn a : Nat} {M0 M M' M1 M2 : mM} {ns ns' : Nat → Int} {sf ef sf' ef' : Nat → Nat} {H : Nat → Nat} {S R : Nat → Prop}
theorem CO.wide {V' F' : Nat} {pd : Nat → Prop} {e : Nat} (h : CO M O P V F ns H s e pd) (hV : V ≤ V') (hF : F ≤ F') (hn : ∀ x, x < F → ns' x = ns x) : CO M O P V' F' ns' H s e pd := fun pc h0 h1 => by
  obtain ⟨a1, a2, a3⟩ := h pc h0 h1
  refine ⟨?_, a2, a3⟩
  clear a2 h
  unfold stO at a1 ⊢
  rcases a1 with u | u | u | u | u | u | u | u
  · exact Or.inl u
  · obtain ⟨u1, u2, u3, u4, u5⟩ := u
    exact Or.inr (Or.inl ⟨u1, u2, by omega, by rw [hn _ (by omega)]; exact u4, u5⟩)
  · obtain ⟨u1, u2, u3, u4⟩ := u
    exact Or.inr (Or.inr (Or.inl ⟨u1, u2, by omega, u4⟩))
  · exact Or.inr (Or.inr (Or.inr (Or.inl u)))
  · exact Or.inr (Or.inr (Or.inr (Or.inr (Or.inl u))))
  · exact Or.inr (Or.inr (Or.inr (Or.inr (Or.inr (Or.inl u)))))
  · exact Or.inr (Or.inr (Or.inr (Or.inr (Or.inr (Or.inr (Or.inl u))))))
  · obtain ⟨u1, u2, u3, u4, u5⟩ := u
    exact Or.inr (Or.inr (Or.inr (Or.inr (Or.inr (Or.inr (Or.inr ⟨u1, u2, u3, by omega, u5⟩))))))
theorem Cod.wide {V' F' e h : Nat} (hc : Cod M O P V F ns s e H h) (hV : V ≤ V') (hF : F ≤ F') (hn : ∀ x, x < F → ns' x = ns x) : Cod M O P V' F' ns' s e H h := ⟨hc.1.wide hV hF hn, hc.2⟩
/-- the code is the same -/
theorem Cod.cg {e h : Nat} (hc : Cod M O P V F ns s e H h) (hO : ∀ i, i ≤ e → mI M' O i = mI M O i) (hP : ∀ i, i ≤ e → mI M' P i = mI M P i) : Cod M' O P V F ns s e H h := by
  obtain ⟨c1, c2, c3, c4, c5, c6⟩ := hc
  refine ⟨fun pc h0 h1 => ?_, c2, c3, c4, by rw [hO e (Nat.le_refl _)]; exact c5, c6⟩
  rw [hO pc (by omega), hP pc (by omega)]
  exact c1 pc h0 h1
/-- a piece of code at s -/
def PC (M : mM) (O P V F : Nat) (ns : Nat → Int) (ef : Nat → Nat) (L s h : Nat) : Prop := ∃ e H Ft, Cod M O P V Ft ns s e H h ∧ e < L ∧ Ft ≤ F ∧ ∀ y, y < Ft → ns y = 7 → ef y < s
theorem PC.wide {V' F' h : Nat} (hc : PC M O P V F ns ef L s h) (hV : V ≤ V') (hF : F ≤ F') (hL : L ≤ L') (hn : ∀ x, x < F → ns' x = ns x ∧ ef' x = ef x) : PC M O P V' F' ns' ef' L' s h := by
  obtain ⟨e, H, Ft, c1, c2, c3, c4⟩ := hc
  refine ⟨e, H, Ft, c1.wide hV (Nat.le_refl _) (fun x hx => (hn x (by omega)).1), by omega, by omega, fun y hy h7 => ?_⟩
  rw [(hn y (by omega)).2]
  exact c4 y hy (by rw [← (hn y (by omega)).1]; exact h7)
theorem PC.cg {h : Nat} (hc : PC M O P V F ns ef L s h) (hO : ∀ i, i < L → mI M' O i = mI M O i) (hP : ∀ i, i < L → mI M' P i = mI M P i) : PC M' O P V F ns ef L s h := by
  obtain ⟨e, H, Ft, c1, c2, c3, c4⟩ := hc
  exact ⟨e, H, Ft, c1.cg (fun i hi => hO i (by omega)) (fun i hi => hP i (by omega)), c2, c3, c4⟩
theorem FO.cg (h : FO M p O P V ns sf ef L F) (hO : ∀ i, i < L → mI M' O i = mI M O i) (hP : ∀ i, i < L → mI M' P i = mI M P i) (h7 : ∀ i, i < F → mI M' (p + 7) i = mI M (p + 7) i) (h8 : ∀ i, i < F → mI M' (p + 8) i = mI M (p + 8) i) : FO M' p O P V ns sf ef L F := fun x hx => by
  obtain ⟨a1, a2⟩ := h x hx
  rw [h7 x hx, h8 x hx]
  refine ⟨a1, fun y => ?_⟩
  obtain ⟨b1, ⟨Hx, b2⟩, b3, b4⟩ := a2 y
  exact ⟨b1, ⟨Hx, b2.cg (fun i hi => hO i (by omega)) (fun i hi => hP i (by omega))⟩, b3, b4⟩
theorem FO.wide {V' : Nat} (h : FO M p O P V ns sf ef L F) (hV : V ≤ V') (hL : L ≤ L') : FO M p O P V' ns sf ef L' F := fun x hx => by
  obtain ⟨a1, a2⟩ := h x hx
  refine ⟨a1, fun y => ?_⟩
  obtain ⟨b1, ⟨Hx, b2⟩, b3, b4⟩ := a2 y
  exact ⟨b1, ⟨Hx, b2.wide hV (Nat.le_refl _) (fun _ _ => rfl)⟩, by omega, b4⟩
/-- the program's tables: cnt commands, Bn branches -/
def PG (M : mM) (p O P V F : Nat) (ns : Nat → Int) (sf ef : Nat → Nat) (L cnt Bn : Nat) : Prop := FO M p O P V ns sf ef L F ∧ (mI M p 11 = -1 ∨ ∃ s : Nat, mI M p 11 = s ∧ PC M O P V F ns ef L s 1) ∧ (∀ j, j < cnt → ∃ s : Nat, mI M (p + 11) j = s ∧ PC M O P V F ns ef L s 1) ∧ mI M (p + 12) 0 = 0 ∧ (∀ j, j < cnt → ∃ u v : Nat, mI M (p + 12) j = u ∧ mI M (p + 12) (j + 1) = v ∧ u ≤ v ∧ v ≤ u + 8) ∧ (∃ u : Nat, mI M (p + 12) cnt = u ∧ u ≤ Bn ∧ u ≤ 8 * cnt) ∧ (∀ b, b < Bn → ∃ s1 s2 : Nat, mI M (p + 14) b = s1 ∧ PC M O P V F ns ef L s1 1 ∧ mI M (p + 15) b = s2 ∧ PC M O P V F ns ef L s2 0)
/-- the cells that reading an item may change -/
def txS (q p O P : Nat) : Nat → Prop := fun x => (q ≤ x ∧ x ≤ q + 10) ∨ x = q + 21 ∨ x = q + 22 ∨ x = p ∨ (p + 3 ≤ x ∧ x ≤ p + 15) ∨ x = O ∨ x = P
/-- the reader of texts: places; it lies apart from the words and the program -/
def TP (M : mM) (z q w T A B D N C n p O P K Ab Be Cm : Nat) : Prop := RB M z (q + 1) w T A B D N C n p O P K ∧ (mK M q = 3 ∧ mR M q 0 = q + 1 ∧ mR M q 1 = q + 11 ∧ mR M q 2 = p ∧ mR M q 5 = q + 21 ∧ mR M q 6 = q + 22) ∧ (mK M (q + 21) = 30 ∧ mK M (q + 22) = 30 ∧ mN M (q + 21) = 3 ∧ mN M (q + 22) = 3) ∧ MK M z (q + 11) (q + 12) Ab Be Cm ∧ mR M (q + 11) 0 = p ∧ (q + 23 ≤ z ∧ (q + 22 < p ∨ p + 15 < q) ∧ (∀ x, (x = w ∨ x = T ∨ x = A ∨ x = B ∨ x = D) → ¬ (q ≤ x ∧ x ≤ q + 22) ∧ x ≠ Ab ∧ x ≠ Be ∧ x < mZ M)) ∧ (O ≠ Ab ∧ O ≠ Be ∧ P ≠ Ab ∧ P ≠ Be)
theorem TP.apart (h : TP M z q w T A B D N C n p O P K Ab Be Cm) : Mpr M z (q + 11) p O P Ab Be ∧ (O < q ∨ q + 22 < O) ∧ (P < q ∨ q + 22 < P) ∧ (O < p ∨ O = p + 1 ∨ p + 15 < O) ∧ (P < p ∨ P = p + 2 ∨ p + 15 < P) ∧ O ≠ P := by
  obtain ⟨⟨-, -, -, -, ⟨-, -, -, ⟨a1, a2, a3, a4⟩, -⟩, -⟩, -, -, hk, -, ⟨b1, b2, -⟩, b3⟩ := h
  obtain ⟨sA, sB, sne, sz⟩ := hk.2.2.2.2.2.1
  exact ⟨⟨by omega, b3, by omega, by omega, sA, sB⟩, by omega, by omega, by omega, by omega, a3⟩
theorem TP.fi (h : TP M z q w T A B D N C n p O P K Ab Be Cm) (ok : mOk M') (f : FI (txS q p O P) M M') : TP M' z q w T A B D N C n p O P K Ab Be Cm := by
  have ap := h.apart
  obtain ⟨hb, h2, h3, hk, h4, ⟨s1, s2, s3⟩, h5⟩ := h
  obtain ⟨b1, b2, b3, b4, b5, b6, b7⟩ := hb
  obtain ⟨f1, f2, f3, f4, f5, f6, f7⟩ := id f
  refine ⟨⟨ok, b2.fi f, by rw [f3]; exact b3, b4.fi f (fun x hx y => ?_), b5.fi f, b6, b7⟩, by rw [f1, f3]; exact h2, by rw [f1, f2]; exact h3, hk.fi f ?_, by rw [f3]; exact h4, ⟨s1, s2, by rw [f5]; exact s3⟩, h5⟩
  · exact t6a (s3 x hx).1 (b6.2.2 x hx) y
  · rw [f7 (q + 11) (fun y => t6b s2 ap.2.1 ap.2.2.1 y)]
theorem TP.words (h : TP M z q w T A B D N C n p O P K Ab Be Cm) (f : FI (txS q p O P) M M') : mI M' A = mI M A ∧ mI M' B = mI M B ∧ mI M' D = mI M D ∧ mI M' w = mI M w := by
  have ap := h.apart
  obtain ⟨⟨-, -, -, -, -, b6, -⟩, -, -, -, -, ⟨-, -, s3⟩, -⟩ := h
  have no : ∀ x, (x = w ∨ x = T ∨ x = A ∨ x = B ∨ x = D) → ¬ txS q p O P x := fun x hx y => t6a (s3 x hx).1 (b6.2.2 x hx) y
  exact ⟨f.2.2.2.2.2.2 A (no A (Or.inr (Or.inr (Or.inl rfl)))), f.2.2.2.2.2.2 B (no B (Or.inr (Or.inr (Or.inr (Or.inl rfl))))), f.2.2.2.2.2.2 D (no D (Or.inr (Or.inr (Or.inr (Or.inr rfl))))), f.2.2.2.2.2.2 w (no w (Or.inl rfl))⟩
/-- names, vars, kinds -/
def TC (M : mM) (q A n p V F : Nat) (ns : Nat → Int) (c : Nat) : Prop := (mI M p 3 = V ∧ V ≤ 12) ∧ (mI M p 7 = F ∧ F ≤ 60) ∧ TN M (q + 1) A n V F ns c ∧ (∀ j, mI M (q + 6) j = 0 ∨ mI M (q + 6) j = 1)
/-- the tables, while no fault is noted -/
def PX (M : mM) (q p O P V F : Nat) (ns : Nat → Int) (sf ef : Nat → Nat) (L cnt : Nat) : Prop := (mI M p 12 = cnt ∧ cnt ≤ 60) ∧ (mI M (q + 1) 3 = 0 → ∃ u : Nat, mI M (p + 12) cnt = u ∧ PG M p O P V F ns sf ef L cnt u)
/-- what reading may change, but for the commands -/
def txE (M : mM) (q p O P s : Nat) (M' : mM) : Prop := (∀ i, i ≠ 2 → i ≠ 3 → i ≠ 4 → i ≠ 5 → i ≠ 6 → i ≠ 7 → i ≠ 12 → i ≠ 14 → mI M' (q + 1) i = mI M (q + 1) i) ∧ (mI M (q + 1) 3 ≠ 0 → mI M' (q + 1) 3 ≠ 0) ∧ (∀ i, 6 ≤ i → i ≤ 9 → mI M' (q + 1 + i) = mI M (q + 1 + i)) ∧ (∀ i, i ≠ 2 → mI M' p i = mI M p i) ∧ (∀ i, 3 ≤ i → i ≤ 15 → mI M' (p + i) = mI M (p + i)) ∧ (∀ i, i < s → mI M' O i = mI M O i ∧ mI M' P i = mI M P i)
def txF (M : mM) (q p O P s : Nat) (M' : mM) : Prop := FI (txS q p O P) M M' ∧ txE M q p O P s M'
theorem txF.refl : txF M q p O P s M := ⟨FI.refl, fun _ _ _ _ _ _ _ _ _ => rfl, fun h => h, fun _ _ _ => rfl, fun _ _ => rfl, fun _ _ _ => rfl, fun _ _ => ⟨rfl, rfl⟩⟩
theorem txF.trans (f : txF M q p O P s M1) (g : txF M1 q p O P s M2) : txF M q p O P s M2 := by
  obtain ⟨a1, a2, a3, a4, a5, a6, a7⟩ := f
  obtain ⟨b1, b2, b3, b4, b5, b6, b7⟩ := g
  exact ⟨a1.trans b1, fun i i2 i3 i4 i5 i6 i7 i12 i14 => by rw [b2 i i2 i3 i4 i5 i6 i7 i12 i14, a2 i i2 i3 i4 i5 i6 i7 i12 i14], fun h => b3 (a3 h), fun i i6 i9 => by rw [b4 i i6 i9, a4 i i6 i9], fun i i2 => by rw [b5 i i2, a5 i i2], fun i i9 i15 => by rw [b6 i i9 i15, a6 i i9 i15], fun i hi => ⟨by rw [(b7 i hi).1, (a7 i hi).1], by rw [(b7 i hi).2, (a7 i hi).2]⟩⟩
theorem txF.less {s' : Nat} (f : txF M q p O P s M1) (h : s' ≤ s) : txF M q p O P s' M1 := ⟨f.1, f.2.1, f.2.2.1, f.2.2.2.1, f.2.2.2.2.1, f.2.2.2.2.2.1, fun i hi => f.2.2.2.2.2.2 i (by omega)⟩
theorem TC.tx (h : TC M q A n p V F ns c) (hA : mI M' A = mI M A) (f : txE M q p O P s M') (ht : ∀ j, mI M' (q + 6) j = 0 ∨ mI M' (q + 6) j = 1) : TC M' q A n p V F ns c := by
  obtain ⟨a1, a2, a3, -⟩ := h
  obtain ⟨f2, -, f4, f5, -⟩ := f
  refine ⟨by rw [f5 3 (by decide)]; exact a1, by rw [f5 7 (by decide)]; exact a2, ?_, ht⟩
  unfold TN at a3 ⊢
  rw [hA, f2 19 (by decide) (by decide) (by decide) (by decide) (by decide) (by decide) (by decide) (by decide), f4 6 (by omega) (by omega), f4 7 (by omega) (by omega), f4 8 (by omega) (by omega), f4 9 (by omega) (by omega)]
  exact a3
theorem PX.tx (h : PX M q p O P V F ns sf ef L cnt) (f : txE M q p O P L M') : PX M' q p O P V F ns sf ef L cnt := by
  obtain ⟨a1, a2⟩ := h
  obtain ⟨f2, f3, f4, f5, f6, f7⟩ := f
  refine ⟨by rw [f5 12 (by decide)]; exact a1, fun h0 => ?_⟩
  obtain ⟨u, e, g1, g2, g3, g4, g5, g6, g7⟩ := a2 (Classical.byContradiction (fun y => f3 y h0))
  have cg : ∀ {s h : Nat}, PC M O P V F ns ef L s h → PC M' O P V F ns ef L s h := fun hc => hc.cg (fun i hi => (f7 i hi).1) (fun i hi => (f7 i hi).2)
  refine ⟨u, by rw [f6 12 (by omega) (by omega)]; exact e, g1.cg (fun i hi => (f7 i hi).1) (fun i hi => (f7 i hi).2) (fun i _ => by rw [f6 7 (by omega) (by omega)]) (fun i _ => by rw [f6 8 (by omega) (by omega)]), ?_, fun j hj => ?_, by rw [f6 12 (by omega) (by omega)]; exact g4, by rw [f6 12 (by omega) (by omega)]; exact g5, by rw [f6 12 (by omega) (by omega)]; exact g6, fun b hb => ?_⟩
  · rw [f5 11 (by decide)]
    exact g2.imp (fun y => y) (fun ⟨s, y1, y2⟩ => ⟨s, y1, cg y2⟩)
  · obtain ⟨s, y1, y2⟩ := g3 j hj
    exact ⟨s, by rw [f6 11 (by omega) (by omega)]; exact y1, cg y2⟩
  · obtain ⟨s1, s2, y1, y2, y3, y4⟩ := g7 b hb
    exact ⟨s1, s2, by rw [f6 14 (by omega) (by omega)]; exact y1, cg y2, by rw [f6 15 (by omega) (by omega)]; exact y3, cg y4⟩
/-- the reader of texts between two steps -/
def TX (M : mM) (z q w T A B D N C n p O P K Ab Be Cm V F : Nat) (ns : Nat → Int) (sf ef : Nat → Nat) (c cnt L : Nat) : Prop := TP M z q w T A B D N C n p O P K Ab Be Cm ∧ TC M q A n p V F ns c ∧ PX M q p O P V F ns sf ef L cnt
theorem TX.tx (h : TX M z q w T A B D N C n p O P K Ab Be Cm V F ns sf ef c cnt L) (ok : mOk M') (f : txF M q p O P L M') (ht : ∀ j, mI M' (q + 6) j = 0 ∨ mI M' (q + 6) j = 1) : TX M' z q w T A B D N C n p O P K Ab Be Cm V F ns sf ef c cnt L := by
  obtain ⟨h1, h2, h3⟩ := h
  exact ⟨h1.fi ok f.1, h2.tx (h1.words f.1).1 f.2 ht, h3.tx f.2⟩
end TRA
end
section
/-! The class's reader of texts: steps; names, rules of items. -/
section TRB
variable {G : mG} {d z q w T A B D N C n p O P K Ab Be Cm V F c s L L' cnt Bn a d0 V1 F1 : Nat} {M0 M M' M1 M2 : mM} {ns ns' ns1 : Nat → Int} {sf ef sf' ef' : Nat → Nat} {H : Nat → Nat} {S R : Nat → Prop}
theorem tx_ui {b j : Nat} {v : Int} (h : TX M z q w T A B D N C n p O P K Ab Be Cm V F ns sf ef c cnt L) (hv : i32 v) (e : M' = mUI M b j v) (hb : b = q ∨ b = q + 21 ∨ b = q + 22 ∨ (b = q + 1 ∧ (j = 2 ∨ j = 5 ∨ j = 6)) ∨ (b = p ∧ j = 2)) : TX M' z q w T A B D N C n p O P K Ab Be Cm V F ns sf ef c cnt L ∧ txF M q p O P L M' ∧ (∀ x i, mI M' x i = if x = b ∧ i = j then v else mI M x i) := by
  have ap := h.1.apart
  have qp := h.1.2.2.2.2.2.1.2.1
  have ok := h.1.1.1
  have g : ∀ x i, mI M' x i = if x = b ∧ i = j then v else mI M x i := fun x i => mI_ui x i e
  have f : FI (txS q p O P) M M' := by
    rw [e]
    refine FI.ui ?_
    exact t6c hb
  have o : mOk M' := by rw [e]; exact mOk_UI ok hv
  have ff : txF M q p O P L M' := by
    refine ⟨f, fun i i2 i3 i4 i5 i6 i7 i12 i14 => by rw [g, if_neg (t6d hb qp i2 i5 i6)], fun y => by rw [g, if_neg (t6d hb qp (by decide) (by decide) (by decide))]; exact y, fun i i6 i9 => ?_, fun i i2 => by rw [g, if_neg (t6f hb qp i2)], fun i i9 i15 => ?_, fun i hi => ⟨by rw [g, if_neg (t6h hb ap.2.1 (t6i ap.2.2.2.1 (by decide)))], by rw [g, if_neg (t6h hb ap.2.2.1 (t6i ap.2.2.2.2.1 (by decide)))]⟩⟩
    · funext x
      rw [g, if_neg (t6e hb qp i6 i9)]
    · funext x
      rw [g, if_neg (t6g hb qp i9 i15)]
  refine ⟨h.tx o ff (fun x => ?_), ff, g⟩
  rw [g, if_neg (t6j hb qp)]
  exact h.2.1.2.2.2 x
theorem s_tx_accept {x : Int} (hx : i32 x) (x0 : x ≠ 0) (h : TX M z q w T A B D N C n p O P K Ab Be Cm V F ns sf ef c cnt L) (ha : mI M (q + 1) 2 = a) (han : a ≤ n) : Ci G y_RR_accept d [vr (q + 1), vi x] M (fun v M' => i32 v ∧ mOk M' ∧ (v = 0 ∨ v = 1) ∧ TX M' z q w T A B D N C n p O P K Ab Be Cm V F ns sf ef c cnt L ∧ txF M q p O P L M' ∧ ((v = 1 ∧ mI M A a = x ∧ mI M' (q + 1) 2 = ((a + 1 : Nat) : Int) ∧ a < n) ∨ (v = 0 ∧ M' = M)) ∧ (∀ i, i ≠ 2 → mI M' (q + 1) i = mI M (q + 1) i) ∧ (∀ b, b ≠ q + 1 → mI M' b = mI M b)) := by
  refine (s_RR_accept hx h.1.1 ha han).mono (fun v M' k => ?_)
  obtain ⟨k1, k2⟩ := k
  rcases k2 with ⟨e1, e2, e3, e4⟩ | ⟨e1, e2, e3⟩
  · have hN : n ≤ 16384 := by have := h.1.1.2.2.2.1.2.2.1; have := h.1.1.2.2.2.1.1.2.2.2.2.2.2.1; omega
    have u := tx_ui h ⟨by omega, by omega⟩ e3 (Or.inr (Or.inr (Or.inr (Or.inl ⟨rfl, Or.inl rfl⟩))))
    have an : a < n := by
      have : a ≠ n := fun y => by
        have hA := h.1.1.2.2.2.1.2.2.2.2.1
        rw [y, hA] at e2
        exact x0 e2.symm
      omega
    refine ⟨by rw [e1]; exact i32s (by omega) (by omega), k1.1, Or.inr e1, u.1, u.2.1, Or.inl ⟨e1, e2, by rw [e4]; omega, an⟩, fun i hi => by rw [u.2.2, if_neg (fun y => hi y.2)], fun b hb => ?_⟩
    funext i
    rw [u.2.2, if_neg (fun y => hb y.1)]
  · subst e3
    exact ⟨by rw [e1]; exact i32s (by omega) (by omega), k1.1, Or.inl e1, h, txF.refl, Or.inr ⟨e1, rfl⟩, fun _ _ => rfl, fun _ _ => rfl⟩
theorem rr_tx (h : TP M z q w T A B D N C n p O P K Ab Be Cm) (f : rrF M (q + 1) p O P s M') : txF M q p O P s M' := by
  have ap := h.apart
  have qp := h.2.2.2.2.2.1.2.1
  obtain ⟨f1, f2, f3, f4, f5, f6⟩ := f
  refine ⟨f1.mono (fun b y => ?_), fun i i2 i3 i4 i5 _ i7 i12 i14 => f2 i i2 i3 i4 i5 i7 i12 i14, fun y => by rw [f3 y]; exact y, f4, f5, fun i i9 i15 => f1.2.2.2.2.2.2 _ (fun y => ?_), f6⟩
  · exact t6k y
  · exact t6l qp ap.2.2.2.1 ap.2.2.2.2.1 i9 i15 y
/-- an order is added -/
theorem s_tx_add {o x : Int} (io : i32 o) (ix : i32 x) (h : TX M z q w T A B D N C n p O P K Ab Be Cm V F ns sf ef c cnt L) (hs : mI M p 2 = s) (hL : L ≤ s) (hn : s ≤ n) : Ci G y_Pr_add d [vr p, vi o, vi x] M (fun v M' => i32 v ∧ mOk M' ∧ TX M' z q w T A B D N C n p O P K Ab Be Cm V F ns sf ef c cnt L ∧ txF M q p O P s M' ∧ mI M' p 2 = ((s + 1 : Nat) : Int) ∧ (∀ i, mI M' O i = if i = s then o else mI M O i) ∧ (∀ i, mI M' P i = if i = s then x else mI M P i) ∧ (∀ b, b ≠ p → b ≠ O → b ≠ P → mI M' b = mI M b)) := by
  have ap := h.1.apart
  have qp := h.1.2.2.2.2.2.1.2.1
  have hK := h.1.1.2.2.2.2.2.2
  have hN : n ≤ 16384 := by have := h.1.1.2.2.2.1.2.2.1; have := h.1.1.2.2.2.1.1.2.2.2.2.2.2.1; omega
  refine (s_Pr_add (n := s) io ix h.1.1.1 h.1.1.2.2.2.2.1 hs (by omega)).mono (fun v M' k => ?_)
  obtain ⟨k1, k2, k3, k4, k5, k6⟩ := k
  have nb : ∀ b, b ≠ p → b ≠ O → b ≠ P → mI M' b = mI M b := fun b b1 b2 b3 => k3.2.2.2.2.2.2 b (fun y => by
    rcases (show b = p ∨ b = O ∨ b = P from y) with y | y | y
    · exact b1 y
    · exact b2 y
    · exact b3 y)
  have nq : ∀ x, q ≤ x → x ≤ q + 22 → mI M' x = mI M x := fun x h1 h2 => by
    obtain ⟨u1, u2, u3⟩ := t6n qp ap.2.1 ap.2.2.1 h1 h2
    exact nb x u1 u2 u3
  have ff : txF M q p O P s M' := by
    refine ⟨k3.mono (fun b y => ?_), fun i _ _ _ _ _ _ _ _ => by rw [nq (q + 1) (by omega) (by omega)], fun y => by rw [nq (q + 1) (by omega) (by omega)]; exact y, fun i i6 i9 => nq _ (by omega) (by omega), fun i i2 => by rw [k4, if_neg i2], fun i i3 i15 => nb _ (t6o ap.2.2.2.1 ap.2.2.2.2.1 i3 i15).1 (t6o ap.2.2.2.1 ap.2.2.2.2.1 i3 i15).2.1 (t6o ap.2.2.2.1 ap.2.2.2.2.1 i3 i15).2.2, fun i hi => ⟨by rw [k5, if_neg (by omega)], by rw [k6, if_neg (by omega)]⟩⟩
    exact t6k (Or.inr y)
  exact ⟨by rw [k1]; exact ⟨by omega, by omega⟩, k2, h.tx k2 (ff.less hL) (fun j => by rw [nq _ (by omega) (by omega)]; exact h.2.1.2.2.2 j), ff, by rw [k4, if_pos rfl]; omega, k5, k6, nb⟩
/-- a rule is read: its code from s on -/
def ruQ (M : mM) (z q w T A B D N C n p O P K Ab Be Cm V F : Nat) (ns : Nat → Int) (sf ef : Nat → Nat) (c cnt L s V1 F1 : Nat) (ns1 : Nat → Int) (a : Nat) (x : Int) (M' : mM) : Prop := TX M' z q w T A B D N C n p O P K Ab Be Cm V F ns sf ef c cnt L ∧ txF M q p O P s M' ∧ (mI M' (q + 1) 6 = mI M (q + 1) 6 ∧ mI M' q = mI M q ∧ mI M' (q + 21) = mI M (q + 21) ∧ mI M' (q + 22) = mI M (q + 22)) ∧ ((x = 0 ∧ ∃ a' : Nat, mI M' (q + 1) 2 = a' ∧ a' ≤ n) ∨ (x = 1 ∧ ∃ e H a', CO M' O P V1 F1 ns1 H s e (fun _ => False) ∧ H s = 0 ∧ H e = 1 ∧ 1 + s ≤ e ∧ mI M' p 2 = ((e : Nat) : Int) ∧ mI M' (q + 1) 2 = ((a' : Nat) : Int) ∧ a ≤ a' ∧ a' ≤ n ∧ e ≤ a' ∧ mI M' (q + 1) 5 = mI M (q + 1) 5))
theorem s_tx_rule {l1 l2 : Int} (i1 : i32 l1) (i2 : i32 l2) (h : TX M z q w T A B D N C n p O P K Ab Be Cm V F ns sf ef c cnt L) (ha : mI M (q + 1) 2 = a) (han : a ≤ n) (hs : mI M p 2 = s) (hLs : L ≤ s) (hsa : s ≤ a) (hd : mI M (q + 1) 5 = d0) (hd4 : d0 ≤ 40) (nk : NK M (q + 1) A n V1 F1 ns1 c) : Ci G y_RR_readRule (d + 4) [vr (q + 1), vi l1, vi l2] M (fun x M' => i32 x ∧ mOk M' ∧ ruQ M z q w T A B D N C n p O P K Ab Be Cm V F ns sf ef c cnt L s V1 F1 ns1 a x M') := by
  have ap := h.1.apart
  have qp := h.1.2.2.2.2.2.1.2.1
  refine (s_RR_readRule i1 i2 h.1.1 ha han hs hsa hd hd4 h.2.1.2.2.2 nk).mono (fun x M' k => ?_)
  obtain ⟨k1, k2, k3, k4⟩ := k
  have ff := rr_tx h.1 k2
  have hx : x = 0 ∨ x = 1 := by
    rcases k4 with ⟨e, -⟩ | ⟨e, -⟩
    · exact Or.inl e
    · exact Or.inr e
  have nb : ∀ b, b = q ∨ b = q + 21 ∨ b = q + 22 → mI M' b = mI M b := fun b hb => k2.1.2.2.2.2.2.2 b (fun y => by
    have y' : (q + 1 ≤ b ∧ b ≤ q + 1 + 9) ∨ b = p ∨ b = O ∨ b = P := y
    clear k4
    omega)
  have ix : i32 x := by
    clear k4
    exact i32s (by omega) (by omega)
  refine ⟨ix, k1.1, h.tx k1.1 (ff.less hLs) k3, ff, ⟨k2.2.1 6 (by decide) (by decide) (by decide) (by decide) (by decide) (by decide) (by decide), nb q (Or.inl rfl), nb _ (Or.inr (Or.inl rfl)), nb _ (Or.inr (Or.inr rfl))⟩, ?_⟩
  rcases k4 with ⟨e, a', L1, e1, -, e3, -⟩ | ⟨e, H', L1, a', g, haa⟩
  · exact Or.inl ⟨e, a', e1, e3⟩
  · obtain ⟨⟨g1, g2, g3, g4⟩, -, ⟨g5, g6⟩, -, ⟨g8, -⟩, -, -, ⟨gH, gHs⟩, gC, gL, -⟩ := g
    have b0 : bs M' (q + 1) 0 = 0 := rfl
    have s0 : sdp M' (q + 1) 0 = 0 := rfl
    have e0 : se M' (q + 1) 0 = 0 := rfl
    have u0 : uw 0 = 1 := rfl
    have hs0 := (gC s (Nat.le_refl _) (by omega)).2.2
    refine Or.inr ⟨e, L1, H', a', fun pc h0 h1 => ?_, by omega, by omega, by omega, g4, g1, haa, g5, by omega, by rw [g8, s0, hd]; omega⟩
    obtain ⟨c1, c2, c3⟩ := gC pc h0 h1
    refine ⟨c1, fun y => Or.inr ?_, c3⟩
    rcases c2 y with ⟨i, hi, -⟩ | u
    · exact absurd hi (by omega)
    · exact u
end TRB
end
