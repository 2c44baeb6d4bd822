/-! The class's game: small steps, and a state that is entered. -/
section GAB
variable {G : mG} {d z g p O P K V F L cnt U w9 Ab Be C Ab0 Be0 C0 s h t c cn k : Nat} {M0 M M' M1 M2 : mM} {ns : Nat → Int} {sf ef : Nat → Nat} {H : Nat → Nat} {S R : Nat → Prop}
theorem s_JA_fill {a : Nat} {v : Int} (hO : mOk M) (hK : mK M a = 30) (hN : mN M a ≤ 100000) (hv : i32 v) : Cv G y_JA_fill d [vr a, vi v] M (fun M' => mOk M' ∧ FI (fun x => x = a) M M' ∧ ∀ i, i < mN M a → mI M' a i = v) := by
  refine k_JA_fill hO hv ⟨hK, ?_⟩
  suffices HH : ∀ (t i : Nat) (M1 : mM), mN M a ≤ i + t → i ≤ mN M a → mOk M1 → FI (fun x => x = a) M M1 → (∀ j, j < i → mI M1 a j = v) → h_JA_fill_5 G d a v i (mN M a : Int) M1 (fun M' => mOk M' ∧ FI (fun x => x = a) M M' ∧ ∀ i, i < mN M a → mI M' a i = v) from HH (mN M a) 0 M (by omega) (by omega) hO FI.refl (fun j hj => absurd hj (by omega))
  intro t
  induction t with
  | zero =>
    intro i M1 h1 h2 o f hj
    exact k_JA_fill_5 o hv ⟨by omega, by omega⟩ ⟨by omega, by omega⟩ ⟨fun _ => ⟨o, f, fun j hj' => hj j (by omega)⟩, fun y => absurd y (by omega)⟩
  | succ t ih =>
    intro i M1 h1 h2 o f hj
    refine k_JA_fill_5 o hv ⟨by omega, by omega⟩ ⟨by omega, by omega⟩ ⟨fun y => ⟨o, f, fun j hj' => hj j (by omega)⟩, fun y => ?_⟩
    rw [f.1, f.2.1, Int.toNat_natCast]
    refine ⟨hK, by omega, fun M8 e8 => ?_⟩
    rw [show ((i : Int) + 1) = ((i + 1 : Nat) : Int) by omega]
    refine ih (i + 1) M8 (by omega) (by omega) (by rw [e8]; exact mOk_UI o hv) (f.trans (by rw [e8]; exact FI.ui rfl)) (fun j hj' => ?_)
    rw [mI_ui a j e8]
    by_cases y : j = i
    · rw [if_pos ⟨rfl, y⟩]
    · rw [if_neg (fun u => y u.2)]
      exact hj j (by omega)
theorem s_Ga_clear (hO : mOk M) (hk : mK M g = 7) : Cv G y_Ga_clear d [vr g] M (fun M' => mOk M' ∧ FI (fun x => x = g) M M' ∧ (∀ i, mI M' g i = if i = 13 then 0 else if i = 12 then 0 else if i = 0 then 0 else mI M g i)) := by
  refine k_Ga_clear hO ⟨hk, fun M2 e2 M4 e4 M6 e6 => ?_⟩
  have f2 : FI (fun x => x = g) M M2 := by rw [e2]; exact FI.ui rfl
  have f4 : FI (fun x => x = g) M2 M4 := by rw [e4]; exact FI.ui rfl
  have f6 : FI (fun x => x = g) M4 M6 := by rw [e6]; exact FI.ui rfl
  refine ⟨by rw [e6]; exact mOk_UI (by rw [e4]; exact mOk_UI (by rw [e2]; exact mOk_UI hO ⟨by decide, by decide⟩) ⟨by decide, by decide⟩) ⟨by decide, by decide⟩, (f2.trans f4).trans f6, fun i => ?_⟩
  rw [mI_ui g i e6, mI_ui g i e4, mI_ui g i e2]
  by_cases y13 : i = 13
  · rw [if_pos ⟨rfl, y13⟩, if_pos y13]
  · rw [if_neg (fun u => y13 u.2), if_neg y13]
    by_cases y12 : i = 12
    · rw [if_pos ⟨rfl, y12⟩, if_pos y12]
    · rw [if_neg (fun u => y12 u.2), if_neg y12]
      by_cases y0 : i = 0
      · rw [if_pos ⟨rfl, y0⟩, if_pos y0]
      · rw [if_neg (fun u => y0 u.2), if_neg y0]
/-- a place is told: nothing else of the game changes -/
def plQ (M : mM) (g : Nat) (M' : mM) : Prop := mOk M' ∧ FI (fun x => x = g) M M' ∧ ∀ i, i ≠ 10 → mI M' g i = mI M g i
theorem s_Ga_fault {x y : Int} (hx : i32 x) (hy : i32 y) (hO : mOk M) (hk : mK M g = 7) : Ci G y_Ga_fault d [vr g, vi x, vi y] M (fun r M' => r = x ∧ plQ M g M') := by
  refine k_Ga_fault hO hx hy ⟨hk, fun M2 e2 => ⟨rfl, by rw [e2]; exact mOk_UI hO hy, by rw [e2]; exact FI.ui rfl, fun i hi => ?_⟩⟩
  rw [mI_ui g i e2, if_neg (fun u => hi u.2)]
theorem s_Ga_machineFault (hO : mOk M) (hk : mK M g = 7) (hr : mR M g 15 = g + 10) (hm : mK M (g + 10) = 5) : Ci G y_Ga_machineFault d [vr g] M (fun r M' => i32 r ∧ r = mI M (g + 10) 1 ∧ plQ M g M') := by
  refine k_Ga_machineFault hO ⟨hk, by rw [hr]; exact hm, fun M3 e3 => ?_⟩
  have f3 : FI (fun x => x = g) M M3 := by rw [e3]; exact FI.ui rfl
  have o3 : mOk M3 := by rw [e3]; exact mOk_UI hO (hO _ _).1
  rw [f3.1, f3.2.2.1, hr]
  refine ⟨hm, (o3 _ _).1, by rw [f3.2.2.2.2.2.2 (g + 10) (show ¬ g + 10 = g by omega)], o3, f3, fun i hi => ?_⟩
  rw [mI_ui g i e3, if_neg (fun u => hi u.2)]
theorem s_Ga_isNext (hx : GY U w9 M0 z g p O P K V F ns sf ef L cnt Ab0 Be0 C0 M Ab Be C) (hk : k < 512) : Ci G y_Ga_isNext d [vr g, vi k] M (fun r M' => M' = M ∧ (r = 0 ∨ r = 1)) := by
  obtain ⟨h1, h2, h3, h4, h5, -⟩ := hx
  obtain ⟨g0, ⟨g1, -, -, -, -, -, -, -, -, g15, -⟩, ⟨k1, -⟩, ⟨n1, -⟩⟩ := h2
  obtain ⟨p5, p6⟩ := h4.2.2.1
  have m0 := h3.1
  have m5 := h3.2.1.2.1
  have km := h3.2.2.1.2.1
  have nm := h3.2.2.2.1.1
  refine k_Ga_isNext h1 (i32s (by omega) (by omega)) ?_
  suffices HH : ∀ (t i : Nat), V ≤ i + t → i ≤ V → h_Ga_isNext_2 G d g k i M (fun r M' => M' = M ∧ (r = 0 ∨ r = 1)) from HH V 0 (by omega) (by omega)
  intro t
  induction t with
  | zero =>
    intro i hi hi2
    refine k_Ga_isNext_2 h1 (i32s (by omega) (by omega)) (i32s (by omega) (by omega)) ?_
    rw [h5.1, p5]
    exact ⟨g0, h4.1.1, fun _ => ⟨rfl, Or.inr rfl⟩, fun y => absurd y (by omega)⟩
  | succ t ih =>
    intro i hi hi2
    refine k_Ga_isNext_2 h1 (i32s (by omega) (by omega)) (i32s (by omega) (by omega)) ?_
    rw [h5.1, p5, g1, n1, g15, m5, nm]
    refine ⟨g0, h4.1.1, fun _ => ⟨rfl, Or.inr rfl⟩, fun y => ⟨k1, by omega, m0, km, by omega, fun _ => ?_, fun _ => ⟨rfl, Or.inl rfl⟩⟩⟩
    rw [show ((i : Int) + 1) = ((i + 1 : Nat) : Int) by omega]
    exact ih (i + 1) (by omega) (by omega)
/-- slots tell states -/
def SLt (M : mM) (g cn : Nat) : Prop := ∀ i, i < 1024 → mI M (g + 20) i = -1 ∨ (0 ≤ mI M (g + 20) i ∧ mI M (g + 20) i < cn)
/-- what enter comes to -/
def enG (U w9 : Nat) (M0 : mM) (z g p O P K V F : Nat) (ns : Nat → Int) (sf ef : Nat → Nat) (L cnt Ab0 Be0 C0 : Nat) (M : mM) (Ab Be C cn : Nat) (r : Int) (M' : mM)   : Prop := GY U w9 M0 z g p O P K V F ns sf ef L cnt Ab0 Be0 C0 M' Ab Be C ∧ FI (fun x => x = g ∨ x = g + 1 ∨ x = g + 20) M M' ∧ (∀ i, i ≠ 0 → mI M' g i = mI M g i) ∧ ∃ cn' : Nat, mI M' g 0 = ((cn' : Nat) : Int) ∧ cn ≤ cn' ∧ cn' ≤ 512 ∧ SLt M' g cn' ∧ (r = -1 ∨ (0 ≤ r ∧ r < cn')) ∧ i32 r ∧ (r = -1 → cn = 512)
theorem s_en51 (hx : GY U w9 M0 z g p O P K V F ns sf ef L cnt Ab0 Be0 C0 M Ab Be C) (hc : mI M g 0 = ((cn : Nat) : Int)) (hcn : cn ≤ 512) (hs : SLt M g cn) : ∀ (t i sl : Nat), 1024 ≤ i + t → i ≤ 1024 → sl < 1024 → h_Ga_enter_51 G (d + 1) g sl i M (enG U w9 M0 z g p O P K V F ns sf ef L cnt Ab0 Be0 C0 M Ab Be C cn) := by
  obtain ⟨h1, h2, h3, h4, h5, -⟩ := id hx
  obtain ⟨g0, ⟨g1, -, -, -, -, -, -, -, -, g15, g16, -⟩, ⟨k1, -, -, -, -, -, -, -, -, k20, -⟩, ⟨n1, -, -, -, -, -, -, -, -, n20, -⟩⟩ := h2
  have m0 := h3.1
  have m5 := h3.2.1.2.1
  have km := h3.2.2.1.2.1
  have nm := h3.2.2.2.1.1
  -- a new state
  have new : ∀ {sl : Nat}, sl < 1024 → mK M g = 7 ∧ ((mI M g 0 = 512) → (enG U w9 M0 z g p O P K V F ns sf ef L cnt Ab0 Be0 C0 M Ab Be C cn (-1) M)) ∧ (¬ (mI M g 0 = 512) → (mK M (mR M g 16) = 30 ∧ ((0 : Int) ≤ sl ∧ (sl : Int) < (mN M (mR M g 16) : Int)) ∧ ∀ M23, M23 = mUI M (mR M g 16) (Int.toNat sl) (mI M g 0) → mK M23 (mR M23 g 15) = 5 ∧ mK M23 (mR M23 (mR M23 g 15) 5) = 30 ∧ mK M23 (mR M23 g 1) = 30 ∧ ((0 : Int) ≤ 0 ∧ (0 : Int) ≤ (mI M23 g 0) * 12 ∧ (0 : Int) ≤ 12 ∧ 0 + 12 ≤ (mN M23 (mR M23 (mR M23 g 15) 5) : Int) ∧ ((mI M23 g 0) * 12) + 12 ≤ (mN M23 (mR M23 g 1) : Int)) ∧ ∀ M29, M29 = mCpy M23 (mR M23 (mR M23 g 15) 5) (mR M23 g 1) 0 (Int.toNat ((mI M23 g 0) * 12)) 12 → i32 ((mI M29 g 0) + 1) ∧ ∀ M32, M32 = mUI M29 g 0 ((mI M29 g 0) + 1) → enG U w9 M0 z g p O P K V F ns sf ef L cnt Ab0 Be0 C0 M Ab Be C cn ((mI M32 g 0) - 1) M32)) := fun {sl} hsl => by
    refine ⟨g0, fun y => ⟨hx, FI.refl, fun _ _ => rfl, cn, hc, Nat.le_refl _, hcn, hs, Or.inl rfl, ⟨by decide, by decide⟩, fun _ => by omega⟩, fun y => ?_⟩
    rw [g16, n20, Int.toNat_natCast, hc]
    refine ⟨k20, by omega, fun M23 e23 => ?_⟩
    have f23 : FI (fun x => x = g + 20) M M23 := by rw [e23]; exact FI.ui rfl
    have c23 : mI M23 g 0 = ((cn : Nat) : Int) := by rw [f23.2.2.2.2.2.2 g (show ¬ g = g + 20 by omega)]; exact hc
    rw [f23.1, f23.2.1, f23.2.2.1, g15, m5, g1, n1, nm, c23]
    refine ⟨m0, km, k1, ⟨by omega, by omega, by omega, by omega, by omega⟩, fun M29 e29 => ?_⟩
    have f29 : FI (fun x => x = g + 1) M23 M29 := by
      rw [e29]
      refine ⟨rfl, rfl, rfl, rfl, rfl, rfl, fun x hx => ?_⟩
      funext j
      exact if_neg (fun u => hx u.1)
    have c29 : mI M29 g 0 = ((cn : Nat) : Int) := by rw [f29.2.2.2.2.2.2 g (show ¬ g = g + 1 by omega)]; exact c23
    rw [c29]
    refine ⟨⟨by omega, by omega⟩, fun M32 e32 => ?_⟩
    have f32 : FI (fun x => x = g) M29 M32 := by rw [e32]; exact FI.ui rfl
    have c32 : mI M32 g 0 = ((cn + 1 : Nat) : Int) := by rw [mI_ui g 0 e32, if_pos ⟨rfl, rfl⟩]; omega
    have ff : FI (fun x => x = g ∨ x = g + 1 ∨ x = g + 20) M M32 := ((f23.mono (fun _ y => Or.inr (Or.inr y))).trans (f29.mono (fun _ y => Or.inr (Or.inl y)))).trans (f32.mono (fun _ y => Or.inl y))
    have o32 : mOk M32 := by rw [e32]; exact mOk_UI (by rw [e29]; exact mOk_Cpy (by rw [e23]; exact mOk_UI h1 ⟨by omega, by omega⟩)) ⟨by omega, by omega⟩
    rw [c32]
    refine ⟨hx.fi o32 (ff.mono (fun x y => by
      have y' : x = g ∨ x = g + 1 ∨ x = g + 20 := y
      show (g ≤ x ∧ x ≤ g + 9) ∨ x = g + 12 ∨ (g + 20 ≤ x ∧ x ≤ g + 22)
      omega)), ff, fun i hi => ?_, cn + 1, c32, by omega, by omega, fun i hi => ?_, Or.inr ⟨by omega, by omega⟩, ⟨by omega, by omega⟩, fun t => absurd t (by omega)⟩
    · rw [mI_ui g i e32, if_neg (fun u => hi u.2), f29.2.2.2.2.2.2 g (show ¬ g = g + 1 by omega), f23.2.2.2.2.2.2 g (show ¬ g = g + 20 by omega)]
    · rw [f32.2.2.2.2.2.2 _ (show ¬ g + 20 = g by omega), f29.2.2.2.2.2.2 _ (show ¬ g + 20 = g + 1 by omega), mI_ui _ i e23]
      by_cases y0 : i = sl
      · rw [if_pos ⟨rfl, y0⟩]
        exact Or.inr ⟨by omega, by omega⟩
      · rw [if_neg (fun u => y0 u.2)]
        rcases hs i hi with u | u
        · exact Or.inl u
        · exact Or.inr ⟨u.1, by omega⟩
  intro t
  induction t with
  | zero =>
    intro i sl hi hi2 hsl
    exact k_Ga_enter_51 h1 (i32s (by omega) (by omega)) (i32s (by omega) (by omega)) ⟨fun y => absurd y (by omega), fun _ => new hsl, fun y => absurd (Or.inl (by omega)) y⟩
  | succ t ih =>
    intro i sl hi hi2 hsl
    refine k_Ga_enter_51 h1 (i32s (by omega) (by omega)) (i32s (by omega) (by omega)) ⟨fun _ => ⟨g0, by rw [g16]; exact k20, by rw [g16, n20]; omega⟩, fun _ => new hsl, fun y => ?_⟩
    have i10 : i < 1024 := by
      by_cases u : (1024 : Int) ≤ i
      · exact absurd (Or.inl u) y
      · omega
    rw [g16, Int.toNat_natCast] at y
    have y1 : mI M (g + 20) sl ≠ -1 := fun u => y (Or.inr u)
    obtain ⟨k, ek⟩ : ∃ k : Nat, mI M (g + 20) sl = ((k : Nat) : Int) := by
      have := (hs sl hsl).resolve_left y1
      exact ⟨(mI M (g + 20) sl).toNat, by omega⟩
    have kc : k < cn := by
      have := (hs sl hsl).resolve_left y1
      omega
    rw [g16, n20, Int.toNat_natCast, ek]
    refine ⟨g0, k20, by omega, (s_Ga_isNext hx (by omega)).mono (fun r M' q => ?_)⟩
    obtain ⟨e, hr⟩ := q
    subst e
    rw [g16, n20, ek]
    have ia := i_and (x := (sl : Int) + 1) 10 (by decide) 1023 (by decide) ⟨by decide, by decide⟩
    have p10 : (2 : Int) ^ 10 = 1024 := by decide
    rw [p10] at ia
    obtain ⟨s2, es2⟩ : ∃ s2 : Nat, andI ((sl : Int) + 1) 1023 = ((s2 : Nat) : Int) := ⟨(((sl : Int) + 1) % 1024).toNat, by rw [ia]; omega⟩
    refine ⟨m_b32 hr, h1, fun _ => ?_, fun _ => ⟨g0, k20, by omega, hx, FI.refl, fun _ _ => rfl, cn, hc, Nat.le_refl _, hcn, hs, Or.inr ⟨by omega, by omega⟩, ⟨by omega, by omega⟩, fun t => absurd t (by omega)⟩⟩
    rw [es2, show ((i : Int) + 1) = ((i + 1 : Nat) : Int) by omega]
    exact ih (i + 1) s2 (by omega) (by omega) (by omega)
theorem s_Ga_enter (hx : GY U w9 M0 z g p O P K V F ns sf ef L cnt Ab0 Be0 C0 M Ab Be C) (hc : mI M g 0 = ((cn : Nat) : Int)) (hcn : cn ≤ 512) (hs : SLt M g cn) : Ci G y_Ga_enter (d + 2) [vr g] M (enG U w9 M0 z g p O P K V F ns sf ef L cnt Ab0 Be0 C0 M Ab Be C cn) := by
  obtain ⟨h1, h2, h3, h4, h5, -⟩ := id hx
  obtain ⟨g0, ⟨g1, -, -, -, -, -, -, -, -, g15, g16, -⟩, -, -⟩ := h2
  obtain ⟨p5, p6⟩ := h4.2.2.1
  have m0 := h3.1
  have m5 := h3.2.1.2.1
  have km := h3.2.2.1.2.1
  have nm := h3.2.2.2.1.1
  refine k_Ga_enter h1 ?_
  suffices HH : ∀ (t i : Nat) (x : Int), V ≤ i + t → i ≤ V → i32 x → h_Ga_enter_4 G (d + 1) g x i M (enG U w9 M0 z g p O P K V F ns sf ef L cnt Ab0 Be0 C0 M Ab Be C cn) from HH V 0 0 (by omega) (by omega) ⟨by decide, by decide⟩
  have fin : ∀ {x : Int}, h_Ga_enter_51 G (d + 1) g (andI x 1023) 0 M (enG U w9 M0 z g p O P K V F ns sf ef L cnt Ab0 Be0 C0 M Ab Be C cn) := fun {x} => by
    have ia := i_and (x := x) 10 (by decide) 1023 (by decide) ⟨by decide, by decide⟩
    have p10 : (2 : Int) ^ 10 = 1024 := by decide
    rw [p10] at ia
    obtain ⟨s2, es2⟩ : ∃ s2 : Nat, andI x 1023 = ((s2 : Nat) : Int) := ⟨(x % 1024).toNat, by rw [ia]; omega⟩
    rw [es2]
    exact s_en51 hx hc hcn hs 1024 0 s2 (by omega) (by omega) (by omega)
  intro t
  induction t with
  | zero =>
    intro i x hi hi2 ix
    refine k_Ga_enter_4w h1 ix (i32s (by omega) (by omega)) ?_
    rw [h5.1, p5]
    exact ⟨g0, h4.1.1, fun _ => fin, fun y => absurd y (by omega)⟩
  | succ t ih =>
    intro i x hi hi2 ix
    refine k_Ga_enter_4w h1 ix (i32s (by omega) (by omega)) ?_
    rw [h5.1, p5, g15, m5, nm]
    refine ⟨g0, h4.1.1, fun _ => fin, fun y => ⟨m0, km, by omega, ?_⟩⟩
    rw [show ((i : Int) + 1) = ((i + 1 : Nat) : Int) by omega]
    exact ih (i + 1) _ (by omega) (by omega) i32_w32
end GAB
