section
/-! The solver: within. -/
def Ok (M : mM) (s e n : Nat) : Prop := ∀ k, k < n → okF M (s + e + 25 * k)
abbrev inF (s : Nat) : Nat → Prop := fun y => bmS s y ∨ y = s + 30 ∨ eS s 73 y ∨ eS s 83 y ∨ eS s 88 y
theorem okF.out {S : Nat → Prop} {M M' : mM} {f : Nat} (h : okF M f) (k : FI S M M') (hs : ∀ y, S y → y < f ∨ f + 4 < y) : okF M' f := by
  obtain ⟨h1, h2, h3, h4⟩ := h
  have e := fv_out h1 k hs
  exact ⟨(h1.out k hs).1, h2.out h1 k hs, by rw [e]; exact h3, by rw [e]; exact h4⟩
theorem Ok.out {S : Nat → Prop} {M M' : mM} {s e n : Nat} (h : Ok M s e n) (k : FI S M M') (hs : ∀ i y, i < n → S y → y < s + e + 25 * i ∨ s + e + 25 * i + 4 < y) : Ok M' s e n :=
  fun i hi => (h i hi).out k (fun y q => hs i y hi q)
theorem Ok.xt {M : mM} {s e n : Nat} (h : Ok M s e n) : Xt M s e n (fun k => fv M (s + e + 25 * k)) ∧ ∀ k, k < n → Smp 21 (fv M (s + e + 25 * k)) ∧ 0 ≤ fv M (s + e + 25 * k) :=
  ⟨fun k hk => ⟨(h k hk).1, (h k hk).2.1, rfl⟩, fun k hk => (h k hk).2.2⟩
theorem inF_far {s e i y : Nat} (he : e = 68 ∨ e = 78) (hi : i < 512) (q : inF s y) : y < s + e + 25 * i ∨ s + e + 25 * i + 4 < y := by
  rcases he with z | z <;> subst z <;> omega
theorem inF_vH {s y : Nat} (q : inF s y) : vH s y := by omega
theorem inF_ct {s y : Nat} (q : inF s y) : y < s + 12868 := by omega
theorem inF_lo {s y : Nat} (q : inF s y) : s < y ∧ (y < s + 22 ∨ s + 28 < y) ∧ y ≠ s + 32 ∧ y ≠ s + 33 ∧ y ≠ s + 34 := by omega
/-- copying one of 512 fractions to another place -/
theorem ok_copy {G : mG} {d s k a b : Nat} {M : mM} {Q : mM → Prop} (hO : mOk M) (hR : Rm M s a) (hk : k < 512) (h : okF M (s + b + 25 * k)) (hne : a + 4 < b ∨ b + 4 < a) (hQ : ∀ M', mOk M' → FI (fS (s + a + 25 * k)) M M' → okF M' (s + a + 25 * k) → Rm M' s a → fv M' (s + a + 25 * k) = fv M (s + b + 25 * k) → Q M') : Cv G y_MF_copy (d + 1) [vr (s + a + 25 * k), vr (s + b + 25 * k)] M Q := by
  obtain ⟨h1, h2, h3, h4⟩ := h
  refine (s_MF_copy hO (hR k hk) h1 (by omega) h1.2.1.1.2.2.2.2.2.2 h1.2.2.1.1.2.2.2.2.2.2).mono (fun M' h' => ?_)
  obtain ⟨o', f', F', w4, w5, w6⟩ := h'
  have C' := fc_copy h2 w4 w5 w6
  exact hQ M' o' f' ⟨F', C'.1, by rw [C'.2]; exact h3, by rw [C'.2]; exact h4⟩ (hR.put hk f' F'.ft) C'.2
def wiI (M : mM) (s n : Nat) (M2 : mM) : Prop := mOk M2 ∧ FI (inF s) M M2 ∧ Wk M2 s ∧ Rm M2 s 73 ∧ Rm M2 s 83 ∧ Rm M2 s 88 ∧ Ok M2 s 88 n
/-- numbers after r moves -/
def Vwr (M0 : mM) (s e n r : Nat) (M : mM) : Prop := ∀ k, k < n → fv M (s + e + 25 * k) = wiR M0 s r k
theorem Vwr.out {S : Nat → Prop} {M0 M M' : mM} {s e n r : Nat} (v : Vwr M0 s e n r M) (h : Ok M s e n) (k : FI S M M') (hs : ∀ i y, i < n → S y → y < s + e + 25 * i ∨ s + e + 25 * i + 4 < y) : Vwr M0 s e n r M' := fun i hi => by
  rw [fv_out (h i hi).1 k (fun y q => hs i y hi q)]
  exact v i hi
/-- all up to r moves fit -/
def Frr (M0 : mM) (s n r : Nat) : Prop := ∀ m, m ≤ r → ∀ k, k < n → ft9 (wiR M0 s m k)
def wiQ (M : mM) (s n L : Nat) (r : Int) (M' : mM) : Prop := mOk M' ∧ FI (inF s) M M' ∧ Wk M' s ∧ Rm M' s 73 ∧ Rm M' s 83 ∧ Rm M' s 88 ∧ (∀ j, j ≠ 1 → mI M' (s + 30) j = mI M (s + 30) j) ∧ ((r = 0 ∧ mI M' (s + 30) 1 = 1 ∧ Ok M' s 73 n ∧ Frr M s n L) ∨ (r = 6 ∧ mI M' (s + 30) 1 = 0 ∧ ∃ m, m ≤ L ∧ ∃ k, k < n ∧ ¬ ft9 (wiR M s m k)))
section WI
variable {G : mG} {d s n L : Nat} {M : mM} {l1 : Int}
/-- where has[1] is off -/
abbrev h30 (M : mM) (s : Nat) (M2 : mM) : Prop := (∀ j, j ≠ 1 → mI M2 (s + 30) j = mI M (s + 30) j) ∧ mI M2 (s + 30) 1 = 0
theorem s_wi121 (hV : Vk M s) (hn : mI M s 1 = n) (hn5 : n ≤ 512) (hf : Frr M s n L) : ∀ (c k : Nat) (M2 : mM), k + c = n → wiI M s n M2 → h30 M s M2 → Ok M2 s 73 k → h_MS_within_121 G (d + 6) s k M2 (wiQ M s n L) := by
  intro c
  induction c with
  | zero =>
    intro k M2 hk h hh hok
    have ek : k = n := by omega
    subst ek
    obtain ⟨o2, f2, W2, R7, R8, R9, K2⟩ := h
    have V2 := hV.fi f2
    have fe := f2.2.2.2.2.2.2
    refine k_MS_within_121 o2 ⟨by omega, by omega⟩ ?_
    rw [fe s (fun q => by have := inF_lo q; omega), hn, V2.r12, V2.n30]
    refine ⟨V2.k0, fun _ => ⟨V2.k30, by omega, fun M3 e3 => ?_⟩, fun q => by omega⟩
    have f3 : FI (fun y => y = s + 30) M2 M3 := by rw [e3]; exact FI.ui rfl
    have o3 : mOk M3 := by rw [e3]; exact mOk_UI o2 ⟨by omega, by omega⟩
    refine ⟨o3, f2.trans (f3.mono (fun y q => Or.inr (Or.inl q))), W2.far f3 (fun y q => by omega), R7.out f3 (fun y q => by omega), R8.out f3 (fun y q => by omega), R9.out f3 (fun y q => by omega), fun j hj => ?_, Or.inl ⟨rfl, ?_, hok.out f3 (fun i y hi q => by omega), hf⟩⟩
    · rw [e3, mI_UI, if_neg (fun w => hj w.2)]
      exact hh.1 j hj
    · rw [e3, mI_UI, if_pos ⟨rfl, rfl⟩]
  | succ c ih =>
    intro k M2 hk h hh hok
    obtain ⟨o2, f2, W2, R7, R8, R9, K2⟩ := h
    have V2 := hV.fi f2
    have fe := f2.2.2.2.2.2.2
    have ea : mR M2 (s + 29) (3 * (k : Int) + 1).toNat = s + 73 + 25 * k := by
      rw [show (3 * (k : Int) + 1).toNat = 3 * k + 1 by omega, V2.f29 k 1 (by omega) (by omega)]
      omega
    refine k_MS_within_121 o2 ⟨by omega, by omega⟩ ?_
    rw [fe s (fun q => by have := inF_lo q; omega), hn, V2.r11, V2.r21, V2.n29, V2.n38, ea, Int.toNat_natCast, V2.f38 k (by omega)]
    refine ⟨V2.k0, fun q => by omega, fun _ => ⟨V2.k29, by omega, V2.k38, by omega, (R7 k (by omega)).1.1, ok_copy (d := d + 5) o2 R7 (by omega) (K2 k (by omega)) (by omega) (fun M3 o3 f3 k3 r3 _ => ?_)⟩⟩
    have f3' : ∀ y, fS (s + 73 + 25 * k) y → s + 73 + 25 * k ≤ y ∧ y ≤ s + 73 + 25 * k + 4 := fun y q => q
    refine ⟨o3, ih (k + 1) M3 (by omega) ⟨o3, f2.trans (f3.mono (fun y q => by have := f3' y q; omega)), W2.far f3 (fun y q => by have := f3' y q; omega), r3, R8.out2 f3 (fun i y hi q => by have := f3' y q; omega), R9.out2 f3 (fun i y hi q => by have := f3' y q; omega), K2.out f3 (fun i y hi q => by have := f3' y q; omega)⟩ ?_ (fun j hj => ?_)⟩
    · unfold h30
      rw [f3.2.2.2.2.2.2 (s + 30) (fun q => by have := f3' _ q; omega)]
      exact hh
    · by_cases z : j = k
      · rw [z]; exact k3
      · exact (hok j (by omega)).out f3 (fun y q => by have := f3' y q; omega)
theorem s_wi84 {r : Nat} (hV : Vk M s) (hn : mI M s 1 = n) (hn5 : n ≤ 512) (h0 : 0 ≤ l1) (hl : l1 ≤ 32) (hr : r ≤ 32) (hQ : ∀ M', wiI M s n M' → h30 M s M' → Vwr M s 88 n (r + 1) M' → h_MS_within_50 G (d + 6) s l1 ((r : Int) + 1) M' (wiQ M s n L)) : ∀ (c k : Nat) (M2 : mM), k + c = n → wiI M s n M2 → h30 M s M2 → Ok M2 s 83 n → Vwr M s 83 n (r + 1) M2 → (∀ j, j < k → fv M2 (s + 88 + 25 * j) = wiR M s (r + 1) j) → h_MS_within_84 G (d + 6) s l1 r k M2 (wiQ M s n L) := by
  intro c
  induction c with
  | zero =>
    intro k M2 hk h hh hok v83 v88
    obtain ⟨o2, f2, -⟩ := id h
    have V2 := hV.fi f2
    refine k_MS_within_84 o2 ⟨by omega, by omega⟩ ⟨by omega, by omega⟩ ⟨by omega, by omega⟩ ?_
    rw [f2.2.2.2.2.2.2 s (fun q => by have := inF_lo q; omega), hn]
    exact ⟨V2.k0, fun _ => hQ M2 h hh (fun j hj => v88 j (by omega)), fun q => by omega⟩
  | succ c ih =>
    intro k M2 hk h hh hok v83 v88
    obtain ⟨o2, f2, W2, R7, R8, R9, K2⟩ := h
    have V2 := hV.fi f2
    have fe := f2.2.2.2.2.2.2
    refine k_MS_within_84 o2 ⟨by omega, by omega⟩ ⟨by omega, by omega⟩ ⟨by omega, by omega⟩ ?_
    rw [fe s (fun q => by have := inF_lo q; omega), hn, V2.r13, V2.r21, V2.n31, V2.n38, Int.toNat_natCast, V2.f38 k (by omega), V2.f31 k (by omega)]
    refine ⟨V2.k0, fun q => by omega, fun _ => ⟨V2.k38, by omega, V2.k31, by omega, (R9 k (by omega)).1.1, ok_copy (d := d + 5) o2 R9 (by omega) (hok k (by omega)) (by omega) (fun M3 o3 f3 k3 r3 ev => ?_)⟩⟩
    have f3' : ∀ y, fS (s + 88 + 25 * k) y → s + 88 + 25 * k ≤ y ∧ y ≤ s + 88 + 25 * k + 4 := fun y q => q
    refine ⟨o3, ih (k + 1) M3 (by omega) ⟨o3, f2.trans (f3.mono (fun y q => by have := f3' y q; omega)), W2.far f3 (fun y q => by have := f3' y q; omega), R7.out2 f3 (fun i y hi q => by have := f3' y q; omega), R8.out2 f3 (fun i y hi q => by have := f3' y q; omega), r3, fun j hj => ?_⟩ ?_ (hok.out f3 (fun i y hi q => by have := f3' y q; omega)) (v83.out hok f3 (fun i y hi q => by have := f3' y q; omega)) (fun j hj => ?_)⟩
    rotate_left 2
    · by_cases z : j = k
      · rw [z, ev]; exact v83 k (by omega)
      · rw [fv_out (K2 j (by omega)).1 f3 (fun y q => by have := f3' y q; omega)]
        exact v88 j (by omega)
    · by_cases z : j = k
      · rw [z]; exact k3
      · exact (K2 j hj).out f3 (fun y q => by have := f3' y q; omega)
    · unfold h30
      rw [f3.2.2.2.2.2.2 (s + 30) (fun q => by have := f3' _ q; omega)]
      exact hh
theorem s_wi50 (hV : Vk M s) (hG : GW M s) (hC : GB M s) (hn : mI M s 1 = n) (hn5 : n ≤ 512) (h0 : 0 ≤ l1) (hl : l1 ≤ 32) (hL : L = l1.toNat) : ∀ (t r : Nat) (M2 : mM), (r : Int) + t = l1 → wiI M s n M2 → h30 M s M2 → Vwr M s 88 n r M2 → Frr M s n r → h_MS_within_50 G (d + 6) s l1 r M2 (wiQ M s n L) := by
  intro t
  induction t with
  | zero =>
    intro r M2 ht h hh hv hf
    have eL : L = r := by omega
    exact k_MS_within_50 h.1 ⟨by omega, by omega⟩ ⟨by omega, by omega⟩ ⟨fun _ => s_wi121 hV hn hn5 (by rw [eL]; exact hf) n 0 M2 (by omega) h hh (fun j hj => by omega), fun q => by omega⟩
  | succ t ih =>
    intro r M2 ht h hh hv hf
    refine k_MS_within_50 h.1 ⟨by omega, by omega⟩ ⟨by omega, by omega⟩ ⟨fun q => by omega, fun _ => ?_⟩
    suffices H : ∀ (c k : Nat) (M3 : mM), k + c = n → wiI M s n M3 → h30 M s M3 → Ok M3 s 83 k → Vwr M s 88 n r M3 → (∀ j, j < k → fv M3 (s + 83 + 25 * j) = wiR M s (r + 1) j ∧ ft9 (wiR M s (r + 1) j)) → h_MS_within_57 G (d + 6) s l1 r k M3 (wiQ M s n L) from H n 0 M2 (by omega) h hh (fun j hj => by omega) hv (fun j hj => by omega)
    clear h hh hv M2
    intro c
    induction c with
    | zero =>
      intro k M3 hk h hh hok hv hw
      have ek : k = n := by omega
      subst ek
      obtain ⟨o2, f2, -⟩ := id h
      have V2 := hV.fi f2
      refine k_MS_within_57 o2 ⟨by omega, by omega⟩ ⟨by omega, by omega⟩ ⟨by omega, by omega⟩ ?_
      rw [f2.2.2.2.2.2.2 s (fun q => by have := inF_lo q; omega), hn]
      exact ⟨V2.k0, fun _ => s_wi84 hV hn hn5 h0 hl (by omega) (fun M' h' hh' hv' => ih (r + 1) M' (by omega) h' hh' hv' (fun m hm j hj => by
        by_cases z : m = r + 1
        · rw [z]; exact (hw j hj).2
        · exact hf m (by omega) j hj)) k 0 M3 (by omega) h hh hok (fun j hj => (hw j hj).1) (fun j hj => by omega), fun q => by omega⟩
    | succ c ihc =>
      intro k M3 hk h hh hok hv hw
      obtain ⟨o3, f3, W3, R7, R8, R9, K3⟩ := id h
      have V3 := hV.fi f3
      have sg : sameG M M3 s := sameG.of f3 (fun q => by have := inF_lo q; omega) (fun y a b q => by have := inF_lo q; omega)
      have x3 := K3.xt
      refine k_MS_within_57 o3 ⟨by omega, by omega⟩ ⟨by omega, by omega⟩ ⟨by omega, by omega⟩ ?_
      rw [sg.1, hn]
      refine ⟨V3.k0, fun q => by omega, fun _ => (s_MS_move (d := d) o3 ⟨V3, sg.gw hG, sg.gb hC, by rw [sg.1]; exact hn, W3, x3.1, x3.2⟩ (by omega) R8).mono (fun y M4 h4 => ?_)⟩
      obtain ⟨o4, f4, W4, h4⟩ := h4
      have eb : bq9 M3 s k (fun k => fv M3 (s + 88 + 25 * k)) (mny M3 s k).toNat = wiR M s (r + 1) k := by
        rw [sg.hm]
        exact bq_cg sg hG hn (by omega) (fun t ht => hv t ht) _ (Nat.le_refl _)
      rw [eb] at h4
      have f4' : ∀ y, nxS s k y → bmS s y ∨ (s + 83 + 25 * k ≤ y ∧ y ≤ s + 83 + 25 * k + 4) := fun y q => q
      have e30 : mI M4 (s + 30) = mI M3 (s + 30) := f4.2.2.2.2.2.2 _ (fun q => by have := f4' _ q; omega)
      have hh4 : h30 M s M4 := by unfold h30; rw [e30]; exact hh
      have f04 : FI (inF s) M M4 := f3.trans (f4.mono (fun y q => by have := f4' y q; omega))
      have R74 : Rm M4 s 73 := R7.out2 f4 (fun i y hi q => by have := f4' y q; omega)
      have R94 : Rm M4 s 88 := R9.out2 f4 (fun i y hi q => by have := f4' y q; omega)
      have K4 : Ok M4 s 88 n := K3.out f4 (fun i y hi q => by have := f4' y q; omega)
      have hv4 : Vwr M s 88 n r M4 := hv.out K3 f4 (fun i y hi q => by have := f4' y q; omega)
      rcases h4 with ⟨y0, g4, nf⟩ | ⟨y1, k4, e4, ft⟩
      · subst y0
        have R84 : Rm M4 s 83 := R8.out g4 (fun y q => by omega)
        exact ⟨⟨by omega, by omega⟩, o4, fun _ => ⟨o4, f04, W4, R74, R84, R94, hh4.1, Or.inr ⟨rfl, hh4.2, r + 1, by omega, k, by omega, nf⟩⟩, fun q => absurd rfl q⟩
      · subst y1
        have R84 : Rm M4 s 83 := fun i hi => by
          by_cases z : i = k
          · rw [z]; exact k4.1.ft
          · exact (R8 i hi).out f4 (fun y q => by have := f4' y q; omega)
        refine ⟨⟨by omega, by omega⟩, o4, fun q => by omega, fun _ => ihc (k + 1) M4 (by omega) ⟨o4, f04, W4, R74, R84, R94, K4⟩ hh4 (fun j hj => ?_) hv4 (fun j hj => ?_)⟩
        · by_cases z : j = k
          · rw [z]; exact k4
          · exact (hok j (by omega)).out f4 (fun y q => by have := f4' y q; omega)
        · by_cases z : j = k
          · rw [z]; exact ⟨e4, ft⟩
          · rw [fv_out (hok j (by omega)).1 f4 (fun y q => by have := f4' y q; omega)]
            exact hw j (by omega)
theorem s_MS_within (h0 : 0 ≤ l1) (hl : l1 ≤ 32) (hO : mOk M) (h : Sv M s n) : Ci G y_MS_within (d + 7) [vr s, vi l1] M (fun r M' => (mOk M' ∧ FI (vH s) M M' ∧ Sv M' s n ∧ (r = 0 ∨ r = 6)) ∧ mI M' (s + 30) 0 = mI M (s + 30) 0 ∧ ∀ T : xt9, SvT M s T → anA9 T l1.toNat r) := by
  have hn5 := h.n5
  obtain ⟨V, g, c, hn, t, W, T, R, H, hc⟩ := id h
  have hfin : ∀ r M', wiQ M s n l1.toNat r M' → ((mOk M' ∧ FI (vH s) M M' ∧ Sv M' s n ∧ (r = 0 ∨ r = 6)) ∧ mI M' (s + 30) 0 = mI M (s + 30) 0 ∧ ∀ T : xt9, SvT M s T → anA9 T l1.toNat r) := fun r M' k => by
    obtain ⟨o', f', W', R7, R8, R9, k30, kr⟩ := k
    have sg : sameG M M' s := sameG.of f' (fun q => by have := inF_lo q; omega) (fun y a b q => by have := inF_lo q; omega)
    have fe := f'.2.2.2.2.2.2
    refine ⟨⟨o', f'.mono (fun y q => inF_vH q), ⟨V.fi f', sg.gw g, sg.gb c, by rw [sg.1]; exact hn, t.out sg (fe _ (fun q => by have := inF_lo q; omega)), W', T.out f' (fun y q => inF_ct q), fun e he => ?_, fun w hw => ?_, fun q => ?_⟩, by rcases kr with z | z; exact Or.inl z.1; exact Or.inr z.1⟩, k30 0 (by omega), fun T hT => ?_⟩
    rotate_right
    · have eT : T.length = n := by have := hT.1; omega
      rcases kr with ⟨z1, -, -, z2⟩ | ⟨z1, -, m, z2, k, z3, z4⟩
      · exact Or.inl ⟨z1, fun m hm k hk => by rw [← ref_wi hT m k hk]; exact z2 m hm k (by omega)⟩
      · exact Or.inr ⟨z1, m, z2, k, by omega, by rw [← ref_wi hT m k (by omega)]; exact z4⟩
    · rcases he with z | z | z | z | z <;> subst z
      · exact (R 68 (by omega)).out2 f' (fun i y hi q => inF_far (by omega) hi q)
      · exact R7
      · exact (R 78 (by omega)).out2 f' (fun i y hi q => inF_far (by omega) hi q)
      · exact R8
      · exact R9
    · by_cases z : w = 1
      · subst z
        rcases kr with ⟨z1, z2, z3, -⟩ | ⟨z1, z2, -⟩
        · have x3 := z3.xt
          exact ⟨Or.inr z2, fun _ => ⟨_, x3.1, x3.2⟩⟩
        · exact ⟨Or.inl z2, fun q => by omega⟩
      · obtain ⟨a1, a2⟩ := H w hw
        unfold Hs
        rw [k30 w z]
        refine ⟨a1, fun q => ?_⟩
        obtain ⟨x, X, v⟩ := a2 q
        exact ⟨x, X.out2 f' (fun i y hi q => inF_far (by omega) (by omega) q), v⟩
    · rw [k30 0 (by omega)] at q
      exact (hc q).out sg (fe _ (fun q => by have := inF_lo q; omega))
  refine Ci.mono (Q := wiQ M s n l1.toNat) ?_ hfin
  refine k_MS_within hO ⟨by omega, by omega⟩ ?_
  rw [V.r12, V.n30]
  refine ⟨V.k0, V.k30, by omega, fun M1 e1 => ?_⟩
  have f1 : FI (fun y => y = s + 30) M M1 := by rw [e1]; exact FI.ui rfl
  have o1 : mOk M1 := by rw [e1]; exact mOk_UI hO ⟨by omega, by omega⟩
  have hh1 : h30 M s M1 := ⟨fun j hj => by rw [e1, mI_UI, if_neg (fun w => hj w.2)], by rw [e1, mI_UI, if_pos ⟨rfl, rfl⟩]⟩
  suffices H : ∀ (c k : Nat) (M2 : mM), k + c = n → mOk M2 → FI (inF s) M M2 → Wk M2 s → Rm M2 s 73 → Rm M2 s 83 → Rm M2 s 88 → h30 M s M2 → Ok M2 s 88 k → (∀ j, j < k → fv M2 (s + 88 + 25 * j) = wiR M s 0 j) → h_MS_within_9 G (d + 6) s l1 k M2 (wiQ M s n l1.toNat) from
    H n 0 M1 (by omega) o1 (f1.mono (fun y q => Or.inr (Or.inl q))) (W.far f1 (fun y q => by omega)) ((R 73 (by omega)).out f1 (fun y q => by omega)) ((R 83 (by omega)).out f1 (fun y q => by omega)) ((R 88 (by omega)).out f1 (fun y q => by omega)) hh1 (fun j hj => by omega) (fun j hj => by omega)
  intro c'
  induction c' with
  | zero =>
    intro k M2 hk o2 f2 W2 R7 R8 R9 hh hok hv
    have ek : k = n := by omega
    subst ek
    have V2 := V.fi f2
    refine k_MS_within_9 o2 ⟨by omega, by omega⟩ ⟨by omega, by omega⟩ ?_
    rw [f2.2.2.2.2.2.2 s (fun q => by have := inF_lo q; omega), hn]
    exact ⟨V2.k0, fun _ => s_wi50 V g c hn hn5 h0 hl rfl l1.toNat 0 M2 (by omega) ⟨o2, f2, W2, R7, R8, R9, hok⟩ hh hv (fun m hm j hj => by
      have m0 : m = 0 := by omega
      rw [m0]
      exact ft_01 (Classical.em _)), fun q => by omega⟩
  | succ c' ih =>
    intro k M2 hk o2 f2 W2 R7 R8 R9 hh hok hv
    have V2 := V.fi f2
    have fe := f2.2.2.2.2.2.2
    have rk := R9 k (by omega)
    refine k_MS_within_9 o2 ⟨by omega, by omega⟩ ⟨by omega, by omega⟩ ?_
    rw [fe s (fun q => by have := inF_lo q; omega), hn, V2.r21, V2.r4, V2.n38, V2.n22, Int.toNat_natCast, V2.f38 k (by omega)]
    refine ⟨V2.k0, fun q => by omega, fun _ => ⟨V2.k38, by omega, V2.k22, by omega, fun v hv9 => ⟨rk.1.1, (s_MF_set ⟨by split at hv9 <;> omega, by split at hv9 <;> omega⟩ (by split at hv9 <;> omega) ⟨by omega, by omega⟩ (by omega) o2 rk (by omega)).mono (fun M3 h3 => ?_)⟩⟩⟩
    obtain ⟨o3, f3, F3, y1, y2, y3⟩ := h3
    have hv01 : v = 0 ∨ v = 1 := by split at hv9 <;> omega
    have C3 := fc_one F3 y2 (fun q => y3 (by omega))
    have e3 : fv M3 (s + 88 + 25 * k) = 0 ∨ fv M3 (s + 88 + 25 * k) = 1 := by
      rw [fv_set y1 y2]
      have z0 : ((0 : Int) : Rat) = 0 := rfl
      have z1 : ((1 : Int) : Rat) = 1 := rfl
      rcases hv01 with z | z
      · left; rw [z, z0]; grind
      · right; rw [z, z1]; grind
    have k3 : okF M3 (s + 88 + 25 * k) := by
      rcases e3 with z | z
      · exact ⟨F3, C3, by rw [z]; exact smp_zero, by rw [z]; decide⟩
      · exact ⟨F3, C3, by rw [z]; exact smp_one, by rw [z]; decide⟩
    have f3' : ∀ y, fS (s + 88 + 25 * k) y → s + 88 + 25 * k ≤ y ∧ y ≤ s + 88 + 25 * k + 4 := fun y q => q
    refine ⟨o3, ih (k + 1) M3 (by omega) o3 (f2.trans (f3.mono (fun y q => by have := f3' y q; omega))) (W2.far f3 (fun y q => by have := f3' y q; omega)) (R7.out2 f3 (fun i y hi q => by have := f3' y q; omega)) (R8.out2 f3 (fun i y hi q => by have := f3' y q; omega)) (R9.put (by omega) f3 F3.ft) ?_ (fun j hj => ?_) (fun j hj => ?_)⟩
    rotate_left 2
    · by_cases z : j = k
      · rw [z, fv_set y1 y2, hv9]
        have z0 : ((0 : Int) : Rat) = 0 := rfl
        have z1 : ((1 : Int) : Rat) = 1 := rfl
        show ((if mI M2 (s + 22) k = 3 then (1 : Int) else 0 : Int) : Rat) * ((1 : Int) : Rat)⁻¹ = (if mI M (s + 22) k = 3 then (1 : Rat) else 0)
        rw [fe (s + 22) (fun q => by have := inF_lo q; omega)]
        split
        · rw [z1]; grind
        · rw [z0, z1]; grind
      · rw [fv_out (hok j (by omega)).1 f3 (fun y q => by have := f3' y q; omega)]
        exact hv j (by omega)
    · unfold h30
      rw [f3.2.2.2.2.2.2 (s + 30) (fun q => by have := f3' _ q; omega)]
      exact hh
    · by_cases z : j = k
      · rw [z]; exact k3
      · exact (hok j (by omega)).out f3 (fun y q => by have := f3' y q; omega)
end WI
end
section
/-! The solver: what it tells. -/
theorem s_digits2 {G : mG} {d u a ra c : Nat} {M : mM} {D : Nat} (hO : mOk M) (hZ : Sz M u) (hA : W3 M a ra) (oa : a + 1 < u + 11 ∨ u + 12 < a) (z1 : mI M a 1 ≤ 900) (hc : mK M c = 30) (hn : D ≤ mN M c) (hD : 0 < D) (hD2 : D < 100000) (hv : wv M a < 10 ^ D) (oc : c < u + 1 ∨ u + 20 < c) :
    Ci G y_MU_digits (d + 2) [vr u, vr a, vr c] M (fun x M' => mOk M' ∧ FI (fun x => x = u + 11 ∨ x = u + 12 ∨ x = c) M M' ∧ Sz M' u ∧ 0 < x ∧ x ≤ D ∧ ∀ j : Nat, (j : Int) < x → 0 ≤ mI M' c j ∧ mI M' c j ≤ 9) := by
  refine k_MU_digits hO ?_
  rw [hZ.1.2.2.2.1]
  refine ⟨hZ.1.1, (hZ.wh 11 (by decide)).1, (s_MW_copy hO (hZ.wh 11 (by decide)) hA (by omega) z1).mono (fun M1 h1 => ?_)⟩
  obtain ⟨g1, g2, g3, g4⟩ := h1
  have Z1 := hZ.step (c := 11) (by decide) rfl g2 g3.1
  refine ⟨g1, ?_⟩
  suffices H : ∀ (k : Nat) (l : Int) (M1 : mM), l + k + 1 = D → 0 ≤ l → mOk M1 → FI (fun x => x = u + 11 ∨ x = u + 12 ∨ x = c) M M1 → Sz M1 u → W3 M1 (u + 11) 900 → wv M1 (u + 11) < 10 ^ (k + 1) → (∀ j : Nat, (j : Int) < l → 0 ≤ mI M1 c j ∧ mI M1 c j ≤ 9) → h_MU_digits_10 G (d + 1) u c l M1 (fun x M' => mOk M' ∧ FI (fun x => x = u + 11 ∨ x = u + 12 ∨ x = c) M M' ∧ Sz M' u ∧ 0 < x ∧ x ≤ D ∧ ∀ j : Nat, (j : Int) < x → 0 ≤ mI M' c j ∧ mI M' c j ≤ 9) from
    H (D - 1) 0 M1 (by omega) (by omega) g1 (g2.mono (fun x q => by omega)) Z1 g3 (by rw [g4, show D - 1 + 1 = D by omega]; exact hv) (fun j hj => by omega)
  intro k
  induction k with
  | zero =>
    intro l M1 hk h0 hO1 F1 Z1 W1 hw hd
    refine k_MU_digits_10 hO1 ⟨by omega, by omega⟩ ?_
    rw [Z1.1.2.2.2.1]
    refine ⟨Z1.1.1, W1.1.1, (s_MW_tenth hO1 W1).mono (fun x M2 h2 => ?_)⟩
    obtain ⟨k1, k2, k3, k4, k5⟩ := h2
    have Z2 := Z1.step (c := 11) (by decide) rfl k2 k3.1
    have F2 := F1.trans (k2.mono (fun x q => by omega))
    have n2 : mN M2 c = mN M c := by rw [F2.2.1]
    refine ⟨⟨by omega, by omega⟩, k1, by rw [F2.1]; exact hc, by omega, fun M3 e3 => ?_⟩
    have f3 : FI (fun x => x = c) M2 M3 := by rw [e3]; exact FI.ui rfl
    have o3 : mOk M3 := by rw [e3]; exact mOk_UI k1 ⟨by omega, by omega⟩
    have hd3 : ∀ j : Nat, (j : Int) < l + 1 → 0 ≤ mI M3 c j ∧ mI M3 c j ≤ 9 := fun j hj => by
      rw [e3, mI_UI]
      by_cases z : j = l.toNat
      · rw [if_pos ⟨rfl, z⟩]
        omega
      · rw [if_neg (fun w => z w.2), k2.2.2.2.2.2.2 c (by omega)]
        exact hd j (by omega)
    have Z3 : Sz M3 u := ⟨Z2.1.fi f3, Z2.2.1.fi f3, Z2.2.2.1.fi f3, fun e he => (Z2.wh e he).out f3 (by
      have h1 : ∀ e ∈ szL, 1 ≤ e ∧ e ≤ 20 := by decide
      have h2 := h1 e he
      omega)⟩
    obtain ⟨W3', v3⟩ := k3.out f3 (by omega) (by omega)
    rw [Z3.1.2.2.2.1]
    refine ⟨Z3.1.1, W3'.1.1, (s_MW_isZero o3 W3'.1).mono (fun y M4 h4 => ?_)⟩
    obtain ⟨e4, hy⟩ := h4
    subst e4
    have hz : mI M4 (u + 11) 1 = 0 := W3'.zero.2 (by have hw' : wv M1 (u + 11) < 10 := hw; have := W1.nonneg; omega)
    rw [if_pos hz] at hy
    exact ⟨⟨by omega, by omega⟩, o3, fun q => by omega, fun _ => ⟨o3, F2.trans (f3.mono (fun x q => by omega)), Z3, by omega, by omega, hd3⟩⟩
  | succ k ih =>
    intro l M1 hk h0 hO1 F1 Z1 W1 hw hd
    refine k_MU_digits_10 hO1 ⟨by omega, by omega⟩ ?_
    rw [Z1.1.2.2.2.1]
    refine ⟨Z1.1.1, W1.1.1, (s_MW_tenth hO1 W1).mono (fun x M2 h2 => ?_)⟩
    obtain ⟨k1, k2, k3, k4, k5⟩ := h2
    have Z2 := Z1.step (c := 11) (by decide) rfl k2 k3.1
    have F2 := F1.trans (k2.mono (fun x q => by omega))
    have n2 : mN M2 c = mN M c := by rw [F2.2.1]
    refine ⟨⟨by omega, by omega⟩, k1, by rw [F2.1]; exact hc, by omega, fun M3 e3 => ?_⟩
    have f3 : FI (fun x => x = c) M2 M3 := by rw [e3]; exact FI.ui rfl
    have o3 : mOk M3 := by rw [e3]; exact mOk_UI k1 ⟨by omega, by omega⟩
    have hd3 : ∀ j : Nat, (j : Int) < l + 1 → 0 ≤ mI M3 c j ∧ mI M3 c j ≤ 9 := fun j hj => by
      rw [e3, mI_UI]
      by_cases z : j = l.toNat
      · rw [if_pos ⟨rfl, z⟩]
        omega
      · rw [if_neg (fun w => z w.2), k2.2.2.2.2.2.2 c (by omega)]
        exact hd j (by omega)
    have Z3 : Sz M3 u := ⟨Z2.1.fi f3, Z2.2.1.fi f3, Z2.2.2.1.fi f3, fun e he => (Z2.wh e he).out f3 (by
      have h1 : ∀ e ∈ szL, 1 ≤ e ∧ e ≤ 20 := by decide
      have h2 := h1 e he
      omega)⟩
    obtain ⟨W3', v3⟩ := k3.out f3 (by omega) (by omega)
    rw [Z3.1.2.2.2.1]
    refine ⟨Z3.1.1, W3'.1.1, (s_MW_isZero o3 W3'.1).mono (fun y M4 h4 => ?_)⟩
    obtain ⟨e4, hy⟩ := h4
    subst e4
    refine ⟨⟨by split at hy <;> omega, by split at hy <;> omega⟩, o3, fun q => ih (l + 1) M4 (by omega) (by omega) o3 (F2.trans (f3.mono (fun x q => by omega))) Z3 W3' ?_ hd3, fun _ => ⟨o3, F2.trans (f3.mono (fun x q => by omega)), Z3, by omega, by omega, hd3⟩⟩
    rw [v3, k4]
    have : (10 : Int) ^ (k + 1 + 1) = 10 ^ (k + 1) * 10 := Int.pow_succ _ _
    generalize (10 : Int) ^ (k + 1) = P at *
    omega
theorem Hs.out {S : Nat → Prop} {M M' : mM} {s n w : Nat} (h : Hs M s n w) (f : FI S M M') (h0 : ¬ S (s + 30)) (hs : ∀ y, S y → y < s + 68) (hw : w < 3) : Hs M' s n w := by
  obtain ⟨h1, h2⟩ := h
  unfold Hs
  rw [f.2.2.2.2.2.2 _ h0]
  refine ⟨h1, fun q => ?_⟩
  obtain ⟨x, X, v⟩ := h2 q
  exact ⟨x, X.out f (fun y q => by have := hs y q; omega), v⟩
theorem Sv.out {S : Nat → Prop} {M M' : mM} {s n : Nat} (h : Sv M s n) (f : FI S M M') (hs : ∀ y, S y → (s < y ∧ y < s + 22) ∨ (s + 42 ≤ y ∧ y ≤ s + 67) ∨ y < s ∨ s + 21067 < y) (hW : Wk M' s) : Sv M' s n := by
  have hn5 := h.n5
  obtain ⟨V, g, c, e, t, W, T, R, H, hc⟩ := h
  have sg : sameG M M' s := sameG.of f (fun q => by have := hs s q; omega) (fun y a b q => by have := hs y q; omega)
  have fe := f.2.2.2.2.2.2
  refine ⟨V.fi f, sg.gw g, sg.gb c, by rw [sg.1]; exact e, t.out sg (fe _ (fun q => by have := hs _ q; omega)), hW, fun i j hi hj => (T i j hi hj).out f (fun y q => by have := hs y q; unfold cel; omega), fun e he => (R e he).out f (fun y q => by have := hs y q; omega), fun w hw => ?_, fun q => (hc (by rw [← fe (s + 30) (fun q => by have := hs _ q; omega)]; exact q)).out sg (fe _ (fun q => by have := hs _ q; omega))⟩
  obtain ⟨h1, h2⟩ := H w hw
  unfold Hs
  rw [fe _ (fun q => by have := hs _ q; omega)]
  refine ⟨h1, fun q => ?_⟩
  obtain ⟨x, X, v⟩ := h2 q
  exact ⟨x, X.out2 f (fun i y hi q => by have := hs y q; omega), v⟩
theorem fv_top {M : mM} {f r : Nat} (hF : Fq M f r) (h0 : 0 ≤ fv M f) (h1 : fv M f ≤ 1) : wv M (f + 1) ≤ wv M (f + 3) := by
  have a := fv_abs hF h1 (by grind)
  rw [fv_wv hF h0] at a
  exact a.1
theorem p160 : (16777216 : Int) ^ 21 < 10 ^ 160 := by decide
section PR
variable {G : mG} {d s n k w : Nat} {M : mM}
/-- the fraction of state k for w -/
abbrev frc (s k w : Nat) : Nat := s + (68 + 5 * w) + 25 * k
theorem Sv.frac (h : Sv M s n) (hk : k < n) (hw : w < 3) (hh : mI M (s + 30) w ≠ 0) : okF M (frc s k w) ∧ mR M (s + 29) (3 * (k : Int) + (w : Int)).toNat = frc s k w := by
  have hn5 := h.n5
  obtain ⟨V, g, c, e, t, W, T, R, H, hc⟩ := h
  obtain ⟨h1, h2⟩ := H w hw
  obtain ⟨x, X, v⟩ := h2 (by omega)
  obtain ⟨x1, x2, x3⟩ := X k hk
  refine ⟨⟨x1, x2, by rw [x3]; exact (v k hk).1, by rw [x3]; exact (v k hk).2⟩, ?_⟩
  rw [show (3 * (k : Int) + (w : Int)).toNat = 3 * k + w by omega, V.f29 k w (by omega) hw]
  unfold frc
  omega
theorem okF.low {M : mM} {f : Nat} (h : okF M f) : wv M (f + 1) ≤ wv M (f + 3) ∧ mI M (f + 1) 1 ≤ 21 ∧ mI M (f + 3) 1 ≤ 21 ∧ wv M (f + 1) < 10 ^ 160 ∧ wv M (f + 3) < 10 ^ 160 := by
  obtain ⟨h1, h2, h3, h4⟩ := h
  have a := fv_top h1 h4 (smp_b h3).1
  have b := smp_size h1 h2 h3
  have c1 := h1.2.1.lt
  have c2 := h1.2.2.1.lt
  have d1 : (16777216 : Int) ^ (mI M (f + 1) 1).toNat ≤ 16777216 ^ 21 := pow_mono (by omega)
  have d2 : (16777216 : Int) ^ (mI M (f + 3) 1).toNat ≤ 16777216 ^ 21 := pow_mono (by omega)
  have := p160
  exact ⟨a, b.1, b.2, by omega, by omega⟩
theorem s_MS_isThere {l1 l2 : Int} (h1 : i32 l1) (h2 : i32 l2) (hO : mOk M) (h : Sv M s n) : Ci G y_MS_isThere d [vr s, vi l1, vi l2] M (fun r M' => M' = M ∧ (r = 0 ∨ r = 1) ∧ (r ≠ 0 ↔ (0 ≤ l1 ∧ l1 < n ∧ 0 ≤ l2 ∧ l2 ≤ 2 ∧ mI M (s + 30) l2.toNat ≠ 0))) := by
  obtain ⟨V, g, c, e, -⟩ := h
  refine k_MS_isThere hO h1 h2 ?_
  rw [V.r12, V.n30, e]
  refine ⟨fun _ => ⟨V.k0, fun _ _ _ => ⟨V.k30, by omega⟩⟩, fun v hv => ⟨rfl, by split at hv <;> omega, ?_⟩⟩
  by_cases q : l1 < 0 ∨ ((n : Int) ≤ l1 ∨ (l2 < 0 ∨ (2 < l2 ∨ mI M (s + 30) l2.toNat = 0)))
  · rw [if_pos q] at hv
    exact ⟨fun w => absurd hv w, fun w => by omega⟩
  · rw [if_neg q] at hv
    exact ⟨fun _ => by omega, fun _ => by omega⟩
theorem s_MS_compare {j w' : Nat} (hO : mOk M) (h : Sv M s n) (hk : k < n) (hw : w < 3) (hh : mI M (s + 30) w ≠ 0) (hj : j < n) (hw' : w' < 3) (hh' : mI M (s + 30) w' ≠ 0) : Ci G y_MS_compare (d + 3) [vr s, vi k, vi w, vi j, vi w'] M (fun r M' => mOk M' ∧ FI (vK s) M M' ∧ Sv M' s n ∧ -1 ≤ r ∧ r ≤ 1) := by
  have hn5 := h.n5
  obtain ⟨a1, a2⟩ := h.frac hk hw hh
  obtain ⟨b1, b2⟩ := h.frac hj hw' hh'
  have al := a1.low
  have bl := b1.low
  obtain ⟨V, g, c, e, t, W, -⟩ := id h
  refine k_MS_compare hO ⟨by omega, by omega⟩ ⟨by omega, by omega⟩ ⟨by omega, by omega⟩ ⟨by omega, by omega⟩ ?_
  rw [V.r11, V.n29, V.r0, a2, b2]
  refine ⟨V.k0, V.k29, by omega, by omega, W.1.1.1, (s_MU_compare (d := d) hO W.1 a1.1 b1.1 (by unfold suO frc; omega) (by unfold suO frc; omega) (by omega) (by omega)).mono (fun u M1 h1 => ?_)⟩
  obtain ⟨o1, f1, Z1, hu⟩ := h1
  have hu3 : u = -1 ∨ u = 0 ∨ u = 1 := by split at hu <;> (try split at hu) <;> omega
  exact ⟨⟨by omega, by omega⟩, o1, o1, f1.mono (fun y q => by omega), h.out f1 (fun y q => by omega) (W.out f1 Z1 (fun y q => by omega)), by omega, by omega⟩
end PR
end
section
/-! The solver: printing, telling, adopting, the next state. -/
section PR
variable {G : mG} {d s n k w : Nat} {M : mM}
abbrev syS (s o : Nat) : Nat → Prop := fun y => y = s + 12 ∨ y = s + 13 ∨ y = s + 67 ∨ y = o
theorem s_MS_say {a o ra p : Nat} (hO : mOk M) (h : Sv M s n) (hA : W3 M a ra) (oa : s + 67 < a) (z1 : mI M a 1 ≤ 900) (hv : wv M a < 10 ^ 160) (ho : mK M o = 30) (hp : p + 160 ≤ mN M o) (hp2 : p < 10000) (oo : o < s ∨ s + 21067 < o) :
    Ci G y_MS_say (d + 3) [vr s, vr a, vr o, vi p] M (fun r M' => mOk M' ∧ FI (syS s o) M M' ∧ Sv M' s n ∧ (p : Int) < r ∧ r ≤ (p : Int) + 160) := by
  obtain ⟨V, g, c, e, t, W, -⟩ := id h
  refine k_MS_say hO ⟨by omega, by omega⟩ ?_
  rw [V.r0, V.r31]
  refine ⟨V.k0, W.1.1.1, (s_digits2 (d := d) (D := 160) hO W.1 hA (by omega) z1 V.k67 (by rw [V.n67]; omega) (by omega) (by omega) hv (by omega)).mono (fun x M1 h1 => ?_)⟩
  obtain ⟨o1, f1, Z1, x0, x1, hd⟩ := h1
  have W1 : Wk M1 s := W.out f1 Z1 (fun y q => by omega)
  have S1 : Sv M1 s n := h.out f1 (fun y q => by omega) W1
  refine ⟨⟨by omega, by omega⟩, o1, ?_⟩
  suffices H : ∀ (c l : Nat) (M2 : mM), (l : Int) + c = x → mOk M2 → FI (fun y => y = o) M1 M2 → h_MS_say_17 G (d + 2) s o p x l M2 (fun r M' => mOk M' ∧ FI (syS s o) M M' ∧ Sv M' s n ∧ (p : Int) < r ∧ r ≤ (p : Int) + 160) from
    H x.toNat 0 M1 (by omega) o1 FI.refl
  intro c
  induction c with
  | zero =>
    intro l M2 hl o2 f2
    exact k_MS_say_17 o2 ⟨by omega, by omega⟩ ⟨by omega, by omega⟩ ⟨by omega, by omega⟩ ⟨fun _ => ⟨o2, (f1.mono (fun y q => by omega)).trans (f2.mono (fun y q => by omega)), S1.out f2 (fun y q => by omega) (W1.out f2 (W1.1.far f2 (fun y q => by omega)) (fun y q => by omega)), by omega, by omega⟩, fun q => by omega⟩
  | succ c ih =>
    intro l M2 hl o2 f2
    have V2 := S1.1.fi f2
    have n2 : mN M2 o = mN M o := by rw [f2.2.1, f1.2.1]
    have k2 : mK M2 o = 30 := by rw [f2.1, f1.1]; exact ho
    have hdl := hd (x - 1 - l).toNat (by omega)
    refine k_MS_say_17 o2 ⟨by omega, by omega⟩ ⟨by omega, by omega⟩ ⟨by omega, by omega⟩ ⟨fun q => by omega, fun _ => ?_⟩
    rw [V2.r31, V2.n67, n2, f2.2.2.2.2.2.2 (s + 67) (by omega)]
    refine ⟨V2.k0, V2.k67, by omega, k2, by omega, ⟨by omega, by omega⟩, fun M3 e3 => ?_⟩
    have f3 : FI (fun y => y = o) M2 M3 := by rw [e3]; exact FI.ui rfl
    have o3 : mOk M3 := by rw [e3]; exact mOk_UI o2 ⟨by omega, by omega⟩
    exact ih (l + 1) M3 (by omega) o3 (f2.trans f3)
theorem s_MS_print {o : Nat} (hO : mOk M) (h : Sv M s n) (hk : k < n) (hw : w < 3) (hh : mI M (s + 30) w ≠ 0) (ho : mK M o = 30) (hp : 400 ≤ mN M o) (oo : o < s ∨ s + 21067 < o) :
    Ci G y_MS_print (d + 4) [vr s, vi k, vi w, vr o] M (fun r M' => mOk M' ∧ FI (syS s o) M M' ∧ Sv M' s n ∧ 0 ≤ r ∧ r ≤ 321) := by
  have hn5 := h.n5
  obtain ⟨a1, a2⟩ := h.frac hk hw hh
  have al := a1.low
  obtain ⟨V, g, c, e, t, W, -⟩ := id h
  obtain ⟨F, -, -, -⟩ := id a1
  refine k_MS_print hO ⟨by omega, by omega⟩ ⟨by omega, by omega⟩ ?_
  rw [V.r11, V.n29, a2, F.1.2.1]
  refine ⟨V.k0, V.k29, by omega, F.1.1, (s_MS_say (d := d) (p := 0) hO h F.2.1 (by unfold frc; omega) (by omega) al.2.2.2.1 ho (by omega) (by omega) oo).mono (fun x M1 h1 => ?_)⟩
  obtain ⟨o1, f1, S1, x0, x1⟩ := h1
  have hs1 : ∀ y, syS s o y → y < frc s k w ∨ frc s k w + 4 < y := fun y q => by unfold frc; omega
  have F1 := F.out f1 hs1
  have a1' := a1.out f1 hs1
  have al1 := a1'.low
  rw [F1.1.1.2.2]
  refine ⟨⟨by omega, by omega⟩, o1, F1.1.1.1, F1.1.2.2.1.1.1, (s_MW_isOne o1 F1.1.2.2.1).mono (fun y M2 h2 => ?_)⟩
  obtain ⟨e2, hy⟩ := h2
  subst e2
  refine ⟨⟨by split at hy <;> omega, by split at hy <;> omega⟩, o1, fun _ => ⟨by rw [f1.1]; exact ho, by rw [f1.2.1]; omega, fun M3 e3 => ?_⟩, fun _ => ⟨o1, f1, S1, by omega, by omega⟩⟩
  have f3 : FI (fun y => y = o) M2 M3 := by rw [e3]; exact FI.ui rfl
  have o3 : mOk M3 := by rw [e3]; exact mOk_UI o1 ⟨by omega, by omega⟩
  have W1 := S1.2.2.2.2.2.1
  have S3 : Sv M3 s n := S1.out f3 (fun y q => by omega) (W1.out f3 (W1.1.far f3 (fun y q => by omega)) (fun y q => by omega))
  have hs3 : ∀ y, y = o → y < frc s k w ∨ frc s k w + 4 < y := fun y q => by unfold frc; omega
  have F3 := F1.1.out f3 hs3
  have al3 := (a1'.out f3 hs3).low
  rw [F3.1.1.2.2, show x + 1 = ((x + 1).toNat : Int) by omega]
  refine ⟨F3.1.1.1, S3.1.k0, (s_MS_say (d := d) (p := (x + 1).toNat) o3 S3 F3.1.2.2.1 (by unfold frc; omega) (by omega) al3.2.2.2.2 (by rw [f3.1, f1.1]; exact ho) (by rw [f3.2.1, f1.2.1]; omega) (by omega) oo).mono (fun z M4 h4 => ?_)⟩
  obtain ⟨o4, f4, S4, z0, z1⟩ := h4
  exact ⟨⟨by omega, by omega⟩, o4, o4, (f1.trans (f3.mono (fun y q => by omega))).trans f4, S4, by omega, by omega⟩
/-- only told commands have changed -/
theorem Sv.told {M' : mM} (h : Sv M s n) (f : FI (fun y => y = s + 32) M M') (ht : TW M' s) : Sv M' s n := by
  have hn5 := h.n5
  obtain ⟨V, g, c, e, t, W, T, R, H, hc⟩ := h
  have sg : sameG M M' s := sameG.of f (by omega) (fun y a b q => by omega)
  have fe := f.2.2.2.2.2.2
  exact ⟨V.fi f, sg.gw g, sg.gb c, by rw [sg.1]; exact e, ht, W.far f (fun y q => by omega), T.out f (fun y q => by omega), fun e he => (R e he).out f (fun y q => by omega), fun w hw => (H w hw).out f (by omega) (fun y q => by omega) hw, fun q => (hc (by rw [← fe (s + 30) (by omega)]; exact q)).out sg (fe _ (by omega))⟩
theorem s_MS_tell {i : Nat} (hO : mOk M) (h : Sv M s n) (hk : k < n) (hi : (i : Int) < mny M s k) : Cv G y_MS_tell d [vr s, vi k, vi i] M (fun M' => mOk M' ∧ FI (vK s) M M' ∧ Sv M' s n) := by
  have hn5 := h.n5
  obtain ⟨V, g, c, e, t, W, -⟩ := id h
  have h3 := g.2.2.1
  have hcm := g.cmd (i := k) (by omega)
  have hm0 : mny M s k ≤ 4200 := by unfold mny; omega
  refine k_MS_tell hO ⟨by omega, by omega⟩ ⟨by omega, by omega⟩ ?_
  rw [V.r14, V.n32, Int.toNat_natCast]
  refine ⟨V.k0, V.k32, by omega, fun M1 e1 => ?_⟩
  have f1 : FI (fun y => y = s + 32) M M1 := by rw [e1]; exact FI.ui rfl
  have o1 : mOk M1 := by rw [e1]; exact mOk_UI hO ⟨by omega, by omega⟩
  have sg : sameG M M1 s := sameG.of f1 (by omega) (fun y a b q => by omega)
  refine ⟨o1, f1.mono (fun y q => by omega), h.told f1 (fun j hj => ?_)⟩
  rw [sg.1] at hj
  rw [sg.hm, e1, mI_UI]
  by_cases z : j = k
  · rw [if_pos ⟨rfl, z⟩, z]
    exact ⟨by omega, fun _ => hi⟩
  · rw [if_neg (fun w => z w.2)]
    exact t j hj
theorem s_MS_adopt (hO : mOk M) (h : Sv M s n) (hh : mI M (s + 30) 0 = 1) : Cv G y_MS_adopt (d + 1) [vr s] M (fun M' => mOk M' ∧ FI (vK s) M M' ∧ Sv M' s n) := by
  have hn5 := h.n5
  obtain ⟨V, g, c, e, t, W, T, R, H, hc⟩ := id h
  have hc := hc hh
  refine k_MS_adopt hO ?_
  suffices Hh : ∀ (c k : Nat) (M2 : mM), k + c = n → mOk M2 → FI (fun y => y = s + 32) M M2 → TW M2 s → h_MS_adopt_2 G d s k M2 (fun M' => mOk M' ∧ FI (vK s) M M' ∧ Sv M' s n) from
    Hh n 0 M (by omega) hO FI.refl t
  intro c
  induction c with
  | zero =>
    intro k M2 hk o2 f2 t2
    have V2 := V.fi f2
    refine k_MS_adopt_2 o2 ⟨by omega, by omega⟩ ?_
    rw [f2.2.2.2.2.2.2 s (by omega), e]
    exact ⟨V2.k0, fun _ => ⟨o2, f2.mono (fun y q => by omega), h.told f2 t2⟩, fun q => by omega⟩
  | succ c ih =>
    intro k M2 hk o2 f2 t2
    have S2 := h.told f2 t2
    have V2 := V.fi f2
    have sg : sameG M M2 s := sameG.of f2 (by omega) (fun y a b q => by omega)
    have g2 := sg.gw g
    have h3 := g2.2.2.1
    have e2 : mI M2 s 1 = n := by rw [sg.1]; exact e
    have hcm := g2.cmd (i := k) (by omega)
    have hm0 : 0 ≤ mny M2 s k ∧ mny M2 s k ≤ 4200 := by unfold mny; omega
    refine k_MS_adopt_2 o2 ⟨by omega, by omega⟩ ?_
    rw [e2, V2.r14]
    refine ⟨V2.k0, fun q => by omega, fun _ => (s_MS_many o2 V2 g2 (by omega)).mono (fun y M3 h3' => ?_)⟩
    obtain ⟨e3, hy⟩ := h3'
    subst e3
    rw [V2.r15, V2.n33, V2.n32, Int.toNat_natCast, f2.2.2.2.2.2.2 (s + 33) (by omega)]
    refine ⟨⟨by omega, by omega⟩, o2, fun _ => ⟨V2.k0, V2.k33, by omega⟩, fun v hv => ?_⟩
    have hck := hc k (by omega)
    rw [← sg.hm] at hck
    have hv2 : 0 ≤ v ∧ (0 < mny M3 s k → v < mny M3 s k) ∧ v ≤ 4200 := by
      by_cases z : y = 0
      · rw [if_pos z] at hv
        omega
      · rw [if_neg z] at hv
        have := hck (by omega)
        omega
    refine ⟨V2.k32, by omega, ⟨by omega, by omega⟩, fun M4 e4 => ?_⟩
    have f4 : FI (fun y => y = s + 32) M3 M4 := by rw [e4]; exact FI.ui rfl
    have o4 : mOk M4 := by rw [e4]; exact mOk_UI o2 ⟨by omega, by omega⟩
    have sg4 : sameG M3 M4 s := sameG.of f4 (by omega) (fun y a b q => by omega)
    refine ih (k + 1) M4 (by omega) o4 (f2.trans f4) (fun j hj => ?_)
    rw [sg4.1] at hj
    rw [sg4.hm, e4, mI_UI]
    by_cases z : j = k
    · rw [if_pos ⟨rfl, z⟩, z]
      exact ⟨hv2.1, hv2.2.1⟩
    · rw [if_neg (fun w => z w.2)]
      exact t2 j hj
theorem s_MS_hasValues (hO : mOk M) (h : Sv M s n) : Ci G y_MS_hasValues d [vr s] M (fun r M' => M' = M ∧ (r = 0 ∨ r = 1) ∧ r = mI M (s + 30) 0) := by
  obtain ⟨V, g, c, e, t, W, T, R, H, hc⟩ := id h
  have a := (H 0 (by omega)).1
  refine k_MS_hasValues hO ?_
  rw [V.r12, V.n30]
  exact ⟨V.k0, V.k30, by omega, a, rfl, a, rfl⟩
end PR
end
