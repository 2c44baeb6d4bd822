/-! The solver: within. -/
def Ok (M : mM) (s e n : Nat) : Prop := ∀ k, k < n → okF M (s + e + 25 * k)
abbrev inF (s : Nat) : Nat → Prop := fun y => bmS s y ∨ y = s + 30 ∨ eS s 73 y ∨ eS s 83 y ∨ eS s 88 y
theorem okF.out {S : Nat → Prop} {M M' : mM} {f : Nat} (h : okF M f) (k : FI S M M') (hs : ∀ y, S y → y < f ∨ f + 4 < y) : okF M' f := by
  obtain ⟨h1, h2, h3, h4⟩ := h
  have e := fv_out h1 k hs
  exact ⟨(h1.out k hs).1, h2.out h1 k hs, by rw [e]; exact h3, by rw [e]; exact h4⟩
theorem Ok.out {S : Nat → Prop} {M M' : mM} {s e n : Nat} (h : Ok M s e n) (k : FI S M M') (hs : ∀ i y, i < n → S y → y < s + e + 25 * i ∨ s + e + 25 * i + 4 < y) : Ok M' s e n :=
  fun i hi => (h i hi).out k (fun y q => hs i y hi q)
theorem Ok.xt {M : mM} {s e n : Nat} (h : Ok M s e n) : Xt M s e n (fun k => fv M (s + e + 25 * k)) ∧ ∀ k, k < n → Smp 21 (fv M (s + e + 25 * k)) ∧ 0 ≤ fv M (s + e + 25 * k) :=
  ⟨fun k hk => ⟨(h k hk).1, (h k hk).2.1, rfl⟩, fun k hk => (h k hk).2.2⟩
theorem inF_far {s e i y : Nat} (he : e = 68 ∨ e = 78) (hi : i < 512) (q : inF s y) : y < s + e + 25 * i ∨ s + e + 25 * i + 4 < y := by
  rcases he with z | z <;> subst z <;> omega
theorem inF_vH {s y : Nat} (q : inF s y) : vH s y := by omega
theorem inF_ct {s y : Nat} (q : inF s y) : y < s + 12868 := by omega
theorem inF_lo {s y : Nat} (q : inF s y) : s < y ∧ (y < s + 22 ∨ s + 28 < y) ∧ y ≠ s + 32 ∧ y ≠ s + 33 ∧ y ≠ s + 34 := by omega
/-- copying one of 512 fractions to another place -/
theorem ok_copy {G : mG} {d s k a b : Nat} {M : mM} {Q : mM → Prop} (hO : mOk M) (hR : Rm M s a) (hk : k < 512) (h : okF M (s + b + 25 * k)) (hne : a + 4 < b ∨ b + 4 < a) (hQ : ∀ M', mOk M' → FI (fS (s + a + 25 * k)) M M' → okF M' (s + a + 25 * k) → Rm M' s a → fv M' (s + a + 25 * k) = fv M (s + b + 25 * k) → Q M') : Cv G y_MF_copy (d + 1) [vr (s + a + 25 * k), vr (s + b + 25 * k)] M Q := by
  obtain ⟨h1, h2, h3, h4⟩ := h
  refine (s_MF_copy hO (hR k hk) h1 (by omega) h1.2.1.1.2.2.2.2.2.2 h1.2.2.1.1.2.2.2.2.2.2).mono (fun M' h' => ?_)
  obtain ⟨o', f', F', w4, w5, w6⟩ := h'
  have C' := fc_copy h2 w4 w5 w6
  exact hQ M' o' f' ⟨F', C'.1, by rw [C'.2]; exact h3, by rw [C'.2]; exact h4⟩ (hR.put hk f' F'.ft) C'.2
def wiI (M : mM) (s n : Nat) (M2 : mM) : Prop := mOk M2 ∧ FI (inF s) M M2 ∧ Wk M2 s ∧ Rm M2 s 73 ∧ Rm M2 s 83 ∧ Rm M2 s 88 ∧ Ok M2 s 88 n
/-- numbers after r moves -/
def Vwr (M0 : mM) (s e n r : Nat) (M : mM) : Prop := ∀ k, k < n → fv M (s + e + 25 * k) = wiR M0 s r k
theorem Vwr.out {S : Nat → Prop} {M0 M M' : mM} {s e n r : Nat} (v : Vwr M0 s e n r M) (h : Ok M s e n) (k : FI S M M') (hs : ∀ i y, i < n → S y → y < s + e + 25 * i ∨ s + e + 25 * i + 4 < y) : Vwr M0 s e n r M' := fun i hi => by
  rw [fv_out (h i hi).1 k (fun y q => hs i y hi q)]
  exact v i hi
/-- all up to r moves fit -/
def Frr (M0 : mM) (s n r : Nat) : Prop := ∀ m, m ≤ r → ∀ k, k < n → ft9 (wiR M0 s m k)
def wiQ (M : mM) (s n L : Nat) (r : Int) (M' : mM) : Prop := mOk M' ∧ FI (inF s) M M' ∧ Wk M' s ∧ Rm M' s 73 ∧ Rm M' s 83 ∧ Rm M' s 88 ∧ (∀ j, j ≠ 1 → mI M' (s + 30) j = mI M (s + 30) j) ∧ ((r = 0 ∧ mI M' (s + 30) 1 = 1 ∧ Ok M' s 73 n ∧ Frr M s n L) ∨ (r = 6 ∧ mI M' (s + 30) 1 = 0 ∧ ∃ m, m ≤ L ∧ ∃ k, k < n ∧ ¬ ft9 (wiR M s m k)))
section WI
variable {G : mG} {d s n L : Nat} {M : mM} {l1 : Int}
/-- where has[1] is off -/
abbrev h30 (M : mM) (s : Nat) (M2 : mM) : Prop := (∀ j, j ≠ 1 → mI M2 (s + 30) j = mI M (s + 30) j) ∧ mI M2 (s + 30) 1 = 0
theorem s_wi121 (hV : Vk M s) (hn : mI M s 1 = n) (hn5 : n ≤ 512) (hf : Frr M s n L) : ∀ (c k : Nat) (M2 : mM), k + c = n → wiI M s n M2 → h30 M s M2 → Ok M2 s 73 k → h_MS_within_121 G (d + 6) s k M2 (wiQ M s n L) := by
  intro c
  induction c with
  | zero =>
    intro k M2 hk h hh hok
    have ek : k = n := by omega
    subst ek
    obtain ⟨o2, f2, W2, R7, R8, R9, K2⟩ := h
    have V2 := hV.fi f2
    have fe := f2.2.2.2.2.2.2
    refine k_MS_within_121 o2 ⟨by omega, by omega⟩ ?_
    rw [fe s (fun q => by have := inF_lo q; omega), hn, V2.r12, V2.n30]
    refine ⟨V2.k0, fun _ => ⟨V2.k30, by omega, fun M3 e3 => ?_⟩, fun q => by omega⟩
    have f3 : FI (fun y => y = s + 30) M2 M3 := by rw [e3]; exact FI.ui rfl
    have o3 : mOk M3 := by rw [e3]; exact mOk_UI o2 ⟨by omega, by omega⟩
    refine ⟨o3, f2.trans (f3.mono (fun y q => Or.inr (Or.inl q))), W2.far f3 (fun y q => by omega), R7.out f3 (fun y q => by omega), R8.out f3 (fun y q => by omega), R9.out f3 (fun y q => by omega), fun j hj => ?_, Or.inl ⟨rfl, ?_, hok.out f3 (fun i y hi q => by omega), hf⟩⟩
    · rw [e3, mI_UI, if_neg (fun w => hj w.2)]
      exact hh.1 j hj
    · rw [e3, mI_UI, if_pos ⟨rfl, rfl⟩]
  | succ c ih =>
    intro k M2 hk h hh hok
    obtain ⟨o2, f2, W2, R7, R8, R9, K2⟩ := h
    have V2 := hV.fi f2
    have fe := f2.2.2.2.2.2.2
    have ea : mR M2 (s + 29) (3 * (k : Int) + 1).toNat = s + 73 + 25 * k := by
      rw [show (3 * (k : Int) + 1).toNat = 3 * k + 1 by omega, V2.f29 k 1 (by omega) (by omega)]
      omega
    refine k_MS_within_121 o2 ⟨by omega, by omega⟩ ?_
    rw [fe s (fun q => by have := inF_lo q; omega), hn, V2.r11, V2.r21, V2.n29, V2.n38, ea, Int.toNat_natCast, V2.f38 k (by omega)]
    refine ⟨V2.k0, fun q => by omega, fun _ => ⟨V2.k29, by omega, V2.k38, by omega, (R7 k (by omega)).1.1, ok_copy (d := d + 5) o2 R7 (by omega) (K2 k (by omega)) (by omega) (fun M3 o3 f3 k3 r3 _ => ?_)⟩⟩
    have f3' : ∀ y, fS (s + 73 + 25 * k) y → s + 73 + 25 * k ≤ y ∧ y ≤ s + 73 + 25 * k + 4 := fun y q => q
    refine ⟨o3, ih (k + 1) M3 (by omega) ⟨o3, f2.trans (f3.mono (fun y q => by have := f3' y q; omega)), W2.far f3 (fun y q => by have := f3' y q; omega), r3, R8.out2 f3 (fun i y hi q => by have := f3' y q; omega), R9.out2 f3 (fun i y hi q => by have := f3' y q; omega), K2.out f3 (fun i y hi q => by have := f3' y q; omega)⟩ ?_ (fun j hj => ?_)⟩
    · unfold h30
      rw [f3.2.2.2.2.2.2 (s + 30) (fun q => by have := f3' _ q; omega)]
      exact hh
    · by_cases z : j = k
      · rw [z]; exact k3
      · exact (hok j (by omega)).out f3 (fun y q => by have := f3' y q; omega)
theorem s_wi84 {r : Nat} (hV : Vk M s) (hn : mI M s 1 = n) (hn5 : n ≤ 512) (h0 : 0 ≤ l1) (hl : l1 ≤ 32) (hr : r ≤ 32) (hQ : ∀ M', wiI M s n M' → h30 M s M' → Vwr M s 88 n (r + 1) M' → h_MS_within_50 G (d + 6) s l1 ((r : Int) + 1) M' (wiQ M s n L)) : ∀ (c k : Nat) (M2 : mM), k + c = n → wiI M s n M2 → h30 M s M2 → Ok M2 s 83 n → Vwr M s 83 n (r + 1) M2 → (∀ j, j < k → fv M2 (s + 88 + 25 * j) = wiR M s (r + 1) j) → h_MS_within_84 G (d + 6) s l1 r k M2 (wiQ M s n L) := by
  intro c
  induction c with
  | zero =>
    intro k M2 hk h hh hok v83 v88
    obtain ⟨o2, f2, -⟩ := id h
    have V2 := hV.fi f2
    refine k_MS_within_84 o2 ⟨by omega, by omega⟩ ⟨by omega, by omega⟩ ⟨by omega, by omega⟩ ?_
    rw [f2.2.2.2.2.2.2 s (fun q => by have := inF_lo q; omega), hn]
    exact ⟨V2.k0, fun _ => hQ M2 h hh (fun j hj => v88 j (by omega)), fun q => by omega⟩
  | succ c ih =>
    intro k M2 hk h hh hok v83 v88
    obtain ⟨o2, f2, W2, R7, R8, R9, K2⟩ := h
    have V2 := hV.fi f2
    have fe := f2.2.2.2.2.2.2
    refine k_MS_within_84 o2 ⟨by omega, by omega⟩ ⟨by omega, by omega⟩ ⟨by omega, by omega⟩ ?_
    rw [fe s (fun q => by have := inF_lo q; omega), hn, V2.r13, V2.r21, V2.n31, V2.n38, Int.toNat_natCast, V2.f38 k (by omega), V2.f31 k (by omega)]
    refine ⟨V2.k0, fun q => by omega, fun _ => ⟨V2.k38, by omega, V2.k31, by omega, (R9 k (by omega)).1.1, ok_copy (d := d + 5) o2 R9 (by omega) (hok k (by omega)) (by omega) (fun M3 o3 f3 k3 r3 ev => ?_)⟩⟩
    have f3' : ∀ y, fS (s + 88 + 25 * k) y → s + 88 + 25 * k ≤ y ∧ y ≤ s + 88 + 25 * k + 4 := fun y q => q
    refine ⟨o3, ih (k + 1) M3 (by omega) ⟨o3, f2.trans (f3.mono (fun y q => by have := f3' y q; omega)), W2.far f3 (fun y q => by have := f3' y q; omega), R7.out2 f3 (fun i y hi q => by have := f3' y q; omega), R8.out2 f3 (fun i y hi q => by have := f3' y q; omega), r3, fun j hj => ?_⟩ ?_ (hok.out f3 (fun i y hi q => by have := f3' y q; omega)) (v83.out hok f3 (fun i y hi q => by have := f3' y q; omega)) (fun j hj => ?_)⟩
    rotate_left 2
    · by_cases z : j = k
      · rw [z, ev]; exact v83 k (by omega)
      · rw [fv_out (K2 j (by omega)).1 f3 (fun y q => by have := f3' y q; omega)]
        exact v88 j (by omega)
    · by_cases z : j = k
      · rw [z]; exact k3
      · exact (K2 j hj).out f3 (fun y q => by have := f3' y q; omega)
    · unfold h30
      rw [f3.2.2.2.2.2.2 (s + 30) (fun q => by have := f3' _ q; omega)]
      exact hh
theorem s_wi50 (hV : Vk M s) (hG : GW M s) (hC : GB M s) (hn : mI M s 1 = n) (hn5 : n ≤ 512) (h0 : 0 ≤ l1) (hl : l1 ≤ 32) (hL : L = l1.toNat) : ∀ (t r : Nat) (M2 : mM), (r : Int) + t = l1 → wiI M s n M2 → h30 M s M2 → Vwr M s 88 n r M2 → Frr M s n r → h_MS_within_50 G (d + 6) s l1 r M2 (wiQ M s n L) := by
  intro t
  induction t with
  | zero =>
    intro r M2 ht h hh hv hf
    have eL : L = r := by omega
    exact k_MS_within_50 h.1 ⟨by omega, by omega⟩ ⟨by omega, by omega⟩ ⟨fun _ => s_wi121 hV hn hn5 (by rw [eL]; exact hf) n 0 M2 (by omega) h hh (fun j hj => by omega), fun q => by omega⟩
  | succ t ih =>
    intro r M2 ht h hh hv hf
    refine k_MS_within_50 h.1 ⟨by omega, by omega⟩ ⟨by omega, by omega⟩ ⟨fun q => by omega, fun _ => ?_⟩
    suffices H : ∀ (c k : Nat) (M3 : mM), k + c = n → wiI M s n M3 → h30 M s M3 → Ok M3 s 83 k → Vwr M s 88 n r M3 → (∀ j, j < k → fv M3 (s + 83 + 25 * j) = wiR M s (r + 1) j ∧ ft9 (wiR M s (r + 1) j)) → h_MS_within_57 G (d + 6) s l1 r k M3 (wiQ M s n L) from H n 0 M2 (by omega) h hh (fun j hj => by omega) hv (fun j hj => by omega)
    clear h hh hv M2
    intro c
    induction c with
    | zero =>
      intro k M3 hk h hh hok hv hw
      have ek : k = n := by omega
      subst ek
      obtain ⟨o2, f2, -⟩ := id h
      have V2 := hV.fi f2
      refine k_MS_within_57 o2 ⟨by omega, by omega⟩ ⟨by omega, by omega⟩ ⟨by omega, by omega⟩ ?_
      rw [f2.2.2.2.2.2.2 s (fun q => by have := inF_lo q; omega), hn]
      exact ⟨V2.k0, fun _ => s_wi84 hV hn hn5 h0 hl (by omega) (fun M' h' hh' hv' => ih (r + 1) M' (by omega) h' hh' hv' (fun m hm j hj => by
        by_cases z : m = r + 1
        · rw [z]; exact (hw j hj).2
        · exact hf m (by omega) j hj)) k 0 M3 (by omega) h hh hok (fun j hj => (hw j hj).1) (fun j hj => by omega), fun q => by omega⟩
    | succ c ihc =>
      intro k M3 hk h hh hok hv hw
      obtain ⟨o3, f3, W3, R7, R8, R9, K3⟩ := id h
      have V3 := hV.fi f3
      have sg : sameG M M3 s := sameG.of f3 (fun q => by have := inF_lo q; omega) (fun y a b q => by have := inF_lo q; omega)
      have x3 := K3.xt
      refine k_MS_within_57 o3 ⟨by omega, by omega⟩ ⟨by omega, by omega⟩ ⟨by omega, by omega⟩ ?_
      rw [sg.1, hn]
      refine ⟨V3.k0, fun q => by omega, fun _ => (s_MS_move (d := d) o3 ⟨V3, sg.gw hG, sg.gb hC, by rw [sg.1]; exact hn, W3, x3.1, x3.2⟩ (by omega) R8).mono (fun y M4 h4 => ?_)⟩
      obtain ⟨o4, f4, W4, h4⟩ := h4
      have eb : bq9 M3 s k (fun k => fv M3 (s + 88 + 25 * k)) (mny M3 s k).toNat = wiR M s (r + 1) k := by
        rw [sg.hm]
        exact bq_cg sg hG hn (by omega) (fun t ht => hv t ht) _ (Nat.le_refl _)
      rw [eb] at h4
      have f4' : ∀ y, nxS s k y → bmS s y ∨ (s + 83 + 25 * k ≤ y ∧ y ≤ s + 83 + 25 * k + 4) := fun y q => q
      have e30 : mI M4 (s + 30) = mI M3 (s + 30) := f4.2.2.2.2.2.2 _ (fun q => by have := f4' _ q; omega)
      have hh4 : h30 M s M4 := by unfold h30; rw [e30]; exact hh
      have f04 : FI (inF s) M M4 := f3.trans (f4.mono (fun y q => by have := f4' y q; omega))
      have R74 : Rm M4 s 73 := R7.out2 f4 (fun i y hi q => by have := f4' y q; omega)
      have R94 : Rm M4 s 88 := R9.out2 f4 (fun i y hi q => by have := f4' y q; omega)
      have K4 : Ok M4 s 88 n := K3.out f4 (fun i y hi q => by have := f4' y q; omega)
      have hv4 : Vwr M s 88 n r M4 := hv.out K3 f4 (fun i y hi q => by have := f4' y q; omega)
      rcases h4 with ⟨y0, g4, nf⟩ | ⟨y1, k4, e4, ft⟩
      · subst y0
        have R84 : Rm M4 s 83 := R8.out g4 (fun y q => by omega)
        exact ⟨⟨by omega, by omega⟩, o4, fun _ => ⟨o4, f04, W4, R74, R84, R94, hh4.1, Or.inr ⟨rfl, hh4.2, r + 1, by omega, k, by omega, nf⟩⟩, fun q => absurd rfl q⟩
      · subst y1
        have R84 : Rm M4 s 83 := fun i hi => by
          by_cases z : i = k
          · rw [z]; exact k4.1.ft
          · exact (R8 i hi).out f4 (fun y q => by have := f4' y q; omega)
        refine ⟨⟨by omega, by omega⟩, o4, fun q => by omega, fun _ => ihc (k + 1) M4 (by omega) ⟨o4, f04, W4, R74, R84, R94, K4⟩ hh4 (fun j hj => ?_) hv4 (fun j hj => ?_)⟩
        · by_cases z : j = k
          · rw [z]; exact k4
          · exact (hok j (by omega)).out f4 (fun y q => by have := f4' y q; omega)
        · by_cases z : j = k
          · rw [z]; exact ⟨e4, ft⟩
          · rw [fv_out (hok j (by omega)).1 f4 (fun y q => by have := f4' y q; omega)]
            exact hw j (by omega)
theorem s_MS_within (h0 : 0 ≤ l1) (hl : l1 ≤ 32) (hO : mOk M) (h : Sv M s n) : Ci G y_MS_within (d + 7) [vr s, vi l1] M (fun r M' => (mOk M' ∧ FI (vH s) M M' ∧ Sv M' s n ∧ (r = 0 ∨ r = 6)) ∧ mI M' (s + 30) 0 = mI M (s + 30) 0 ∧ ∀ T : xt9, SvT M s T → anA9 T l1.toNat r) := by
  have hn5 := h.n5
  obtain ⟨V, g, c, hn, t, W, T, R, H, hc⟩ := id h
  have hfin : ∀ r M', wiQ M s n l1.toNat r M' → ((mOk M' ∧ FI (vH s) M M' ∧ Sv M' s n ∧ (r = 0 ∨ r = 6)) ∧ mI M' (s + 30) 0 = mI M (s + 30) 0 ∧ ∀ T : xt9, SvT M s T → anA9 T l1.toNat r) := fun r M' k => by
    obtain ⟨o', f', W', R7, R8, R9, k30, kr⟩ := k
    have sg : sameG M M' s := sameG.of f' (fun q => by have := inF_lo q; omega) (fun y a b q => by have := inF_lo q; omega)
    have fe := f'.2.2.2.2.2.2
    refine ⟨⟨o', f'.mono (fun y q => inF_vH q), ⟨V.fi f', sg.gw g, sg.gb c, by rw [sg.1]; exact hn, t.out sg (fe _ (fun q => by have := inF_lo q; omega)), W', T.out f' (fun y q => inF_ct q), fun e he => ?_, fun w hw => ?_, fun q => ?_⟩, by rcases kr with z | z; exact Or.inl z.1; exact Or.inr z.1⟩, k30 0 (by omega), fun T hT => ?_⟩
    rotate_right
    · have eT : T.length = n := by have := hT.1; omega
      rcases kr with ⟨z1, -, -, z2⟩ | ⟨z1, -, m, z2, k, z3, z4⟩
      · exact Or.inl ⟨z1, fun m hm k hk => by rw [← ref_wi hT m k hk]; exact z2 m hm k (by omega)⟩
      · exact Or.inr ⟨z1, m, z2, k, by omega, by rw [← ref_wi hT m k (by omega)]; exact z4⟩
    · rcases he with z | z | z | z | z <;> subst z
      · exact (R 68 (by omega)).out2 f' (fun i y hi q => inF_far (by omega) hi q)
      · exact R7
      · exact (R 78 (by omega)).out2 f' (fun i y hi q => inF_far (by omega) hi q)
      · exact R8
      · exact R9
    · by_cases z : w = 1
      · subst z
        rcases kr with ⟨z1, z2, z3, -⟩ | ⟨z1, z2, -⟩
        · have x3 := z3.xt
          exact ⟨Or.inr z2, fun _ => ⟨_, x3.1, x3.2⟩⟩
        · exact ⟨Or.inl z2, fun q => by omega⟩
      · obtain ⟨a1, a2⟩ := H w hw
        unfold Hs
        rw [k30 w z]
        refine ⟨a1, fun q => ?_⟩
        obtain ⟨x, X, v⟩ := a2 q
        exact ⟨x, X.out2 f' (fun i y hi q => inF_far (by omega) (by omega) q), v⟩
    · rw [k30 0 (by omega)] at q
      exact (hc q).out sg (fe _ (fun q => by have := inF_lo q; omega))
  refine Ci.mono (Q := wiQ M s n l1.toNat) ?_ hfin
  refine k_MS_within hO ⟨by omega, by omega⟩ ?_
  rw [V.r12, V.n30]
  refine ⟨V.k0, V.k30, by omega, fun M1 e1 => ?_⟩
  have f1 : FI (fun y => y = s + 30) M M1 := by rw [e1]; exact FI.ui rfl
  have o1 : mOk M1 := by rw [e1]; exact mOk_UI hO ⟨by omega, by omega⟩
  have hh1 : h30 M s M1 := ⟨fun j hj => by rw [e1, mI_UI, if_neg (fun w => hj w.2)], by rw [e1, mI_UI, if_pos ⟨rfl, rfl⟩]⟩
  suffices H : ∀ (c k : Nat) (M2 : mM), k + c = n → mOk M2 → FI (inF s) M M2 → Wk M2 s → Rm M2 s 73 → Rm M2 s 83 → Rm M2 s 88 → h30 M s M2 → Ok M2 s 88 k → (∀ j, j < k → fv M2 (s + 88 + 25 * j) = wiR M s 0 j) → h_MS_within_9 G (d + 6) s l1 k M2 (wiQ M s n l1.toNat) from
    H n 0 M1 (by omega) o1 (f1.mono (fun y q => Or.inr (Or.inl q))) (W.far f1 (fun y q => by omega)) ((R 73 (by omega)).out f1 (fun y q => by omega)) ((R 83 (by omega)).out f1 (fun y q => by omega)) ((R 88 (by omega)).out f1 (fun y q => by omega)) hh1 (fun j hj => by omega) (fun j hj => by omega)
  intro c'
  induction c' with
  | zero =>
    intro k M2 hk o2 f2 W2 R7 R8 R9 hh hok hv
    have ek : k = n := by omega
    subst ek
    have V2 := V.fi f2
    refine k_MS_within_9 o2 ⟨by omega, by omega⟩ ⟨by omega, by omega⟩ ?_
    rw [f2.2.2.2.2.2.2 s (fun q => by have := inF_lo q; omega), hn]
    exact ⟨V2.k0, fun _ => s_wi50 V g c hn hn5 h0 hl rfl l1.toNat 0 M2 (by omega) ⟨o2, f2, W2, R7, R8, R9, hok⟩ hh hv (fun m hm j hj => by
      have m0 : m = 0 := by omega
      rw [m0]
      exact ft_01 (Classical.em _)), fun q => by omega⟩
  | succ c' ih =>
    intro k M2 hk o2 f2 W2 R7 R8 R9 hh hok hv
    have V2 := V.fi f2
    have fe := f2.2.2.2.2.2.2
    have rk := R9 k (by omega)
    refine k_MS_within_9 o2 ⟨by omega, by omega⟩ ⟨by omega, by omega⟩ ?_
    rw [fe s (fun q => by have := inF_lo q; omega), hn, V2.r21, V2.r4, V2.n38, V2.n22, Int.toNat_natCast, V2.f38 k (by omega)]
    refine ⟨V2.k0, fun q => by omega, fun _ => ⟨V2.k38, by omega, V2.k22, by omega, fun v hv9 => ⟨rk.1.1, (s_MF_set ⟨by split at hv9 <;> omega, by split at hv9 <;> omega⟩ (by split at hv9 <;> omega) ⟨by omega, by omega⟩ (by omega) o2 rk (by omega)).mono (fun M3 h3 => ?_)⟩⟩⟩
    obtain ⟨o3, f3, F3, y1, y2, y3⟩ := h3
    have hv01 : v = 0 ∨ v = 1 := by split at hv9 <;> omega
    have C3 := fc_one F3 y2 (fun q => y3 (by omega))
    have e3 : fv M3 (s + 88 + 25 * k) = 0 ∨ fv M3 (s + 88 + 25 * k) = 1 := by
      rw [fv_set y1 y2]
      have z0 : ((0 : Int) : Rat) = 0 := rfl
      have z1 : ((1 : Int) : Rat) = 1 := rfl
      rcases hv01 with z | z
      · left; rw [z, z0]; grind
      · right; rw [z, z1]; grind
    have k3 : okF M3 (s + 88 + 25 * k) := by
      rcases e3 with z | z
      · exact ⟨F3, C3, by rw [z]; exact smp_zero, by rw [z]; decide⟩
      · exact ⟨F3, C3, by rw [z]; exact smp_one, by rw [z]; decide⟩
    have f3' : ∀ y, fS (s + 88 + 25 * k) y → s + 88 + 25 * k ≤ y ∧ y ≤ s + 88 + 25 * k + 4 := fun y q => q
    refine ⟨o3, ih (k + 1) M3 (by omega) o3 (f2.trans (f3.mono (fun y q => by have := f3' y q; omega))) (W2.far f3 (fun y q => by have := f3' y q; omega)) (R7.out2 f3 (fun i y hi q => by have := f3' y q; omega)) (R8.out2 f3 (fun i y hi q => by have := f3' y q; omega)) (R9.put (by omega) f3 F3.ft) ?_ (fun j hj => ?_) (fun j hj => ?_)⟩
    rotate_left 2
    · by_cases z : j = k
      · rw [z, fv_set y1 y2, hv9]
        have z0 : ((0 : Int) : Rat) = 0 := rfl
        have z1 : ((1 : Int) : Rat) = 1 := rfl
        show ((if mI M2 (s + 22) k = 3 then (1 : Int) else 0 : Int) : Rat) * ((1 : Int) : Rat)⁻¹ = (if mI M (s + 22) k = 3 then (1 : Rat) else 0)
        rw [fe (s + 22) (fun q => by have := inF_lo q; omega)]
        split
        · rw [z1]; grind
        · rw [z0, z1]; grind
      · rw [fv_out (hok j (by omega)).1 f3 (fun y q => by have := f3' y q; omega)]
        exact hv j (by omega)
    · unfold h30
      rw [f3.2.2.2.2.2.2 (s + 30) (fun q => by have := f3' _ q; omega)]
      exact hh
    · by_cases z : j = k
      · rw [z]; exact k3
      · exact (hok j (by omega)).out f3 (fun y q => by have := f3' y q; omega)
end WI
