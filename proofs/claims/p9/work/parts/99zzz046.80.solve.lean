section
/-! The solver: rank, solve, judge. -/
def cng (f : Nat → Int) : Nat → Nat
  | 0 => 0
  | n + 1 => cng f n + (if f n < 0 then 1 else 0)
theorem cng_congr {f g : Nat → Int} : ∀ (n : Nat), (∀ j, j < n → f j = g j) → cng f n = cng g n
  | 0, _ => rfl
  | n + 1, h => by rw [cng, cng, cng_congr n (fun j hj => h j (by omega)), h n (by omega)]
theorem cng_set {f g : Nat → Int} {i : Nat} (h0 : f i < 0) (h1 : 0 ≤ g i) (h : ∀ j, j ≠ i → g j = f j) : ∀ (n : Nat), i < n → cng g n + 1 = cng f n
  | 0, hi => by omega
  | n + 1, hi => by
    rw [cng, cng]
    by_cases c : i = n
    · rw [← c, cng_congr i (fun j hj => h j (by omega)), if_neg (by omega), if_pos h0]
    · have := cng_set h0 h1 h n (by omega)
      rw [h n (by omega)]
      omega
theorem cng_le {f : Nat → Int} : ∀ (n : Nat), cng f n ≤ n
  | 0 => Nat.le_refl _
  | n + 1 => by
    have := cng_le (f := f) n
    rw [cng]
    split <;> omega
abbrev raS (s : Nat) : Nat → Prop := fun x => wS s x ∨ x = s + 33 ∨ x = s + 34
def CHo (M : mM) (s n : Nat) : Prop := ∀ k, k < n → 0 < mny M s k → 0 ≤ mI M (s + 33) k ∧ mI M (s + 33) k < mny M s k
def rkI (M : mM) (s n : Nat) (x : Nat → Rat) (M2 : mM) : Prop := mOk M2 ∧ FI (raS s) M M2 ∧ At M2 s n x
section RA
variable {G : mG} {d s n : Nat} {M : mM} {x : Nat → Rat}
theorem rkI.w {M2 M3 : mM} (h : rkI M s n x M2) (o : mOk M3) (f : FI (wS s) M2 M3) (hW : Wk M3 s) : rkI M s n x M3 :=
  ⟨o, h.2.1.trans (f.mono (fun y q => Or.inl q)), h.2.2.wout f hW⟩
theorem rkI.p {M2 M3 : mM} {a : Nat} (h : rkI M s n x M2) (o : mOk M3) (f : FI (fun y => y = a) M2 M3) (ha : a = s + 33 ∨ a = s + 34) : rkI M s n x M3 :=
  ⟨o, h.2.1.trans (f.mono (fun y q => by subst q; rcases ha with z | z <;> subst z <;> omega)), h.2.2.out f (fun y q => by omega) (h.2.2.2.2.2.2.1.far f (fun y q => by omega))⟩
theorem s_rk106 : ∀ (c k : Nat) (M2 : mM), k + c = n → rkI M s n x M2 → (∀ j, j < k → 0 < mny M s j → 0 ≤ mI M2 (s + 33) j ∧ mI M2 (s + 33) j < mny M s j) → h_MS_rank_106 G (d + 7) s k M2 (fun M' => rkI M s n x M' ∧ CHo M' s n) := by
  intro c
  induction c with
  | zero =>
    intro k M2 hk h hc
    have ek : k = n := by omega
    subst ek
    obtain ⟨o2, f2, A2⟩ := id h
    have sg : sameG M M2 s := sameG.of f2 (by omega) (fun y _ _ => by omega)
    have h5 := A2.2.1.2.1
    have hn2 := A2.2.2.2.1
    refine k_MS_rank_106 o2 ⟨by omega, by omega⟩ ?_
    rw [hn2]
    exact ⟨A2.1.k0, fun _ => ⟨h, fun j hj hp => by rw [sg.hm] at hp ⊢; exact hc j hj hp⟩, fun q => by omega⟩
  | succ c ih =>
    intro k M2 hk h hc
    obtain ⟨o2, f2, A2⟩ := id h
    have sg : sameG M M2 s := sameG.of f2 (by omega) (fun y _ _ => by omega)
    have V2 := A2.1
    have h5 := A2.2.1.2.1
    have hn2 := A2.2.2.2.1
    have h3 := A2.2.1.2.2.1
    have hcm := A2.2.1.cmd (i := k) (by omega)
    have hm0 : 0 ≤ mny M2 s k ∧ mny M2 s k ≤ 4200 := by unfold mny; omega
    refine k_MS_rank_106 o2 ⟨by omega, by omega⟩ ?_
    rw [hn2, V2.r15, Int.toNat_natCast]
    refine ⟨V2.k0, fun q => by omega, fun _ => (s_MS_many o2 V2 A2.2.1 (by omega)).mono (fun y M3 h3' => ?_)⟩
    obtain ⟨e3, hy⟩ := h3'
    subst e3
    rw [V2.n33]
    refine ⟨⟨by omega, by omega⟩, o2, fun y0 => ⟨V2.k33, by omega, fun M4 e4 => ?_⟩, fun y0 => ⟨V2.k0, (s_MS_choose (d := d) o2 A2 (by omega)).mono (fun z M4 h4 => ?_)⟩⟩
    · have f4 : FI (fun y => y = s + 33) M3 M4 := by rw [e4]; exact FI.ui rfl
      have o4 : mOk M4 := by rw [e4]; exact mOk_UI o2 ⟨by omega, by omega⟩
      refine ih (k + 1) M4 (by omega) (h.p o4 f4 (Or.inl rfl)) (fun j hj hp => ?_)
      rw [e4, mI_UI]
      by_cases z : j = k
      · subst z
        rw [← sg.hm] at hp
        omega
      · rw [if_neg (fun w => z w.2)]
        exact hc j (by omega) hp
    · obtain ⟨o4, f4, W4, z0, z1⟩ := h4
      have V4 := V2.fi f4
      have h4 := h.w o4 f4 W4
      have z1' := z1 (by omega)
      refine ⟨⟨by omega, by omega⟩, o4, V4.k33, by rw [V4.n33]; omega, fun M5 e5 => ?_⟩
      have f5 : FI (fun y => y = s + 33) M4 M5 := by rw [e5]; exact FI.ui rfl
      have o5 : mOk M5 := by rw [e5]; exact mOk_UI o4 ⟨by omega, by omega⟩
      refine ih (k + 1) M5 (by omega) (h4.p o5 f5 (Or.inl rfl)) (fun j hj hp => ?_)
      rw [e5, mI_UI]
      by_cases z : j = k
      · subst z
        rw [if_pos ⟨rfl, rfl⟩, ← sg.hm]
        omega
      · rw [if_neg (fun w => z w.2), f4.2.2.2.2.2.2 (s + 33) (by omega)]
        exact hc j (by omega) hp
theorem s_rk41 : ∀ (Z : Nat) (l : Int) (M2 : mM), rkI M s n x M2 → cng (mI M2 (s + 34)) n ≤ Z → 1 ≤ l → l + Z ≤ 600 → h_MS_rank_41 G (d + 7) s 1 l M2 (fun M' => rkI M s n x M' ∧ CHo M' s n) := by
  intro Z
  induction Z with
  | zero =>
    intro l M2 h hz l1 l2
    have hnn : ∀ j, j < n → 0 ≤ mI M2 (s + 34) j := by
      have aux : ∀ (n : Nat), cng (mI M2 (s + 34)) n = 0 → ∀ j, j < n → 0 ≤ mI M2 (s + 34) j := by
        intro n
        induction n with
        | zero => intro _ j hj; omega
        | succ n ih =>
          intro hc j hj
          rw [cng] at hc
          by_cases q : j = n
          · subst q
            refine Classical.byContradiction (fun w => ?_)
            rw [if_pos (by omega)] at hc
            omega
          · exact ih (by omega) j (by omega)
      exact aux n (by omega)
    obtain ⟨o2, f2, A2⟩ := id h
    have V2 := A2.1
    have h5 := A2.2.1.2.1
    have hn2 := A2.2.2.2.1
    refine k_MS_rank_41 o2 ⟨by omega, by omega⟩ ⟨by omega, by omega⟩ ⟨fun q => by omega, fun _ => ?_⟩
    suffices H : ∀ (c k : Nat), k + c = n → h_MS_rank_49 G (d + 7) s 0 l k M2 (fun M' => rkI M s n x M' ∧ CHo M' s n) from H n 0 (by omega)
    intro c
    induction c with
    | zero =>
      intro k hk
      refine k_MS_rank_49 o2 ⟨by omega, by omega⟩ ⟨by omega, by omega⟩ ⟨by omega, by omega⟩ ?_
      rw [hn2]
      exact ⟨V2.k0, fun _ => k_MS_rank_41 o2 ⟨by omega, by omega⟩ ⟨by omega, by omega⟩ ⟨fun _ => s_rk106 n 0 M2 (by omega) h (fun j hj => by omega), fun q => absurd rfl q⟩, fun q => by omega⟩
    | succ c ih =>
      intro k hk
      refine k_MS_rank_49 o2 ⟨by omega, by omega⟩ ⟨by omega, by omega⟩ ⟨by omega, by omega⟩ ?_
      rw [hn2, V2.r16, V2.n34, Int.toNat_natCast]
      exact ⟨V2.k0, fun q => by omega, fun _ => ⟨V2.k34, by omega, fun _ => ih (k + 1) (by omega), fun q => absurd (hnn k (by omega)) q⟩⟩
  | succ Z ihZ =>
    intro l M2 h hz l1 l2
    refine k_MS_rank_41 h.1 ⟨by omega, by omega⟩ ⟨by omega, by omega⟩ ⟨fun q => by omega, fun _ => ?_⟩
    suffices H : ∀ (c k : Nat) (f : Int) (M3 : mM), k + c = n → rkI M s n x M3 → ((f = 0 ∧ cng (mI M3 (s + 34)) n ≤ Z + 1) ∨ (f = 1 ∧ cng (mI M3 (s + 34)) n ≤ Z)) → h_MS_rank_49 G (d + 7) s f l k M3 (fun M' => rkI M s n x M' ∧ CHo M' s n) from H n 0 0 M2 (by omega) h (Or.inl ⟨rfl, hz⟩)
    clear h hz M2
    intro c
    induction c with
    | zero =>
      intro k f M3 hk h hf
      have A3 := h.2.2
      have h5 := A3.2.1.2.1
      have hn2 := A3.2.2.2.1
      refine k_MS_rank_49 h.1 ⟨by omega, by omega⟩ ⟨by omega, by omega⟩ ⟨by omega, by omega⟩ ?_
      rw [hn2]
      refine ⟨A3.1.k0, fun _ => ?_, fun q => by omega⟩
      rcases hf with ⟨q1, q2⟩ | ⟨q1, q2⟩
      · subst q1
        exact k_MS_rank_41 h.1 ⟨by omega, by omega⟩ ⟨by omega, by omega⟩ ⟨fun _ => s_rk106 n 0 M3 (by omega) h (fun j hj => by omega), fun q => absurd rfl q⟩
      · subst q1
        exact ihZ (l + 1) M3 h q2 (by omega) (by omega)
    | succ c ih =>
      intro k f M3 hk h hf
      have hf01 : f = 0 ∨ f = 1 := by omega
      obtain ⟨o3, f3, A3⟩ := id h
      have V3 := A3.1
      have h5 := A3.2.1.2.1
      have hn3 := A3.2.2.2.1
      refine k_MS_rank_49 o3 ⟨by omega, by omega⟩ ⟨by omega, by omega⟩ ⟨by omega, by omega⟩ ?_
      rw [hn3, V3.r16, V3.n34, Int.toNat_natCast]
      refine ⟨V3.k0, fun q => by omega, fun _ => ⟨V3.k34, by omega, fun _ => ih (k + 1) f M3 (by omega) h hf, fun q => (s_MS_isUnknown (d := d + 5) o3 A3 (by omega)).mono (fun y M4 h4 => ?_)⟩⟩
      obtain ⟨e4, hy⟩ := h4
      subst e4
      refine ⟨⟨by omega, by omega⟩, o3, fun _ => ih (k + 1) f M4 (by omega) h hf, fun _ => ⟨V3.k0, (s_MS_getsRank (d := d) (l := l) ⟨by omega, by omega⟩ o3 A3 (by omega)).mono (fun z M5 h5' => ?_)⟩⟩
      obtain ⟨o5, f5, W5, hz⟩ := h5'
      have h5'' := h.w o5 f5 W5
      have V5 := V3.fi f5
      have e34 : mI M5 (s + 34) = mI M4 (s + 34) := f5.2.2.2.2.2.2 _ (by omega)
      rw [V5.r16, V5.n34]
      refine ⟨⟨by omega, by omega⟩, o5, fun _ => ⟨V5.k0, V5.k34, by omega⟩, fun v hv M6 e6 => ?_⟩
      by_cases w : z = 0
      · rw [if_pos w] at hv e6
        subst e6 hv
        exact ⟨o5, ih (k + 1) v M6 (by omega) h5'' (by rw [e34]; exact hf)⟩
      · rw [if_neg w] at hv e6
        subst hv
        have f6 : FI (fun y => y = s + 34) M5 M6 := by rw [e6]; exact FI.ui rfl
        have o6 : mOk M6 := by rw [e6]; exact mOk_UI o5 ⟨by omega, by omega⟩
        refine ⟨o6, ih (k + 1) 1 M6 (by omega) (h5''.p o6 f6 (Or.inr rfl)) (Or.inr ⟨rfl, ?_⟩)⟩
        have a := cng_set (f := mI M4 (s + 34)) (g := mI M6 (s + 34)) (i := k) (by omega) (by rw [e6, mI_UI, if_pos ⟨rfl, rfl⟩]; omega) (fun j hj => by rw [e6, mI_UI, if_neg (fun w => hj w.2), e34]) n (by omega)
        omega
theorem s_MS_rank (hO : mOk M) (hA : At M s n x) : Cv G y_MS_rank (d + 8) [vr s] M (fun M' => rkI M s n x M' ∧ CHo M' s n) := by
  have h5 := hA.2.1.2.1
  have hn := hA.2.2.2.1
  refine k_MS_rank hO ?_
  suffices H : ∀ (c k : Nat) (M2 : mM), k + c = n → rkI M s n x M2 → h_MS_rank_2 G (d + 7) s k M2 (fun M' => rkI M s n x M' ∧ CHo M' s n) from H n 0 M (by omega) ⟨hO, FI.refl, hA⟩
  intro c
  induction c with
  | zero =>
    intro k M2 hk h
    have A2 := h.2.2
    have hn2 := A2.2.2.2.1
    refine k_MS_rank_2 h.1 ⟨by omega, by omega⟩ ?_
    rw [hn2]
    have := cng_le (f := mI M2 (s + 34)) n
    exact ⟨A2.1.k0, fun _ => s_rk41 n 1 M2 h this (by omega) (by omega), fun q => by omega⟩
  | succ c ih =>
    intro k M2 hk h
    have A2 := h.2.2
    have V2 := A2.1
    have hn2 := A2.2.2.2.1
    refine k_MS_rank_2 h.1 ⟨by omega, by omega⟩ ?_
    rw [hn2, V2.r4, V2.r16, V2.n22, V2.n34, Int.toNat_natCast]
    refine ⟨V2.k0, fun q => by omega, fun _ => ⟨V2.k22, by omega, fun v hv => ⟨V2.k34, by omega, fun M3 e3 => ?_⟩⟩⟩
    have f3 : FI (fun y => y = s + 34) M2 M3 := by rw [e3]; exact FI.ui rfl
    have o3 : mOk M3 := by rw [e3]; exact mOk_UI h.1 ⟨by split at hv <;> omega, by split at hv <;> omega⟩
    exact ih (k + 1) M3 (by omega) (h.p o3 f3 (Or.inr rfl))
end RA
end
section
/-! The solver at rest; solve and judge. -/
abbrev eL (e : Nat) : Prop := e = 68 ∨ e = 73 ∨ e = 78 ∨ e = 83 ∨ e = 88
/-- the values told are there -/
def Hs (M : mM) (s n w : Nat) : Prop := (mI M (s + 30) w = 0 ∨ mI M (s + 30) w = 1) ∧ (mI M (s + 30) w = 1 → ∃ x : Nat → Rat, Xt M s (68 + 5 * w) n x ∧ ∀ k, k < n → Smp 21 (x k) ∧ 0 ≤ x k)
def Sv (M : mM) (s n : Nat) : Prop := Vk M s ∧ GW M s ∧ GB M s ∧ mI M s 1 = n ∧ TW M s ∧ Wk M s ∧ Ct M s ∧ (∀ e, eL e → Rm M s e) ∧ (∀ w, w < 3 → Hs M s n w) ∧ (mI M (s + 30) 0 = 1 → CHo M s n)
abbrev vF (s : Nat) : Nat → Prop := fun y => s ≤ y ∧ y ≤ s + 21067
/-- all its cells but the game's tables -/
abbrev vH (s : Nat) : Nat → Prop := fun y => s ≤ y ∧ y ≤ s + 21067 ∧ (y < s + 22 ∨ s + 28 < y)
/-- and whether values are there -/
abbrev vK (s : Nat) : Nat → Prop := fun y => s ≤ y ∧ y ≤ s + 21067 ∧ (y < s + 22 ∨ s + 28 < y) ∧ y ≠ s + 30
theorem fi_vk {M M' : mM} {s : Nat} (f : FI (vK s) M M') : FI (vH s) M M' ∧ mI M' (s + 30) 0 = mI M (s + 30) 0 := ⟨f.mono (fun y q => ⟨q.1, q.2.1, q.2.2.1⟩), by rw [f.2.2.2.2.2.2 (s + 30) (fun q => q.2.2.2 rfl)]⟩
theorem kS_far {s w e i y : Nat} (hw : w < 3) (he : eL e) (hne : e ≠ 68 + 5 * w) (h8 : e ≠ 88) (hi : i < 512) (q : kS s w y) : y < s + e + 25 * i ∨ s + e + 25 * i + 4 < y := by
  have hw' : w = 0 ∨ w = 1 ∨ w = 2 := by omega
  rcases hw' with z | z | z <;> subst z <;> rcases he with z | z | z | z | z <;> subst z <;> first | omega | exact absurd rfl hne | exact absurd rfl h8
theorem kS_vH {s w y : Nat} (hw : w < 3) (q : kS s w y) : vH s y := by
  have hw' : w = 0 ∨ w = 1 ∨ w = 2 := by omega
  rcases hw' with z | z | z <;> subst z <;> omega
theorem TW.out {M M' : mM} {s : Nat} (h : TW M s) (g : sameG M M' s) (e : mI M' (s + 32) = mI M (s + 32)) : TW M' s := by
  unfold TW at h ⊢
  rw [g.1, g.hm, e]
  exact h
theorem CHo.out {M M' : mM} {s n : Nat} (h : CHo M s n) (g : sameG M M' s) (e : mI M' (s + 33) = mI M (s + 33)) : CHo M' s n := by
  unfold CHo at h ⊢
  rw [g.hm, e]
  exact h
section SV
variable {G : mG} {d s n : Nat} {M : mM} {F : Int}
theorem Sv.n5 (h : Sv M s n) : n ≤ 512 := by
  have := h.2.1.2.1
  have := h.2.2.2.1
  omega
/-- after work, all but the choices -/
theorem wk_sv {M' : mM} {w : Nat} {r : Int} (hw : w < 3) (h : Sv M s n) (k : wkQ M s n w r M') : Vk M' s ∧ GW M' s ∧ GB M' s ∧ mI M' s 1 = n ∧ TW M' s ∧ Wk M' s ∧ Ct M' s ∧ (∀ e, eL e → Rm M' s e) ∧ (∀ w, w < 3 → Hs M' s n w) ∧ (CHo M s n → CHo M' s n) := by
  have hn5 := h.n5
  obtain ⟨V, g, c, e, t, W, T, R, H, -⟩ := h
  obtain ⟨o', f', k1, W', T', R8, Rw, k30, kr⟩ := k
  have fe := f'.2.2.2.2.2.2
  have sg : sameG M M' s := ⟨k1 1 (by omega) (by omega), k1 2 (by omega) (by omega), k1 3 (by omega) (by omega), fun y a b => fe y (fun q => by rcases q with q | q | q; omega; omega; have := q.1; omega)⟩
  have low : ∀ y, s + 31 ≤ y → y ≤ s + 34 → mI M' y = mI M y := fun y a b => fe y (fun q => by rcases q with q | q | q; omega; omega; have := q.1; omega)
  refine ⟨V.fi f', sg.gw g, sg.gb c, by rw [sg.1]; exact e, t.out sg (low _ (by omega) (by omega)), W', T', fun e he => ?_, fun w' hw' => ?_, fun hc => hc.out sg (low _ (by omega) (by omega))⟩
  · by_cases z : e = 88
    · rw [z]; exact R8
    · by_cases z2 : e = 68 + 5 * w
      · rw [z2]; exact Rw
      · exact (R e he).out2 f' (fun i y hi q => kS_far hw he z2 z hi q)
  · by_cases z : w' = w
    · subst z
      rcases kr with ⟨r0, r1, x, X, v, -⟩ | ⟨r0, r1⟩
      · exact ⟨Or.inr r1, fun _ => ⟨x, X, v⟩⟩
      · exact ⟨Or.inl r1, fun q => by omega⟩
    · obtain ⟨a1, a2⟩ := H w' hw'
      unfold Hs
      rw [k30 w' z]
      refine ⟨a1, fun q => ?_⟩
      obtain ⟨x, X, v⟩ := a2 q
      exact ⟨x, X.out2 f' (fun i y hi q => kS_far hw (by omega) (by omega) (by omega) (by omega) q), v⟩
theorem s_MS_judge {q : Int} (hF : Fall F) (hq : q = 1 ∨ q = 2) (hO : mOk M) (h : Sv M s n) : Ci G y_MS_judge (d + 10) [vr s, vi q] M (fun r M' => (mOk M' ∧ FI (vH s) M M' ∧ Sv M' s n ∧ (r = 0 ∨ r = 5 ∨ r = 6)) ∧ mI M' (s + 30) 0 = mI M (s + 30) 0) := by
  obtain ⟨V, g, c, e, t, W, T, R, H, hc⟩ := id h
  refine k_MS_judge hO ⟨by omega, by omega⟩ ⟨V.k0, (s_MS_work (d := d) (w := 2) hF (by omega) (Or.inr rfl) hO V g c e t W T (R 88 (by omega)) (R 78 (by omega)) (P := fun _ => True) (fun _ _ _ _ _ _ _ _ _ => trivial)).mono (fun r M' k => ?_)⟩
  replace k := k.1
  have a := wk_sv (by omega) h k
  have hr : r = 0 ∨ r = 5 ∨ r = 6 := by
    rcases k.2.2.2.2.2.2.2.2 with z | z
    · exact Or.inl z.1
    · exact Or.inr z.1
  have e30 := k.2.2.2.2.2.2.2.1 0 (by omega)
  obtain ⟨a1, a2, a3, a4, a5, a6, a7, a8, a9, a10⟩ := a
  exact ⟨⟨by omega, by omega⟩, k.1, ⟨k.1, k.2.1.mono (fun y q => kS_vH (by omega) q), ⟨a1, a2, a3, a4, a5, a6, a7, a8, a9, fun q => a10 (hc (by rw [← e30]; exact q))⟩, hr⟩, e30⟩
theorem s_MS_solve (hF : Fall F) (hO : mOk M) (h : Sv M s n) : Ci G y_MS_solve (d + 10) [vr s] M (fun r M' => (mOk M' ∧ FI (vH s) M M' ∧ Sv M' s n ∧ (r = 0 ∨ r = 5 ∨ r = 6)) ∧ (∀ T : xt9, SvT M s T → kdT T → svA9 T r) ∧ mI M' (s + 30) 0 = if r = 0 then 1 else 0) := by
  have hn5 := h.n5
  obtain ⟨V, g, c, e, t, W, T, R, H, hc⟩ := id h
  refine k_MS_solve hO ⟨V.k0, (s_MS_work (d := d) (w := 0) hF (by omega) (Or.inl rfl) hO V g c e t W T (R 88 (by omega)) (R 68 (by omega)) (P := fun r => ∀ T : xt9, SvT M s T → kdT T → svA9 T r) (fun M3 M8 y h1 h2 h3 h4 h5 h6 T hT hk => ref_sv (M := M3) (hT.sv (h3 1 (by decide)) (fun i a b => h4 _ (by omega) (by omega))) h1 h2 (fun k x hx e => ((hk x (List.mem_of_getElem? hx)).resolve_left (by rw [e]; decide)).resolve_left (by rw [e]; decide)) h5 h6)).mono (fun r M' k => ?_)⟩
  have pT := k.2
  replace k := k.1
  have a := wk_sv (by omega) h k
  obtain ⟨a1, a2, a3, a4, a5, a6, a7, a8, a9, a10⟩ := a
  obtain ⟨k1, k2, -, -, -, -, -, -, kr⟩ := k
  have kv : FI (vH s) M M' := k2.mono (fun y q => kS_vH (by omega) q)
  rcases kr with ⟨r0, r1, x, X, v, -⟩ | ⟨r0, r1⟩
  · subst r0
    refine ⟨⟨by omega, by omega⟩, k1, fun _ => ⟨a1.k0, (s_MS_rank (d := d + 1) k1 (x := x) ⟨a1, a2, a3, a4, a6, X, fun k hk => ⟨(v k hk).2, (smp_b (v k hk).1).1⟩⟩).mono (fun M2 h2 => ?_)⟩, fun q => absurd rfl q⟩
    obtain ⟨⟨o2, f2, A2⟩, c2⟩ := h2
    obtain ⟨b1, b2, b3, b4, b5, b6, b7⟩ := A2
    have sg : sameG M' M2 s := sameG.of f2 (by omega) (fun y _ _ => by omega)
    have fe := f2.2.2.2.2.2.2
    refine ⟨o2, ⟨o2, kv.trans (f2.mono (fun y q => by omega)), ⟨b1, b2, b3, b4, a5.out sg (fe _ (by omega)), b5, a7.out f2 (fun y q => by omega), fun e he => (a8 e he).out f2 (fun y q => by omega), fun w hw => ?_, fun _ => c2⟩, Or.inl rfl⟩, pT, by rw [if_pos rfl, fe (s + 30) (by omega)]; exact r1⟩
    obtain ⟨z1, z2⟩ := a9 w hw
    unfold Hs
    rw [fe (s + 30) (by omega)]
    refine ⟨z1, fun q => ?_⟩
    obtain ⟨x', X', v'⟩ := z2 q
    exact ⟨x', X'.out f2 (fun y q => by omega), v'⟩
  · exact ⟨⟨by omega, by omega⟩, k1, fun q => by omega, fun _ => ⟨⟨k1, kv, ⟨a1, a2, a3, a4, a5, a6, a7, a8, a9, fun q => by omega⟩, Or.inr r0⟩, pT, by rw [if_neg (by omega)]; exact r1⟩⟩
end SV
end
section
/-! The reference's solver: WITHIN by its tables. -/
section MVX
variable {M M' : mM} {s n k f r i : Nat} {x x' : Nat → Rat}
/-- a state's best number after i commands -/
noncomputable def bq9 (M : mM) (s k : Nat) (x : Nat → Rat) : Nat → Rat
  | 0 => if mI M (s + 22) k = 3 then 1 else 0
  | i + 1 => bst9 (mI M (s + 22) k = 1) (fun j => cw M s (cx M s k j) x) i
noncomputable def wiR (M : mM) (s : Nat) : Nat → Nat → Rat
  | 0 => fun k => if mI M (s + 22) k = 3 then 1 else 0
  | m + 1 => fun k => bq9 M s k (wiR M s m) (mny M s k).toNat
/-- one more command -/
theorem bq_s (hi : i ≠ 0) : bq9 M s k x (i + 1) = @ite Rat ((mI M (s + 22) k = 1 ∧ bq9 M s k x i < cw M s (cx M s k i) x) ∨ (¬ mI M (s + 22) k = 1 ∧ cw M s (cx M s k i) x < bq9 M s k x i)) (Classical.propDecidable _) (cw M s (cx M s k i) x) (bq9 M s k x i) := by
  cases i with
  | zero => exact absurd rfl hi
  | succ j => rfl
theorem bq_cg (sg : sameG M M' s) (hG : GW M s) (hn : mI M s 1 = n) (hk : k < n) (h : ∀ t, t < n → x t = x' t) : ∀ i, i ≤ (mny M s k).toNat → bq9 M' s k x i = bq9 M s k x' i
  | 0, _ => by
    show (if mI M' (s + 22) k = 3 then (1 : Rat) else 0) = (if mI M (s + 22) k = 3 then 1 else 0)
    rw [sg.2.2.2 (s + 22) (by omega) (by omega)]
  | i + 1, hi => by
    show bst9 (mI M' (s + 22) k = 1) (fun j => cw M' s (cx M' s k j) x) i = bst9 (mI M (s + 22) k = 1) (fun j => cw M s (cx M s k j) x') i
    rw [sg.2.2.2 (s + 22) (by omega) (by omega), sg.hw, sg.hx]
    refine bst_cg i (fun j hj => ?_)
    have lt := cx_lt hG (k := k) (i := j) (by omega) (by omega)
    exact cw_congr (fun b hb => h _ (by have := tg_lt hG lt hb; omega))
theorem ftv (F : Fq M f r) (p : 0 ≤ fv M f) (h1 : wv M (f + 1) < 2 ^ 480) (h2 : wv M (f + 3) < 2 ^ 480) : ft9 (fv M f) := by
  have e := fv_sd F
  rw [fv_wv F p] at e
  exact ⟨wv M (f + 1), wv M (f + 3), ⟨F.2.1.nonneg, F.2.2.2.2⟩, ⟨h1, h2⟩, e⟩
theorem nftv (F : Fq M f r) (C : Fc M f) (p : 0 ≤ fv M f) (h : 2 ^ 480 ≤ wv M (f + 1) ∨ 2 ^ 480 ≤ wv M (f + 3)) : ¬ ft9 (fv M f) := by
  have e := fv_sd F
  have a0 := F.2.1.nonneg
  have b0 : 0 < wv M (f + 3) := F.2.2.2.2
  rw [fv_wv F p] at e
  refine nft_of e a0 b0 ?_ h
  have c := C.1
  have e3 : xn M (f + 1) = (wv M (f + 1)).natAbs := by
    unfold xn
    omega
  have e4 : xn M (f + 3) = (wv M (f + 3)).natAbs := by
    unfold xn
    omega
  rw [e3, e4] at c
  exact c
theorem rat3 {p q : Rat} : (p < q → ¬ q < p) ∧ (¬ p < q → ¬ p = q → q < p) := by
  constructor
  · intro h
    grind
  · intro h h'
    grind
/-- what comparing tells -/
theorem cmp_u {a b ra rb : Nat} {u : Int} (hA : Fq M a ra) (hB : Fq M b rb) (ha : 0 ≤ fv M a) (hb : 0 ≤ fv M b) (hu : u = if wv M (a + 1) * wv M (b + 3) < wv M (b + 1) * wv M (a + 3) then -1 else if wv M (a + 1) * wv M (b + 3) = wv M (b + 1) * wv M (a + 3) then 0 else 1) : (0 < u ↔ fv M b < fv M a) ∧ (u < 0 ↔ fv M a < fv M b) := by
  obtain ⟨c1, c2⟩ := fv_cmp hA hB ha hb
  by_cases y : fv M a < fv M b
  · rw [if_pos (c1.2 y)] at hu
    exact ⟨⟨fun w => by omega, fun w => absurd w (rat3.1 y)⟩, fun _ => y, fun _ => by omega⟩
  · rw [if_neg (fun w => y (c1.1 w))] at hu
    by_cases z : fv M a = fv M b
    · rw [if_pos (c2.2 z)] at hu
      exact ⟨⟨fun w => by omega, fun w => absurd w (by rw [z]; exact Rat.lt_irrefl)⟩, fun w => by omega, fun w => absurd w y⟩
    · rw [if_neg (fun w => z (c2.1 w))] at hu
      exact ⟨⟨fun _ => rat3.2 y z, fun _ => by omega⟩, fun w => by omega, fun w => absurd w y⟩
end MVX
section MVY
variable {M : mM} {s n : Nat} {T : xt9}
/-- 0 and 1 fit -/
theorem ft_01 {p : Prop} {dp : Decidable p} : ∀ (_ : p ∨ ¬ p), ft9 (if p then 1 else 0) := fun _ => by
  split
  · exact ⟨1, 1, ⟨by decide, by decide⟩, ⟨by decide, by decide⟩, by have z1 : ((1 : Int) : Rat) = 1 := rfl; rw [z1]; grind⟩
  · exact ⟨0, 1, ⟨by decide, by decide⟩, ⟨by decide, by decide⟩, by have z0 : ((0 : Int) : Rat) = 0 := rfl; rw [z0]; grind⟩
/-- WITHIN by the solver's tables is that of what was explored -/
theorem ref_wi (hS : SvT M s T) : ∀ (m k : Nat), k < T.length → wiR M s m k = wi9 T m k
  | 0, k, hk => by
    have hx := List.getElem?_eq_getElem (l := T) (i := k) hk
    obtain ⟨a1, -⟩ := hS.2 k _ hx
    show (if mI M (s + 22) k = 3 then (1 : Rat) else 0) = ((T[k]?).map (fun y => if y.1 = 3 then (1 : Rat) else 0)).getD 0
    rw [hx, a1]
    all_goals rfl
  | m + 1, k, hk => by
    have hx := List.getElem?_eq_getElem (l := T) (i := k) hk
    obtain ⟨a1, a2, a3⟩ := hS.2 k _ hx
    show bq9 M s k (wiR M s m) (mny M s k).toNat = ((T[k]?).map (fun y => stv9 (wi9 T m) y)).getD 0
    rw [hx, a2, Int.toNat_natCast]
    show bq9 M s k (wiR M s m) (T[k]).2.length = stv9 (wi9 T m) T[k]
    generalize T[k] = y at *
    unfold stv9
    generalize hl : y.2.length = l at *
    cases l with
    | zero =>
      show (if mI M (s + 22) k = 3 then (1 : Rat) else 0) = (if y.1 = 3 then (1 : Rat) else 0)
      rw [a1]
    | succ j =>
      show bst9 (mI M (s + 22) k = 1) (fun i => cw M s (cx M s k i) (wiR M s m)) j = bst9 (y.1 = 1) (fun i => wr9 (wi9 T m) (cq0 y i)) j
      rw [a1]
      refine bst_cg j (fun i hi => ?_)
      have hc := List.getElem?_eq_getElem (l := y.2) (i := i) (by omega)
      obtain ⟨-, -, b1, b2⟩ := a3 i _ hc
      rw [b2, cq0_of hc]
      exact wr_cg (fun b hb => ref_wi hS m b.1 (b1 b hb))
end MVY
end
section
/-! The solver: move and within. -/
theorem p480e : (2 : Int) ^ 480 = 16777216 ^ 20 := by decide
def Bt (M : mM) (s n : Nat) (x : Nat → Rat) : Prop := Vk M s ∧ GW M s ∧ GB M s ∧ mI M s 1 = n ∧ Wk M s ∧ Xt M s 88 n x ∧ ∀ k, k < n → Smp 21 (x k) ∧ 0 ≤ x k
abbrev bmS (s : Nat) : Nat → Prop := fun y => wS s y ∨ (s + 62 ≤ y ∧ y ≤ s + 66)
theorem Bt.out {M M' : mM} {s n : Nat} {x : Nat → Rat} (h : Bt M s n x) (f : FI (bmS s) M M') (hW : Wk M' s) : Bt M' s n x := by
  obtain ⟨V, g, c, e, -, X, b⟩ := h
  have G : sameG M M' s := sameG.of f (by omega) (fun y _ _ => by omega)
  exact ⟨V.fi f, G.gw g, G.gb c, by rw [G.1]; exact e, hW, X.out f (fun y q => by omega), b⟩
/-- the best so far -/
def bsI (M : mM) (s : Nat) (M2 : mM) : Prop := mOk M2 ∧ FI (bmS s) M M2 ∧ Wk M2 s ∧ Fq M2 (s + 62) 900 ∧ Fc M2 (s + 62) ∧ 0 ≤ fv M2 (s + 62) ∧ Smp 185 (fv M2 (s + 62))
abbrev nxS (s k : Nat) : Nat → Prop := fun y => bmS s y ∨ fS (s + 83 + 25 * k) y
/-- a fraction that may stay -/
def okF (M : mM) (f : Nat) : Prop := Fq M f 56 ∧ Fc M f ∧ Smp 21 (fv M f) ∧ 0 ≤ fv M f
def mvQ (M : mM) (s k : Nat) (x : Nat → Rat) (r : Int) (M' : mM) : Prop := mOk M' ∧ FI (nxS s k) M M' ∧ Wk M' s ∧ ((r = 0 ∧ FI (bmS s) M M' ∧ ¬ ft9 (bq9 M s k x (mny M s k).toNat)) ∨ (r = 1 ∧ okF M' (s + 83 + 25 * k) ∧ fv M' (s + 83 + 25 * k) = bq9 M s k x (mny M s k).toNat ∧ ft9 (bq9 M s k x (mny M s k).toNat)))
section MV
variable {G : mG} {d s n : Nat} {M : mM} {x : Nat → Rat}
theorem bs_fit {M2 : mM} {y z : Int} (h : bsI M s M2) (h1 : wv M2 (s + 62 + 1) < 2 ^ y.toNat) (h2 : wv M2 (s + 62 + 3) < 2 ^ z.toNat) (hy : y ≤ 480) (hz : z ≤ 480) : mI M2 (s + 62 + 1) 1 ≤ 56 ∧ mI M2 (s + 62 + 3) 1 ≤ 56 ∧ Smp 21 (fv M2 (s + 62)) := by
  obtain ⟨-, -, -, F, C, p, q⟩ := h
  have a1 : (2 : Int) ^ y.toNat ≤ 2 ^ 480 := two_pow_le (by omega)
  have a2 : (2 : Int) ^ z.toNat ≤ 2 ^ 480 := two_pow_le (by omega)
  rw [p480e] at a1 a2
  have b1 := F.2.1.size (k := 20) (Int.lt_of_lt_of_le h1 a1)
  have b2 := F.2.2.1.size (k := 20) (Int.lt_of_lt_of_le h2 a2)
  refine ⟨by omega, by omega, sd M2 (s + 62), sn M2 (s + 62), F.2.2.2.2, ?_, fv_sd F, (smp_b q).1, (smp_b q).2⟩
  exact Int.lt_of_lt_of_le (Int.lt_of_lt_of_le h2 a2) (pow_mono (by omega))
theorem s_MS_move {k : Nat} (hO : mOk M) (hB : Bt M s n x) (hk : k < n) (hR : Rm M s 83) : Ci G y_MS_move (d + 6) [vr s, vi k] M (mvQ M s k x) := by
  have hB0 := hB
  obtain ⟨hV, hG, hC, hn, hW, hX, h01⟩ := hB
  have h2 := hG.2.1
  have h3 := hG.2.2.1
  have hc := hG.cmd (i := k) (by omega)
  have hm0 : 0 ≤ mny M s k ∧ mny M s k ≤ 4200 := by unfold mny; omega
  have h01' : ∀ t, t < n → 0 ≤ x t ∧ x t ≤ 1 := fun t ht => ⟨(h01 t ht).2, (smp_b (h01 t ht).1).1⟩
  have hxs : ∀ t, t < n → Smp 21 (x t) := fun t ht => (h01 t ht).1
  refine k_MS_move hO ⟨by omega, by omega⟩ ?_
  rw [hV.r4, hV.n22, hV.r30]
  refine ⟨hV.k0, hV.k22, by omega, fun v hv => ⟨hW.2.2.2.2.2.1.1, (s_MF_set ⟨by split at hv <;> omega, by split at hv <;> omega⟩ (by split at hv <;> omega) ⟨by omega, by omega⟩ (by omega) hO hW.2.2.2.2.2 (by omega)).mono (fun M1 h1 => ?_)⟩⟩
  obtain ⟨o1, f1, F1, y1, y2, y3⟩ := h1
  have hv01 : v = 0 ∨ v = 1 := by split at hv <;> omega
  have C1 := fc_one F1 y2 (fun q => y3 (by omega))
  have e1 : fv M1 (s + 62) = 0 ∨ fv M1 (s + 62) = 1 := by
    rw [fv_set y1 y2]
    have z0 : ((0 : Int) : Rat) = 0 := rfl
    have z1 : ((1 : Int) : Rat) = 1 := rfl
    rcases hv01 with z | z
    · left; rw [z, z0]; grind
    · right; rw [z, z1]; grind
  have b0 : fv M1 (s + 62) = bq9 M s k x 0 := by
    have z0 : ((0 : Int) : Rat) = 0 := rfl
    have z1 : ((1 : Int) : Rat) = 1 := rfl
    show fv M1 (s + 62) = (if mI M (s + 22) k = 3 then (1 : Rat) else 0)
    rw [fv_set y1 y2, hv]
    split
    · rw [z1]; grind
    · rw [z0, z1]; grind
  refine ⟨o1, ?_⟩
  suffices H : ∀ (c i : Nat) (M2 : mM), i + c = (mny M s k).toNat → bsI M s M2 → fv M2 (s + 62) = bq9 M s k x i → h_MS_move_25 G (d + 5) s k i M2 (mvQ M s k x) by
    refine H (mny M s k).toNat 0 M1 (by omega) ⟨o1, f1.mono (fun y q => by have : s + 62 ≤ y ∧ y ≤ s + 62 + 4 := q; omega), hW.put f1 F1.ft (by omega), F1, C1, ?_, ?_⟩ b0
    · rcases e1 with z | z <;> rw [z] <;> decide
    · rcases e1 with z | z <;> rw [z]
      · exact ⟨1, 0, by omega, by decide, by grind, by grind, by grind⟩
      · exact ⟨1, 1, by omega, by decide, by grind, by grind, by grind⟩
  clear b0 e1 C1 y3 y2 y1 F1 f1 o1 M1
  intro c
  induction c with
  | zero =>
    intro i M2 hi h hb
    obtain ⟨o2, f2, W2, F2, C2, p2, q2⟩ := id h
    obtain ⟨V2, G2, -, n2, -⟩ := hB0.out f2 W2
    have sg : sameG M M2 s := sameG.of f2 (by omega) (fun y _ _ => by omega)
    have ei : i = (mny M s k).toNat := by omega
    rw [ei] at hb
    have h141 : ¬ ft9 (fv M2 (s + 62)) → h_MS_move_141 G (d + 5) s k 0 M2 (mvQ M s k x) := fun nf =>
      k_MS_move_141 o2 ⟨by omega, by omega⟩ ⟨by omega, by omega⟩ ⟨fun _ => ⟨Or.inl rfl, o2, f2.mono (fun y q => Or.inl q), W2, Or.inl ⟨rfl, f2, by rw [← hb]; exact nf⟩⟩, fun q => absurd rfl q⟩
    refine k_MS_move_25 o2 ⟨by omega, by omega⟩ ⟨by omega, by omega⟩ ⟨V2.k0, (s_MS_many o2 V2 G2 (by omega)).mono (fun y M3 h3' => ?_)⟩
    obtain ⟨e3, hy⟩ := h3'
    subst e3
    rw [sg.hm] at hy
    rw [V2.r30, F2.1.2.1]
    refine ⟨⟨by omega, by omega⟩, o2, fun _ => ⟨V2.k0, F2.1.1, F2.2.1.1.1, (s_MW_places o2 F2.2.1).mono (fun u M4 h4 => ?_)⟩, fun q => by omega⟩
    obtain ⟨e4, u1, u2, u3, u4⟩ := h4
    subst e4
    rw [V2.r30, F2.1.2.2]
    refine ⟨⟨by omega, by omega⟩, o2, fun hu => h141 (nftv F2 C2 p2 (Or.inl (Int.le_trans (two_pow_le (by omega)) (u4 (by omega))))), fun hu => ⟨V2.k0, F2.1.1, F2.2.2.1.1.1, (s_MW_places o2 F2.2.2.1).mono (fun z M5 h5 => ?_)⟩⟩
    obtain ⟨e5, z1, z2, z3, z4⟩ := h5
    subst e5
    refine ⟨⟨by omega, by omega⟩, o2, fun hz => h141 (nftv F2 C2 p2 (Or.inr (Int.le_trans (two_pow_le (by omega)) (z4 (by omega))))), fun hz => ?_⟩
    have fit := ftv F2 p2 (Int.lt_of_lt_of_le u3 (two_pow_le (by omega))) (Int.lt_of_lt_of_le z3 (two_pow_le (by omega)))
    rw [hb] at fit
    have hfit := bs_fit h u3 z3 (by omega) (by omega)
    have rk : Ft M5 (s + 83 + 25 * k) 56 := (hR k (by omega)).out f2 (fun y q => by omega)
    refine k_MS_move_141 o2 ⟨by omega, by omega⟩ ⟨by omega, by omega⟩ ⟨fun q => by omega, fun _ => ?_⟩
    rw [V2.r13, V2.n31, V2.r30, Int.toNat_natCast, V2.f31 k (by omega)]
    refine ⟨V2.k0, V2.k31, by omega, rk.1.1, (s_MF_copy o2 rk F2 (by omega) hfit.1 hfit.2.1).mono (fun M6 h6 => ?_)⟩
    obtain ⟨o6, f6, F6, w4, w5, w6⟩ := h6
    have C6 := fc_copy C2 w4 w5 w6
    exact ⟨o6, Or.inr rfl, o6, (f2.mono (fun y q => Or.inl q)).trans (f6.mono (fun y q => Or.inr q)), W2.far f6 (fun y q => by have : s + 83 + 25 * k ≤ y ∧ y ≤ s + 83 + 25 * k + 4 := q; omega), Or.inr ⟨rfl, ⟨F6, C6.1, by rw [C6.2]; exact hfit.2.2, by rw [C6.2]; exact p2⟩, by rw [C6.2]; exact hb, fit⟩⟩
  | succ c ih =>
    intro i M2 hi h hb
    obtain ⟨o2, f2, W2, F2, C2, p2, q2⟩ := id h
    have B2 := hB0.out f2 W2
    obtain ⟨V2, G2, C2', n2, -, X2, -⟩ := id B2
    have sg : sameG M M2 s := sameG.of f2 (by omega) (fun y _ _ => by omega)
    have him : (i : Int) < mny M2 s k := by rw [sg.hm]; omega
    refine k_MS_move_25 o2 ⟨by omega, by omega⟩ ⟨by omega, by omega⟩ ⟨V2.k0, (s_MS_many o2 V2 G2 (by omega)).mono (fun y M3 h3' => ?_)⟩
    obtain ⟨e3, hy⟩ := h3'
    subst e3
    rw [sg.hm] at hy
    rw [V2.r21]
    refine ⟨⟨by omega, by omega⟩, o2, fun q => by omega, fun _ => ⟨V2.k0, (s_worthG (d := d) (n := n) (p := 21) (by omega) hxs (Or.inl ⟨rfl, rfl, rfl⟩) o2 V2 G2 C2' n2 (by omega) him W2 X2 h01').mono (fun M4 h4 => ?_)⟩⟩
    obtain ⟨o4, f4, W4, F4, C4, v4, s4⟩ := h4
    have V4 := V2.fi f4
    have hcx := cx_lt G2 (k := k) (i := i) (by omega) him
    have hw0 : 0 ≤ cw M3 s (cx M3 s k i) x := by
      have a := cw_le C2' hcx (f := fun _ => 0) (g := x) (fun b hb => (h01' _ (by have := tg_lt G2 hcx hb; omega)).1)
      rw [cw_const C2' hcx] at a
      exact a
    have b4 := F2.out f4 (fun y q => by omega)
    have c4 := C2.out F2 f4 (fun y q => by omega)
    have e4 := fv_out F2 f4 (fun y q => by omega)
    have sz1 := smp_size F4 C4 (k := 185) (by rw [v4]; exact s4)
    have sz2 := smp_size b4.1 c4 (k := 185) (by rw [e4]; exact q2)
    rw [V4.r0, V4.r28, V4.r30]
    refine ⟨o4, V4.k0, W4.1.1.1, (s_MU_compare (d := d + 3) o4 W4.1 F4 b4.1 (by unfold suO; omega) (by unfold suO; omega) (by omega) (by omega)).mono (fun u M5 h5 => ?_)⟩
    obtain ⟨o5, f5, Z5, hcv⟩ := h5
    have hc3 : u = -1 ∨ u = 0 ∨ u = 1 := by split at hcv <;> (try split at hcv) <;> omega
    have V5 := V4.fi f5
    have W5 : Wk M5 s := W4.out f5 Z5 (fun y q => by omega)
    have b5 := b4.1.out f5 (fun y q => by omega)
    have c5 := c4.out b4.1 f5 (fun y q => by omega)
    have e5 := fv_out b4.1 f5 (fun y q => by omega)
    have F5 := F4.out f5 (fun y q => by omega)
    have C5 := C4.out F4 f5 (fun y q => by omega)
    have v5 := fv_out F4 f5 (fun y q => by omega)
    have f25 : FI (bmS s) M M5 := (f2.trans (f4.mono (fun y q => Or.inl q))).trans (f5.mono (fun y q => by omega))
    have eW : fv M4 (s + 52) = cw M s (cx M s k i) x := by rw [v4, sg.hw, sg.hx]
    have eB : fv M4 (s + 62) = bq9 M s k x i := by rw [e4]; exact hb
    have cu := cmp_u F4 b4.1 (by rw [v4]; exact hw0) (by rw [e4]; exact p2) hcv
    rw [eW, eB] at cu
    have hI5 : bsI M s M5 := ⟨o5, f25, W5, b5.1, c5, by rw [e5, e4]; exact p2, by rw [e5, e4]; exact q2⟩
    have hnext : ∀ M6, bsI M s M6 → fv M6 (s + 62) = bq9 M s k x (i + 1) → h_MS_move_98 G (d + 5) s k i M6 (mvQ M s k x) := fun M6 h6 hb6 =>
      k_MS_move_98 h6.1 ⟨by omega, by omega⟩ ⟨by omega, by omega⟩ (ih (i + 1) M6 (by omega) h6 hb6)
    have sz3 := smp_size F5.1 C5 (k := 185) (by rw [v5, v4]; exact s4)
    have hcopy : bq9 M s k x (i + 1) = cw M s (cx M s k i) x → Cv G y_MF_copy (d + 5) [vr (s + 62), vr (s + 52)] M5 (fun M6 => mOk M6 ∧ h_MS_move_98 G (d + 5) s k i M6 (mvQ M s k x)) := by
      intro eq
      refine (s_MF_copy o5 W5.2.2.2.2.2 F5.1 (by omega) (by omega) (by omega)).mono (fun M6 h6 => ?_)
      obtain ⟨o6, f6, F6, w4, w5, w6⟩ := h6
      have C6 := fc_copy C5 w4 w5 w6
      exact ⟨o6, hnext M6 ⟨o6, f25.trans (f6.mono (fun y q => by have : s + 62 ≤ y ∧ y ≤ s + 62 + 4 := q; omega)), W5.put f6 F6.ft (by omega), F6, C6.1, by rw [C6.2, v5, v4]; exact hw0, by rw [C6.2, v5, v4]; exact s4⟩ (by rw [C6.2, v5, eW, eq])⟩
    have e22 : mI M5 (s + 22) = mI M (s + 22) := f25.2.2.2.2.2.2 _ (by omega)
    have keep : fv M5 (s + 62) = bq9 M s k x i := by rw [e5]; exact eB
    rw [V5.r30, V5.r28, V5.r4, V5.n22, e22, Int.toNat_natCast]
    refine ⟨⟨by omega, by omega⟩, o5, fun i0 => ⟨V5.k0, b5.1.1.1, hcopy ?_⟩, fun i0 => ⟨V5.k0, V5.k22, by omega, fun kd => ⟨fun u0 => hnext M5 hI5 ?_, fun u0 => ⟨b5.1.1.1, hcopy ?_⟩⟩, fun kd => ⟨fun u0 => hnext M5 hI5 ?_, fun u0 => ⟨b5.1.1.1, hcopy ?_⟩⟩⟩⟩
    · have z0 : i = 0 := by omega
      rw [z0]
      all_goals rfl
    · rw [bq_s (by omega), if_neg, keep]
      intro y
      rcases y with y | y
      · have := cu.1.2 y.2
        omega
      · exact y.1 kd
    · rw [bq_s (by omega), if_pos]
      exact Or.inl ⟨kd, cu.1.1 (by omega)⟩
    · rw [bq_s (by omega), if_neg, keep]
      intro y
      rcases y with y | y
      · exact kd y.1
      · have := cu.2.2 y.2
        omega
    · rw [bq_s (by omega), if_pos]
      exact Or.inr ⟨kd, cu.2.1 (by omega)⟩
end MV
end
