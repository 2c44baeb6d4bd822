/-! The solver: rank, solve, judge. -/
def cng (f : Nat → Int) : Nat → Nat
  | 0 => 0
  | n + 1 => cng f n + (if f n < 0 then 1 else 0)
theorem cng_congr {f g : Nat → Int} : ∀ (n : Nat), (∀ j, j < n → f j = g j) → cng f n = cng g n
  | 0, _ => rfl
  | n + 1, h => by rw [cng, cng, cng_congr n (fun j hj => h j (by omega)), h n (by omega)]
theorem cng_set {f g : Nat → Int} {i : Nat} (h0 : f i < 0) (h1 : 0 ≤ g i) (h : ∀ j, j ≠ i → g j = f j) : ∀ (n : Nat), i < n → cng g n + 1 = cng f n
  | 0, hi => by omega
  | n + 1, hi => by
    rw [cng, cng]
    by_cases c : i = n
    · rw [← c, cng_congr i (fun j hj => h j (by omega)), if_neg (by omega), if_pos h0]
    · have := cng_set h0 h1 h n (by omega)
      rw [h n (by omega)]
      omega
theorem cng_le {f : Nat → Int} : ∀ (n : Nat), cng f n ≤ n
  | 0 => Nat.le_refl _
  | n + 1 => by
    have := cng_le (f := f) n
    rw [cng]
    split <;> omega
abbrev raS (s : Nat) : Nat → Prop := fun x => wS s x ∨ x = s + 33 ∨ x = s + 34
def CHo (M : mM) (s n : Nat) : Prop := ∀ k, k < n → 0 < mny M s k → 0 ≤ mI M (s + 33) k ∧ mI M (s + 33) k < mny M s k
def rkI (M : mM) (s n : Nat) (x : Nat → Rat) (M2 : mM) : Prop := mOk M2 ∧ FI (raS s) M M2 ∧ At M2 s n x
section RA
variable {G : mG} {d s n : Nat} {M : mM} {x : Nat → Rat}
theorem rkI.w {M2 M3 : mM} (h : rkI M s n x M2) (o : mOk M3) (f : FI (wS s) M2 M3) (hW : Wk M3 s) : rkI M s n x M3 :=
  ⟨o, h.2.1.trans (f.mono (fun y q => Or.inl q)), h.2.2.wout f hW⟩
theorem rkI.p {M2 M3 : mM} {a : Nat} (h : rkI M s n x M2) (o : mOk M3) (f : FI (fun y => y = a) M2 M3) (ha : a = s + 33 ∨ a = s + 34) : rkI M s n x M3 :=
  ⟨o, h.2.1.trans (f.mono (fun y q => by subst q; rcases ha with z | z <;> subst z <;> omega)), h.2.2.out f (fun y q => by omega) (h.2.2.2.2.2.2.1.far f (fun y q => by omega))⟩
theorem s_rk106 : ∀ (c k : Nat) (M2 : mM), k + c = n → rkI M s n x M2 → (∀ j, j < k → 0 < mny M s j → 0 ≤ mI M2 (s + 33) j ∧ mI M2 (s + 33) j < mny M s j) → h_MS_rank_106 G (d + 7) s k M2 (fun M' => rkI M s n x M' ∧ CHo M' s n) := by
  intro c
  induction c with
  | zero =>
    intro k M2 hk h hc
    have ek : k = n := by omega
    subst ek
    obtain ⟨o2, f2, A2⟩ := id h
    have sg : sameG M M2 s := sameG.of f2 (by omega) (fun y _ _ => by omega)
    have h5 := A2.2.1.2.1
    have hn2 := A2.2.2.2.1
    refine k_MS_rank_106 o2 ⟨by omega, by omega⟩ ?_
    rw [hn2]
    exact ⟨A2.1.k0, fun _ => ⟨h, fun j hj hp => by rw [sg.hm] at hp ⊢; exact hc j hj hp⟩, fun q => by omega⟩
  | succ c ih =>
    intro k M2 hk h hc
    obtain ⟨o2, f2, A2⟩ := id h
    have sg : sameG M M2 s := sameG.of f2 (by omega) (fun y _ _ => by omega)
    have V2 := A2.1
    have h5 := A2.2.1.2.1
    have hn2 := A2.2.2.2.1
    have h3 := A2.2.1.2.2.1
    have hcm := A2.2.1.cmd (i := k) (by omega)
    have hm0 : 0 ≤ mny M2 s k ∧ mny M2 s k ≤ 4200 := by unfold mny; omega
    refine k_MS_rank_106 o2 ⟨by omega, by omega⟩ ?_
    rw [hn2, V2.r15, Int.toNat_natCast]
    refine ⟨V2.k0, fun q => by omega, fun _ => (s_MS_many o2 V2 A2.2.1 (by omega)).mono (fun y M3 h3' => ?_)⟩
    obtain ⟨e3, hy⟩ := h3'
    subst e3
    rw [V2.n33]
    refine ⟨⟨by omega, by omega⟩, o2, fun y0 => ⟨V2.k33, by omega, fun M4 e4 => ?_⟩, fun y0 => ⟨V2.k0, (s_MS_choose (d := d) o2 A2 (by omega)).mono (fun z M4 h4 => ?_)⟩⟩
    · have f4 : FI (fun y => y = s + 33) M3 M4 := by rw [e4]; exact FI.ui rfl
      have o4 : mOk M4 := by rw [e4]; exact mOk_UI o2 ⟨by omega, by omega⟩
      refine ih (k + 1) M4 (by omega) (h.p o4 f4 (Or.inl rfl)) (fun j hj hp => ?_)
      rw [e4, mI_UI]
      by_cases z : j = k
      · subst z
        rw [← sg.hm] at hp
        omega
      · rw [if_neg (fun w => z w.2)]
        exact hc j (by omega) hp
    · obtain ⟨o4, f4, W4, z0, z1⟩ := h4
      have V4 := V2.fi f4
      have h4 := h.w o4 f4 W4
      have z1' := z1 (by omega)
      refine ⟨⟨by omega, by omega⟩, o4, V4.k33, by rw [V4.n33]; omega, fun M5 e5 => ?_⟩
      have f5 : FI (fun y => y = s + 33) M4 M5 := by rw [e5]; exact FI.ui rfl
      have o5 : mOk M5 := by rw [e5]; exact mOk_UI o4 ⟨by omega, by omega⟩
      refine ih (k + 1) M5 (by omega) (h4.p o5 f5 (Or.inl rfl)) (fun j hj hp => ?_)
      rw [e5, mI_UI]
      by_cases z : j = k
      · subst z
        rw [if_pos ⟨rfl, rfl⟩, ← sg.hm]
        omega
      · rw [if_neg (fun w => z w.2), f4.2.2.2.2.2.2 (s + 33) (by omega)]
        exact hc j (by omega) hp
theorem s_rk41 : ∀ (Z : Nat) (l : Int) (M2 : mM), rkI M s n x M2 → cng (mI M2 (s + 34)) n ≤ Z → 1 ≤ l → l + Z ≤ 600 → h_MS_rank_41 G (d + 7) s 1 l M2 (fun M' => rkI M s n x M' ∧ CHo M' s n) := by
  intro Z
  induction Z with
  | zero =>
    intro l M2 h hz l1 l2
    have hnn : ∀ j, j < n → 0 ≤ mI M2 (s + 34) j := by
      have aux : ∀ (n : Nat), cng (mI M2 (s + 34)) n = 0 → ∀ j, j < n → 0 ≤ mI M2 (s + 34) j := by
        intro n
        induction n with
        | zero => intro _ j hj; omega
        | succ n ih =>
          intro hc j hj
          rw [cng] at hc
          by_cases q : j = n
          · subst q
            refine Classical.byContradiction (fun w => ?_)
            rw [if_pos (by omega)] at hc
            omega
          · exact ih (by omega) j (by omega)
      exact aux n (by omega)
    obtain ⟨o2, f2, A2⟩ := id h
    have V2 := A2.1
    have h5 := A2.2.1.2.1
    have hn2 := A2.2.2.2.1
    refine k_MS_rank_41 o2 ⟨by omega, by omega⟩ ⟨by omega, by omega⟩ ⟨fun q => by omega, fun _ => ?_⟩
    suffices H : ∀ (c k : Nat), k + c = n → h_MS_rank_49 G (d + 7) s 0 l k M2 (fun M' => rkI M s n x M' ∧ CHo M' s n) from H n 0 (by omega)
    intro c
    induction c with
    | zero =>
      intro k hk
      refine k_MS_rank_49 o2 ⟨by omega, by omega⟩ ⟨by omega, by omega⟩ ⟨by omega, by omega⟩ ?_
      rw [hn2]
      exact ⟨V2.k0, fun _ => k_MS_rank_41 o2 ⟨by omega, by omega⟩ ⟨by omega, by omega⟩ ⟨fun _ => s_rk106 n 0 M2 (by omega) h (fun j hj => by omega), fun q => absurd rfl q⟩, fun q => by omega⟩
    | succ c ih =>
      intro k hk
      refine k_MS_rank_49 o2 ⟨by omega, by omega⟩ ⟨by omega, by omega⟩ ⟨by omega, by omega⟩ ?_
      rw [hn2, V2.r16, V2.n34, Int.toNat_natCast]
      exact ⟨V2.k0, fun q => by omega, fun _ => ⟨V2.k34, by omega, fun _ => ih (k + 1) (by omega), fun q => absurd (hnn k (by omega)) q⟩⟩
  | succ Z ihZ =>
    intro l M2 h hz l1 l2
    refine k_MS_rank_41 h.1 ⟨by omega, by omega⟩ ⟨by omega, by omega⟩ ⟨fun q => by omega, fun _ => ?_⟩
    suffices H : ∀ (c k : Nat) (f : Int) (M3 : mM), k + c = n → rkI M s n x M3 → ((f = 0 ∧ cng (mI M3 (s + 34)) n ≤ Z + 1) ∨ (f = 1 ∧ cng (mI M3 (s + 34)) n ≤ Z)) → h_MS_rank_49 G (d + 7) s f l k M3 (fun M' => rkI M s n x M' ∧ CHo M' s n) from H n 0 0 M2 (by omega) h (Or.inl ⟨rfl, hz⟩)
    clear h hz M2
    intro c
    induction c with
    | zero =>
      intro k f M3 hk h hf
      have A3 := h.2.2
      have h5 := A3.2.1.2.1
      have hn2 := A3.2.2.2.1
      refine k_MS_rank_49 h.1 ⟨by omega, by omega⟩ ⟨by omega, by omega⟩ ⟨by omega, by omega⟩ ?_
      rw [hn2]
      refine ⟨A3.1.k0, fun _ => ?_, fun q => by omega⟩
      rcases hf with ⟨q1, q2⟩ | ⟨q1, q2⟩
      · subst q1
        exact k_MS_rank_41 h.1 ⟨by omega, by omega⟩ ⟨by omega, by omega⟩ ⟨fun _ => s_rk106 n 0 M3 (by omega) h (fun j hj => by omega), fun q => absurd rfl q⟩
      · subst q1
        exact ihZ (l + 1) M3 h q2 (by omega) (by omega)
    | succ c ih =>
      intro k f M3 hk h hf
      have hf01 : f = 0 ∨ f = 1 := by omega
      obtain ⟨o3, f3, A3⟩ := id h
      have V3 := A3.1
      have h5 := A3.2.1.2.1
      have hn3 := A3.2.2.2.1
      refine k_MS_rank_49 o3 ⟨by omega, by omega⟩ ⟨by omega, by omega⟩ ⟨by omega, by omega⟩ ?_
      rw [hn3, V3.r16, V3.n34, Int.toNat_natCast]
      refine ⟨V3.k0, fun q => by omega, fun _ => ⟨V3.k34, by omega, fun _ => ih (k + 1) f M3 (by omega) h hf, fun q => (s_MS_isUnknown (d := d + 5) o3 A3 (by omega)).mono (fun y M4 h4 => ?_)⟩⟩
      obtain ⟨e4, hy⟩ := h4
      subst e4
      refine ⟨⟨by omega, by omega⟩, o3, fun _ => ih (k + 1) f M4 (by omega) h hf, fun _ => ⟨V3.k0, (s_MS_getsRank (d := d) (l := l) ⟨by omega, by omega⟩ o3 A3 (by omega)).mono (fun z M5 h5' => ?_)⟩⟩
      obtain ⟨o5, f5, W5, hz⟩ := h5'
      have h5'' := h.w o5 f5 W5
      have V5 := V3.fi f5
      have e34 : mI M5 (s + 34) = mI M4 (s + 34) := f5.2.2.2.2.2.2 _ (by omega)
      rw [V5.r16, V5.n34]
      refine ⟨⟨by omega, by omega⟩, o5, fun _ => ⟨V5.k0, V5.k34, by omega⟩, fun v hv M6 e6 => ?_⟩
      by_cases w : z = 0
      · rw [if_pos w] at hv e6
        subst e6 hv
        exact ⟨o5, ih (k + 1) v M6 (by omega) h5'' (by rw [e34]; exact hf)⟩
      · rw [if_neg w] at hv e6
        subst hv
        have f6 : FI (fun y => y = s + 34) M5 M6 := by rw [e6]; exact FI.ui rfl
        have o6 : mOk M6 := by rw [e6]; exact mOk_UI o5 ⟨by omega, by omega⟩
        refine ⟨o6, ih (k + 1) 1 M6 (by omega) (h5''.p o6 f6 (Or.inr rfl)) (Or.inr ⟨rfl, ?_⟩)⟩
        have a := cng_set (f := mI M4 (s + 34)) (g := mI M6 (s + 34)) (i := k) (by omega) (by rw [e6, mI_UI, if_pos ⟨rfl, rfl⟩]; omega) (fun j hj => by rw [e6, mI_UI, if_neg (fun w => hj w.2), e34]) n (by omega)
        omega
theorem s_MS_rank (hO : mOk M) (hA : At M s n x) : Cv G y_MS_rank (d + 8) [vr s] M (fun M' => rkI M s n x M' ∧ CHo M' s n) := by
  have h5 := hA.2.1.2.1
  have hn := hA.2.2.2.1
  refine k_MS_rank hO ?_
  suffices H : ∀ (c k : Nat) (M2 : mM), k + c = n → rkI M s n x M2 → h_MS_rank_2 G (d + 7) s k M2 (fun M' => rkI M s n x M' ∧ CHo M' s n) from H n 0 M (by omega) ⟨hO, FI.refl, hA⟩
  intro c
  induction c with
  | zero =>
    intro k M2 hk h
    have A2 := h.2.2
    have hn2 := A2.2.2.2.1
    refine k_MS_rank_2 h.1 ⟨by omega, by omega⟩ ?_
    rw [hn2]
    have := cng_le (f := mI M2 (s + 34)) n
    exact ⟨A2.1.k0, fun _ => s_rk41 n 1 M2 h this (by omega) (by omega), fun q => by omega⟩
  | succ c ih =>
    intro k M2 hk h
    have A2 := h.2.2
    have V2 := A2.1
    have hn2 := A2.2.2.2.1
    refine k_MS_rank_2 h.1 ⟨by omega, by omega⟩ ?_
    rw [hn2, V2.r4, V2.r16, V2.n22, V2.n34, Int.toNat_natCast]
    refine ⟨V2.k0, fun q => by omega, fun _ => ⟨V2.k22, by omega, fun v hv => ⟨V2.k34, by omega, fun M3 e3 => ?_⟩⟩⟩
    have f3 : FI (fun y => y = s + 34) M2 M3 := by rw [e3]; exact FI.ui rfl
    have o3 : mOk M3 := by rw [e3]; exact mOk_UI h.1 ⟨by split at hv <;> omega, by split at hv <;> omega⟩
    exact ih (k + 1) M3 (by omega) (h.p o3 f3 (Or.inr rfl))
end RA
