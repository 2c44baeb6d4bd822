/-! The reference: names. -/
section NA
variable {G : mG} {d a N g : Nat} {M : mM}
theorem n85 : a + 85 ∈ nums a := nums_o (by decide)
theorem n87 : a + 87 ∈ nums a := nums_o (by decide)
theorem n89 : a + 89 ∈ nums a := nums_o (by decide)
theorem s_MM_sameWord {x y : Nat} (hO : mOk M) (h : Wx M a N) (hx : x < N) (hy : y < N) : Ci G y_MM_sameWord (d + 2) [vr a, vi x, vi y] M (fun r M' => M' = M ∧ (r = 0 ∨ r = 1)) := by
  have h0 := h
  obtain ⟨⟨w, l, b⟩, l7, l9, wo, hT⟩ := h
  obtain ⟨-, ⟨x1, x2, x3⟩, -⟩ := wo x hx
  obtain ⟨-, ⟨y1, y2, y3⟩, -⟩ := wo y hy
  have hp := w.tape.2.1
  have at9 : ∀ {k : Nat} {Q : Int → mM → Prop}, k < N → (∀ z, z = nt M (a + 9) k → i32 z → Q z M) → Ci G y_MN_at (d + 1) [vr (a + 9), vi k] M Q := fun hk hQ => by
    refine (s_MN_at hO (w.nu n9) (by omega)).mono (fun z M1 e1 => ?_)
    obtain ⟨e1, hz⟩ := e1
    subst e1
    exact hQ z hz (by rw [hz]; exact (hO _ _).1)
  have pl : ∀ {k : Nat} {Q : Int → mM → Prop}, k < N → (∀ z, z = nt M (a + 7) k → i32 z → Q z M) → Ci G y_MM_place0 (d + 1) [vr a, vi k] M Q := fun hk hQ => by
    refine (s_MM_place0 (d := d) hO h0 hk).mono (fun z M1 e1 => ?_)
    obtain ⟨e1, hz⟩ := e1
    subst e1
    exact hQ z hz (by rw [hz]; exact (hO _ _).1)
  refine k_MM_sameWord hO (i32s (by omega) (by omega)) (i32s (by omega) (by omega)) ?_
  rw [w.1.2.2.1.2.2.1]
  refine ⟨w.1.1, (w.nu n9).1, at9 hx (fun z1 e1 i1 => ⟨i1, hO, w.1.1, pl hx (fun z2 e2 i2 => ⟨i2, hO, w.1.1, ?_⟩)⟩)⟩
  rw [w.1.2.2.1.2.2.1]
  refine ⟨(w.nu n9).1, at9 hy (fun z3 e3 i3 => ⟨i3, hO, w.1.1, pl hy (fun z4 e4 i4 => ⟨i4, hO, i32s (by omega) (by omega), i32s (by omega) (by omega), fun v hv => ?_⟩)⟩)⟩
  have hlen : v = 1 → z3 - z4 = z1 - z2 := fun q => by split at hv <;> omega
  suffices H : ∀ (c t : Nat) (u : Int), (t : Int) + c = z1 - z2 → (u = 0 ∨ u = 1) → (u = 1 → z3 - z4 = z1 - z2) → h_MM_sameWord_43 G (d + 1) a x y (z1 - z2) u t M (fun r M' => M' = M ∧ (r = 0 ∨ r = 1)) from
    H (z1 - z2).toNat 0 v (by omega) (by split at hv <;> omega) hlen
  intro c
  induction c with
  | zero =>
    intro t u ht hu _
    exact k_MM_sameWord_43 hO (i32s (by omega) (by omega)) (i32s (by omega) (by omega)) (i32s (by omega) (by omega)) (i32s (by omega) (by omega)) (i32s (by omega) (by omega)) ⟨fun _ => ⟨hu, rfl, hu⟩, fun q => absurd (Or.inl (by omega)) q⟩
  | succ c ih =>
    intro t u ht hu hl
    refine k_MM_sameWord_43 hO (i32s (by omega) (by omega)) (i32s (by omega) (by omega)) (i32s (by omega) (by omega)) (i32s (by omega) (by omega)) (i32s (by omega) (by omega)) ⟨fun _ => ⟨hu, rfl, hu⟩, fun q => ⟨w.1.1, pl hx (fun u1 f1 j1 => ⟨j1, hO, (w.nu hp).1, ?_⟩)⟩⟩
    have hu1 := hl (by omega)
    rw [show u1 + (t : Int) = (((u1 + (t : Int)).toNat : Nat) : Int) by omega]
    refine (s_MN_at hO (w.nu hp) (by omega)).mono (fun v1 M2 g2 => ?_)
    obtain ⟨g2, hv1⟩ := g2
    subst g2
    refine ⟨by rw [hv1]; exact (hO _ _).1, hO, w.1.1, pl hy (fun u2 f2 j2 => ⟨j2, hO, (w.nu hp).1, ?_⟩)⟩
    rw [show u2 + (t : Int) = (((u2 + (t : Int)).toNat : Nat) : Int) by omega]
    refine (s_MN_at hO (w.nu hp) (by omega)).mono (fun v2 M3 g3 => ?_)
    obtain ⟨g3, hv2⟩ := g3
    subst g3
    exact ⟨by rw [hv2]; exact (hO _ _).1, hO, fun v3 hv3 => ih (t + 1) v3 (by omega) (by split at hv3 <;> omega) (fun _ => hu1)⟩
/-- K names are known -/
def Nm (M : mM) (a g N K : Nat) : Prop := ln M (a + 85) = K ∧ ln M (a + 87) = K ∧ ln M (a + 89) = K ∧ K ≤ 200 ∧ ∀ k, k < K → (0 ≤ nt M (a + 85) k ∧ nt M (a + 85) k < N) ∧ ((nt M (a + 87) k = 3 ∧ 0 ≤ nt M (a + 89) k ∧ nt M (a + 89) k < mI M g 12) ∨ ((nt M (a + 87) k = 1 ∨ nt M (a + 87) k = 2) ∧ 0 ≤ nt M (a + 89) k ∧ nt M (a + 89) k < mI M g 6)) ∧ (nt M (a + 87) k = 1 → mI M (g + 13) (nt M (a + 89) k).toNat = 0)
theorem s_MM_find {y K : Nat} (hO : mOk M) (h : Wx M a N) (hn : Nm M a g N K) (hy : y < N) : Ci G y_MM_find (d + 3) [vr a, vi y] M (fun r M' => M' = M ∧ -1 ≤ r ∧ r < K) := by
  have w := h.1.1
  have hN := h.1.2.2
  obtain ⟨n1, n2, n3, n4, n5'⟩ := hn
  have r13 : mR M a 13 = a + 85 := w.1.2.2.2.2.1.1
  have l1 : mI M (a + 85) 1 = K := n1
  refine k_MM_find hO (i32s (by omega) (by omega)) ?_
  suffices H : ∀ (c k : Nat) (f : Int), k + c = K → -1 ≤ f → f < K → h_MM_find_4 G (d + 2) a y f k M (fun r M' => M' = M ∧ -1 ≤ r ∧ r < K) from
    H K 0 (-1) (by omega) (by omega) (by omega)
  intro c
  induction c with
  | zero =>
    intro k f hk f0 f1
    refine k_MM_find_4 hO (i32s (by omega) (by omega)) (i32s (by omega) (by omega)) (i32s (by omega) (by omega)) ?_
    rw [r13, l1]
    exact ⟨w.1.1, (w.nu n85).1, fun _ => ⟨rfl, f0, f1⟩, fun q => by omega⟩
  | succ c ih =>
    intro k f hk f0 f1
    obtain ⟨⟨a1, a2⟩, -⟩ := n5' k (by omega)
    refine k_MM_find_4 hO (i32s (by omega) (by omega)) (i32s (by omega) (by omega)) (i32s (by omega) (by omega)) ?_
    rw [r13, l1]
    refine ⟨w.1.1, (w.nu n85).1, fun q => by omega, fun _ => (s_MN_at hO (w.nu n85) (by omega)).mono (fun z M1 e1 => ?_)⟩
    obtain ⟨e1, hz⟩ := e1
    subst e1
    refine ⟨by rw [hz]; exact (hO _ _).1, hO, w.1.1, ?_⟩
    rw [show z = ((z.toNat : Nat) : Int) by omega]
    refine (s_MM_sameWord (d := d) hO h (by omega) hy).mono (fun r M2 e2 => ?_)
    obtain ⟨e2, hr⟩ := e2
    subst e2
    exact ⟨i32s (by omega) (by omega), hO, fun v hv => ih (k + 1) v (by omega) (by split at hv <;> omega) (by split at hv <;> omega)⟩
theorem s_MM_stop {c p : Int} (hc : i32 c) (hp : i32 p) (hO : mOk M) (h : Wd M a) : Cv G y_MM_stop d [vr a, vi c, vi p] M (fun M' => Mv (fun _ => False) (fun x => x = a) M a M' ∧ mI M' a 16 = c ∧ mI M' a 17 = p ∧ ∀ i, i ≠ 16 → i ≠ 17 → mI M' a i = mI M a i) := by
  refine k_MM_stop hO hc hp ⟨h.1.1, fun M1 e1 M2 e2 => ?_⟩
  obtain ⟨m1, f1⟩ := mv_fld hc hO h e1
  obtain ⟨m2, f2⟩ := mv_fld hp m1.1 m1.2.1 e2
  exact ⟨m1.trans m2, by rw [f2, if_neg (by omega), f1, if_pos rfl], by rw [f2, if_pos rfl], fun i i1 i2 => by rw [f2, if_neg i2, f1, if_neg i1]⟩
/-- how many brothers there are -/
theorem s_pt14 {nm : Int → Prop} {T : Nat} (hO : mOk M) (h : Wd M a) (hg : g = a + 13 ∨ g = a + 49) (hd : mR M a 10 = g) (hn : nd M g T) (hT : T ≤ 100000) : ∀ (k f n e : Nat) (c : Int), 1 ≤ k → Tn nm M g f k n e → e ≤ T → 0 ≤ c → c + k ≤ 200000 → h_MM_parts_14 G d a c n M (fun r M' => M' = M ∧ r = c + k) := by
  have gp := h.gp hg
  have g11 : tL g (g + 11) := by omega
  have u11 := h.nu (tL_in (a := a) hg g11)
  have r5 : mR M g 5 = g + 11 := gp.2.1.2.2.2.2.2.1
  intro k
  induction k with
  | zero => intro f n e c hk; omega
  | succ k ih =>
    intro f n e c hk ht heT c0 c1
    have hlt := ht.lt
    cases f with
    | zero => exact ht.elim
    | succ f =>
      have ht' : Tn nm M g (f + 1) (k + 1) n e := ht
      rw [Tn, if_neg (by omega)] at ht'
      refine k_MM_parts_14 hO ⟨by omega, by omega⟩ (i32s (by omega) (by omega)) ⟨fun q => by omega, fun _ => ?_⟩
      rw [hd, r5]
      refine ⟨h.1.1, gp.1, u11.1, (s_MN_at hO u11 (by rw [hn _ g11]; omega)).mono (fun z M1 e1 => ?_)⟩
      obtain ⟨e1, hz⟩ := e1
      subst e1
      refine ⟨by rw [hz]; exact (hO _ _).1, hO, ?_⟩
      by_cases k0 : k + 1 = 1
      · rw [if_pos k0] at ht'
        have : z = -1 := hz.trans ht'.1
        rw [this]
        exact k_MM_parts_14 hO ⟨by omega, by omega⟩ (i32s (by omega) (by omega)) ⟨fun _ => ⟨rfl, by omega⟩, fun q => by omega⟩
      · rw [if_neg k0] at ht'
        obtain ⟨m, q1, q2, q3⟩ := ht'
        have hzm : z = (m : Int) := hz.trans q1
        rw [hzm]
        have q3' : Tn nm M1 g f k m e := q3
        have := ih f m e (c + 1) (by omega) q3' heT (by omega) (by omega)
        rw [show c + ((k + 1 : Nat) : Int) = c + 1 + (k : Int) by omega]
        exact this
end NA
