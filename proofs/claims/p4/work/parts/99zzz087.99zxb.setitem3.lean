/-! The reference: setItem, to its end. -/
section SI3
variable {G : mG} {d a g R W C T2 Z2 N K : Nat} {M M2 : mM} {E : Nat → Nat} {tg : Int}
theorem Lc.rd {p j : Nat} {Q : Int → mM → Prop} {T : Nat} (h : Lc M a g N T K) (hp : p ∈ nums a) (hk : (j : Int) < ln M p) (hQ : ∀ z, z = nt M p j → i32 z → Q z M) : Ci G y_MN_at d [vr p, vi j] M Q := by
  refine (s_MN_at h.1 (h.2.1.1.1.nu hp) hk).mono (fun z M1 e1 => ?_)
  obtain ⟨e1, hz⟩ := e1
  subst e1
  exact hQ z hz (by rw [hz]; exact (h.1 _ _).1)
theorem Lc.co {k e T : Nat} {Q : Int → mM → Prop} (h : Lc M a g N T K) (hk : k < e) (he : e < N) (h1 : ∀ t, 1 ≤ t → t ≤ e - k → 1 ≤ dp (wk M a) k t) (h2 : dp (wk M a) k (e + 1 - k) = 0) (hQ : Q e M) : Ci G y_MM_closeOf (d + 2) [vr a, vi k] M Q := by
  refine (s_MM_closeOf (d := d) h.1 h.2.1.1 hk he (fun t t1 t2 => by have := h1 t t1 t2; omega) (by rw [show e - k + 1 = e + 1 - k by omega, h2]; omega)).mono (fun x M1 e1 => ?_)
  obtain ⟨e1, hx⟩ := e1
  subst e1
  rw [hx]
  exact hQ
theorem s_MM_setItem {p c Z0 Tm : Nat} (hc : cI M a g N K R W C E tg T2 Z2 M2) (z2 : mI M2 a 16 = 0) (w0 : wk M2 a p = 36) (w1 : wk M2 a (p + 1) = 1) (w2' : wk M2 a (p + 2) = 38) (w3 : wk M2 a (p + 3) = 23) (he : Eo (wk M2 a) 6 (p + 4) c) (w4 : wk M2 a c = 37) (hcN : c < N) (hT2 : T2 ≤ p) (hZ2 : Z2 ≤ 16384) (hZ0 : Z0 ≤ Z2) (hTm : c - (p + 4) ≤ Tm) : Ci G y_MM_setItem (d + 8) [vr a, vi p, vi Z0] M2 (fun x M3 => i32 x ∧ mOk M3 ∧ siQ M a g N K R W C E tg c T2 Z2 Tm M2 x M3) := by
  obtain ⟨L2, I2, ⟨g2, g6, g12⟩, ⟨z30, z32, z34⟩, D2⟩ := id hc
  have hN := L2.2.1.1.2.2
  have w2 := L2.2.1.1.1
  have hlt := he.pr.1
  have hB := (D2 z2).1
  have hnm := L2.2.2.1
  have hK := hnm.2.2.2.1
  have l87 := hnm.2.1
  have l89 := hnm.2.2.1
  obtain ⟨-, s1, s2⟩ := Sg.set w0 w1 w2' w3 he w4
  have p1N : p + 1 < N := by omega
  have ic : i32 (c : Int) := i32s (by omega) (by omega)
  refine k_MM_setItem L2.1 (i32s (by omega) (by omega)) (i32s (by omega) (by omega)) ⟨w2.1.1, L2.co (d := d + 5) (by omega) hcN s1 s2 ⟨ic, L2.1, w2.1.1, ?_⟩⟩
  rw [show (p : Int) + 1 = ((p + 1 : Nat) : Int) by omega]
  have flt : Ci G y_MM_place0 (d + 7) [vr a, vi ((p + 1 : Nat) : Int)] M2 (fun x13 M12 => i32 x13 ∧ mOk M12 ∧ (mK M12 a = 14 ∧ Cv G y_MM_stop (d + 7) [vr a, vi 2, vi x13] M12 (fun M16 => mOk M16 ∧ (i32 (c : Int) ∧ mOk M16 ∧ siQ M a g N K R W C E tg c T2 Z2 Tm M2 c M16)))) := by
    refine (s_MM_place0 (d := d + 6) L2.1 L2.2.1 p1N).mono (fun y M5 h5 => ?_)
    obtain ⟨e5, hy⟩ := h5
    subst e5
    have hy32 : i32 y := by rw [hy]; exact (L2.1 _ _).1
    exact ⟨hy32, L2.1, w2.1.1, (s_MM_stop ⟨by decide, by decide⟩ hy32 L2.1 w2).mono (fun M6 h6 => ⟨h6.1.1, ic, h6.1.1, si_stop hc (by decide) h6⟩)⟩
  refine L2.fd (d := d + 4) p1N (fun r r0 r1 => ⟨i32s (by omega) (by omega), L2.1, fun _ => ⟨w2.1.1, flt⟩, fun q => ⟨w2.1.1, ?_⟩⟩)
  obtain ⟨n, hn, hnK⟩ : ∃ n : Nat, r = (n : Int) ∧ n < K := ⟨r.toNat, by omega, by omega⟩
  subst hn
  obtain ⟨-, hk, -⟩ := hnm.2.2.2.2 n hnK
  rw [show mR M2 a 14 = a + 87 from w2.1.2.2.2.2.1.2.1]
  refine ⟨(w2.nu n87).1, L2.rd n87 (by rw [l87]; omega) (fun s hs is => ⟨is, L2.1, fun q3 => ⟨w2.1.1, ?_⟩, fun q3 => ⟨w2.1.1, flt⟩⟩)⟩
  rw [show mR M2 a 15 = a + 89 from w2.1.2.2.2.2.1.2.2.1]
  refine ⟨(w2.nu n89).1, L2.rd n89 (by rw [l89]; omega) (fun x hx ix => ⟨ix, L2.1, ?_⟩)⟩
  rw [← hs, ← hx, g12] at hk
  obtain ⟨v, hv, hvW⟩ : ∃ v : Nat, x = (v : Int) ∧ v < W := ⟨x.toNat, by omega, by omega⟩
  subst hv
  exact s_si61 hc z2 hvW he hcN hT2 hZ2 hTm (Z2 - Z0) Z0 (by omega)
end SI3
