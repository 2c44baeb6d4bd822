section
/-! The reference's names, exactly: sameWord, find, lookUp, lookAt. -/
section NAX
variable {G : mG} {d a N g K : Nat} {M : mM}
/-- two words with the same letters -/
def smx (M : mM) (a x y : Nat) : Prop := nt M (a + 9) y - nt M (a + 7) y = nt M (a + 9) x - nt M (a + 7) x ∧ ∀ i : Nat, (i : Int) < nt M (a + 9) x - nt M (a + 7) x → nt M (mR M a 2) ((nt M (a + 7) x).toNat + i) = nt M (mR M a 2) ((nt M (a + 7) y).toNat + i)
/-- the last known name that is spelt like y; -1: none -/
def fdx (M : mM) (a K y : Nat) (r : Int) : Prop := (r = -1 ∧ ∀ k, k < K → ¬ smx M a (nt M (a + 85) k).toNat y) ∨ ∃ q : Nat, r = q ∧ q < K ∧ smx M a (nt M (a + 85) q).toNat y ∧ ∀ k, q < k → k < K → ¬ smx M a (nt M (a + 85) k).toNat y
theorem x_MM_sameWord {x y : Nat} (hO : mOk M) (h : Wx M a N) (hx : x < N) (hy : y < N) : Ci G y_MM_sameWord (d + 2) [vr a, vi x, vi y] M (fun r M' => M' = M ∧ (r = 0 ∨ r = 1) ∧ (r = 1 ↔ smx M a x y)) := by
  have h0 := h
  obtain ⟨⟨w, l, b⟩, l7, l9, wo, hT⟩ := h
  obtain ⟨-, ⟨x1, x2, x3⟩, -⟩ := wo x hx
  obtain ⟨-, ⟨y1, y2, y3⟩, -⟩ := wo y hy
  have hp := w.tape.2.1
  have at9 : ∀ {k : Nat} {Q : Int → mM → Prop}, k < N → (∀ z, z = nt M (a + 9) k → i32 z → Q z M) → Ci G y_MN_at (d + 1) [vr (a + 9), vi k] M Q := fun hk hQ => by
    refine (s_MN_at hO (w.nu n9) (by omega)).mono (fun z M1 e1 => ?_)
    obtain ⟨e1, hz⟩ := e1
    subst e1
    exact hQ z hz (by rw [hz]; exact (hO _ _).1)
  have pl : ∀ {k : Nat} {Q : Int → mM → Prop}, k < N → (∀ z, z = nt M (a + 7) k → i32 z → Q z M) → Ci G y_MM_place0 (d + 1) [vr a, vi k] M Q := fun hk hQ => by
    refine (s_MM_place0 (d := d) hO h0 hk).mono (fun z M1 e1 => ?_)
    obtain ⟨e1, hz⟩ := e1
    subst e1
    exact hQ z hz (by rw [hz]; exact (hO _ _).1)
  refine k_MM_sameWord hO (i32s (by omega) (by omega)) (i32s (by omega) (by omega)) ?_
  rw [w.1.2.2.1.2.2.1]
  refine ⟨w.1.1, (w.nu n9).1, at9 hx (fun z1 e1 i1 => ⟨i1, hO, w.1.1, pl hx (fun z2 e2 i2 => ⟨i2, hO, w.1.1, ?_⟩)⟩)⟩
  rw [w.1.2.2.1.2.2.1]
  refine ⟨(w.nu n9).1, at9 hy (fun z3 e3 i3 => ⟨i3, hO, w.1.1, pl hy (fun z4 e4 i4 => ⟨i4, hO, i32s (by omega) (by omega), i32s (by omega) (by omega), fun v hv => ?_⟩)⟩)⟩
  have hlen : v = 1 → z3 - z4 = z1 - z2 := fun q => by split at hv <;> omega
  suffices H : ∀ (c t : Nat) (u : Int), (t : Int) + c = z1 - z2 → (u = 0 ∨ u = 1) → (u = 1 → z3 - z4 = z1 - z2) → ((u = 1 ∧ ∀ i : Nat, i < t → nt M (mR M a 2) ((nt M (a + 7) x).toNat + i) = nt M (mR M a 2) ((nt M (a + 7) y).toNat + i)) ∨ (u = 0 ∧ ¬ smx M a x y)) → h_MM_sameWord_43 G (d + 1) a x y (z1 - z2) u t M (fun r M' => M' = M ∧ (r = 0 ∨ r = 1) ∧ (r = 1 ↔ smx M a x y)) from
    H (z1 - z2).toNat 0 v (by omega) (by split at hv <;> omega) hlen (by
      split at hv
      · exact Or.inl ⟨by omega, fun i hi => absurd hi (by omega)⟩
      · exact Or.inr ⟨by omega, fun q => by have := q.1; omega⟩)
  clear hv hlen
  intro c
  induction c with
  | zero =>
    intro t u ht hu hl iv
    exact k_MM_sameWord_43 hO (i32s (by omega) (by omega)) (i32s (by omega) (by omega)) (i32s (by omega) (by omega)) (i32s (by omega) (by omega)) (i32s (by omega) (by omega)) ⟨fun _ => ⟨hu, rfl, hu, by
      rcases iv with ⟨v1, v2⟩ | ⟨v1, v2⟩
      · exact ⟨fun _ => ⟨by have := hl v1; omega, fun i hi => v2 i (by omega)⟩, fun _ => v1⟩
      · exact ⟨fun q => by omega, fun q => absurd q v2⟩⟩, fun q => absurd (Or.inl (by omega)) q⟩
  | succ c ih =>
    intro t u ht hu hl iv
    refine k_MM_sameWord_43 hO (i32s (by omega) (by omega)) (i32s (by omega) (by omega)) (i32s (by omega) (by omega)) (i32s (by omega) (by omega)) (i32s (by omega) (by omega)) ⟨fun qq => ⟨hu, rfl, hu, by
      rcases iv with ⟨v1, v2⟩ | ⟨v1, v2⟩
      · omega
      · exact ⟨fun q => by omega, fun q => absurd q v2⟩⟩, fun q => ⟨w.1.1, pl hx (fun u1 f1 j1 => ⟨j1, hO, (w.nu hp).1, ?_⟩)⟩⟩
    have hu1 := hl (by omega)
    rw [show u1 + (t : Int) = (((u1 + (t : Int)).toNat : Nat) : Int) by omega]
    refine (s_MN_at hO (w.nu hp) (by omega)).mono (fun v1 M2 g2 => ?_)
    obtain ⟨g2, hv1⟩ := g2
    subst g2
    refine ⟨by rw [hv1]; exact (hO _ _).1, hO, w.1.1, pl hy (fun u2 f2 j2 => ⟨j2, hO, (w.nu hp).1, ?_⟩)⟩
    rw [show u2 + (t : Int) = (((u2 + (t : Int)).toNat : Nat) : Int) by omega]
    refine (s_MN_at hO (w.nu hp) (by omega)).mono (fun v2 M3 g3 => ?_)
    obtain ⟨g3, hv2⟩ := g3
    subst g3
    exact ⟨by rw [hv2]; exact (hO _ _).1, hO, fun v3 hv3 => ih (t + 1) v3 (by omega) (by split at hv3 <;> omega) (fun _ => hu1) (by
      obtain ⟨w1, w2⟩ : u = 1 ∧ ∀ i : Nat, i < t → nt M3 (mR M3 a 2) ((nt M3 (a + 7) x).toNat + i) = nt M3 (mR M3 a 2) ((nt M3 (a + 7) y).toNat + i) := by
        rcases iv with v | ⟨v1, -⟩
        · exact v
        · exact absurd (Or.inr v1) q
      have ex : (u1 + (t : Int)).toNat = (nt M3 (a + 7) x).toNat + t := by rw [f1]; omega
      have ey : (u2 + (t : Int)).toNat = (nt M3 (a + 7) y).toNat + t := by rw [f2]; omega
      rw [ex] at hv1
      rw [ey] at hv2
      split at hv3
      · rename_i qq
        refine Or.inl ⟨by omega, fun i hi => ?_⟩
        by_cases c : i < t
        · exact w2 i c
        · rw [show i = t by omega, ← hv1, ← hv2]; exact qq
      · rename_i qq
        exact Or.inr ⟨by omega, fun z => qq (by rw [hv1, hv2]; exact z.2 t (by omega))⟩)⟩
theorem x_MM_find {y : Nat} (hO : mOk M) (h : Wx M a N) (hn : Nm M a g N K) (hy : y < N) : Ci G y_MM_find (d + 3) [vr a, vi y] M (fun r M' => M' = M ∧ (-1 ≤ r ∧ r < K) ∧ fdx M a K y r) := by
  have w := h.1.1
  have hN := h.1.2.2
  obtain ⟨n1, n2, n3, n4, n5'⟩ := hn
  have r13 : mR M a 13 = a + 85 := w.1.2.2.2.2.1.1
  have l1 : mI M (a + 85) 1 = K := n1
  refine k_MM_find hO (i32s (by omega) (by omega)) ?_
  suffices H : ∀ (c k : Nat) (f : Int), k + c = K → -1 ≤ f → f < K → fdx M a k y f → h_MM_find_4 G (d + 2) a y f k M (fun r M' => M' = M ∧ (-1 ≤ r ∧ r < K) ∧ fdx M a K y r) from
    H K 0 (-1) (by omega) (by omega) (by omega) (Or.inl ⟨rfl, fun k hk => absurd hk (by omega)⟩)
  intro c
  induction c with
  | zero =>
    intro k f hk f0 f1 fd
    refine k_MM_find_4 hO (i32s (by omega) (by omega)) (i32s (by omega) (by omega)) (i32s (by omega) (by omega)) ?_
    rw [r13, l1]
    exact ⟨w.1.1, (w.nu n85).1, fun _ => ⟨rfl, ⟨f0, f1⟩, by rw [show K = k by omega]; exact fd⟩, fun q => by omega⟩
  | succ c ih =>
    intro k f hk f0 f1 fd
    obtain ⟨⟨a1, a2⟩, -⟩ := n5' k (by omega)
    refine k_MM_find_4 hO (i32s (by omega) (by omega)) (i32s (by omega) (by omega)) (i32s (by omega) (by omega)) ?_
    rw [r13, l1]
    refine ⟨w.1.1, (w.nu n85).1, fun q => by omega, fun _ => (s_MN_at hO (w.nu n85) (by omega)).mono (fun z M1 e1 => ?_)⟩
    obtain ⟨e1, hz⟩ := e1
    subst e1
    refine ⟨by rw [hz]; exact (hO _ _).1, hO, w.1.1, ?_⟩
    rw [show z = ((z.toNat : Nat) : Int) by omega]
    refine (x_MM_sameWord (d := d) hO h (by omega) hy).mono (fun r M2 e2 => ?_)
    obtain ⟨e2, hr, hs⟩ := e2
    subst e2
    exact ⟨i32s (by omega) (by omega), hO, fun v hv => ih (k + 1) v (by omega) (by split at hv <;> omega) (by split at hv <;> omega) (by
      rw [hz] at hs
      split at hv
      · rename_i r0
        have ns : ¬ smx M2 a (nt M2 (a + 85) k).toNat y := fun u => by have := hs.mpr u; omega
        rw [hv]
        rcases fd with ⟨d1, d2⟩ | ⟨q, d1, d2, d3, d4⟩
        · refine Or.inl ⟨d1, fun k' hk' => ?_⟩
          by_cases c : k' < k
          · exact d2 k' c
          · rw [show k' = k by omega]; exact ns
        · refine Or.inr ⟨q, d1, by omega, d3, fun k' h1 h2 => ?_⟩
          by_cases c : k' < k
          · exact d4 k' h1 c
          · rw [show k' = k by omega]; exact ns
      · exact Or.inr ⟨k, by omega, by omega, hs.mp (by omega), fun k' h1 h2 => absurd h1 (by omega)⟩)⟩
end NAX
section LKX
variable {G : mG} {d a N g T K : Nat} {M M2 : mM}
/-- what names stand for: E kinds (-1 unknown), rv how they are resolved -/
def URq (M : mM) (a g N K : Nat) (co : Int) (E rv : Nat → Int) : Prop := ∀ (y : Nat) (r : Int), y < N → wk M a y = 1 → fdx M a K y r → ((r = -1 ∨ (co ≠ 0 ∧ nt M (a + 87) r.toNat ≠ 1)) → E y = -1) ∧ (¬ (r = -1 ∨ (co ≠ 0 ∧ nt M (a + 87) r.toNat ≠ 1)) → rv y = (if nt M (a + 87) r.toNat = 3 then 100 + nt M (a + 89) r.toNat else nt M (a + 89) r.toNat) ∧ E y = tn M g (rv y))
theorem LO.pm (w : Wd M a) (h : LO M a g N T K M2) (n : Nat) : pm M2 g n = pm M g n := by
  have hg := h.2.1.2.2.2.2.2.1
  exact (h.1.lst (tL_in hg (by omega)) (by omega)).2.1 n
/-- what a look leaves alone -/
theorem LO.txt (w : Wd M a) (h : LO M a g N T K M2) : (∀ k, nt M2 (a + 7) k = nt M (a + 7) k) ∧ (∀ k, nt M2 (a + 9) k = nt M (a + 9) k) ∧ (∀ k, nt M2 (mR M2 a 2) k = nt M (mR M a 2) k) ∧ (∀ k, nt M2 (a + 85) k = nt M (a + 85) k) ∧ (∀ k, nt M2 (a + 87) k = nt M (a + 87) k) ∧ (∀ k, nt M2 (a + 89) k = nt M (a + 89) k) ∧ wk M2 a = wk M a := by
  have hg := h.2.1.2.2.2.2.2.1
  have no := lkP_no hg w
  have r := h.1.rfl_a w (fun q hq => lkP_in hg hq)
  exact ⟨fun k => (h.1.lst n7 no.2.1).2.1 k, fun k => (h.1.lst n9 no.2.2.1).2.1 k, fun k => by rw [r]; exact (h.1.lst w.tape.2.1 no.2.2.2.1).2.1 k, fun k => (h.1.lst n85 no.2.2.2.2.1).2.1 k, fun k => (h.1.lst n87 no.2.2.2.2.2.1).2.1 k, fun k => (h.1.lst n89 no.2.2.2.2.2.2).2.1 k, funext (fun k => (h.1.lst n5 no.1).2.1 k)⟩
theorem LO.fd {y : Nat} {r : Int} (w : Wd M a) (h : LO M a g N T K M2) (k : fdx M2 a K y r) : fdx M a K y r := by
  obtain ⟨k1, k2, k3, k4, -⟩ := h.txt w
  have sm : ∀ x y, smx M2 a x y = smx M a x y := fun x y => by
    unfold smx
    simp only [k1, k2, k3]
  unfold fdx at k ⊢
  simp only [sm, k4] at k
  exact k
/-- looking up ends -/
def luX (co : Int) (M M2 : mM) (a g N T K n : Nat) (E rv : Nat → Int) (r : Int) (M3 : mM) : Prop := LO M a g N T K M3 ∧ (r = 0 ∨ r = 1) ∧ sameN M2 M3 (a + 93) ∧ sameN M2 M3 (a + 95) ∧ ((mI M3 a 16 = 2 ∧ (mI M3 a 17 = pm M g n ∧ E (va M2 g n).toNat = -1) ∧ ∀ k, va M3 g k = va M2 g k) ∨ (mI M3 a 16 = mI M2 a 16 ∧ (nmr co M g (va M3 g n) ∧ r = tn M g (va M3 g n) ∧ (va M3 g n = rv (va M2 g n).toNat ∧ E (va M2 g n).toNat = r)) ∧ ∀ k, k ≠ n → va M3 g k = va M2 g k))
theorem x_MM_lookUp {n : Nat} {co : Int} {E rv : Nat → Int} (hU : URq M a g N K co E rv) (hco : i32 co) (hw0 : Wd M a) (h : LO M a g N T K M2) (hn : n < T) (hv : 0 ≤ va M2 g n ∧ va M2 g n < N) (hw1 : wk M a (va M2 g n).toNat = 1) : Ci G y_MM_lookUp (d + 4) [vr a, vi n, vi co] M2 (luX co M M2 a g N T K n E rv) := by
  obtain ⟨hO, hx, hnm, hd, h10, hg, hb, hT⟩ := id h.2.1
  have w := hx.1.1
  have gp := w.gp hg
  obtain ⟨n1, n2, n3, n4, n5'⟩ := id hnm
  have r3 : mR M2 g 3 = g + 7 := gp.2.1.2.2.2.1
  have r1 : mR M2 g 1 = g + 3 := gp.2.1.2.1
  have r14 : mR M2 a 14 = a + 87 := w.1.2.2.2.2.1.2.1
  have r15 : mR M2 a 15 = a + 89 := w.1.2.2.2.2.1.2.2.1
  have u7 := w.nu (tL_in (a := a) (q := g + 7) hg (tLk7 g))
  have u3 := w.nu (tL_in (a := a) (q := g + 3) hg (tLk3 g))
  have l7 := hd (g + 7) (by first | exact tLk7 g | exact gLk7 g | omega)
  have l3 := hd (g + 3) (by first | exact tLk3 g | exact gLk3 g | omega)
  have c7 : (T : Int) ≤ cp M2 (g + 7) := by rw [← l7]; exact u7.2.2.2.1.2
  have gI := h.2.2.2.2
  -- a list is read
  have rd : ∀ {p k : Nat} {Q : Int → mM → Prop}, p ∈ nums a → (k : Int) < ln M2 p → (∀ z, z = nt M2 p k → i32 z → Q z M2) → Ci G y_MN_at (d + 3) [vr p, vi k] M2 Q := fun hp hk hQ => by
    refine (s_MN_at hO (w.nu hp) hk).mono (fun z M1 e1 => ?_)
    obtain ⟨e1, hz⟩ := e1
    subst e1
    exact hQ z hz (by rw [hz]; exact (hO _ _).1)
  -- the fault is told
  have flt : ∀ (y : Int), i32 y → y = pm M2 g n → E (va M2 g n).toNat = -1 → Cv G y_MM_stop (d + 3) [vr a, vi 2, vi y] M2 (fun M4 => mOk M4 ∧ luX co M M2 a g N T K n E rv 0 M4) := fun y hy yp yE => by
    refine (s_MM_stop (i32s (by omega) (by omega)) hy hO w).mono (fun M4 h4 => ?_)
    obtain ⟨m4, f1, f2, f3⟩ := h4
    have s7 := m4.lst (tL_in (a := a) (q := g + 7) hg (tLk7 g)) (fun z => z)
    exact ⟨m4.1, h.step m4 (fun q hq => hq.elim) (fun x hx => hx) s7.1 f3, Or.inl rfl, m4.lst n93 (fun z => z), m4.lst n95 (fun z => z), Or.inl ⟨f1, ⟨by rw [f2, yp]; exact h.pm hw0 n, yE⟩, fun k => s7.2.1 k⟩⟩
  refine k_MM_lookUp hO (i32s (by omega) (by omega)) hco ?_
  rw [h10, r3]
  refine ⟨w.1.1, gp.1, u7.1, rd (tL_in hg (by omega)) (by omega) (fun x1 e1 i1 => ⟨i1, hO, w.1.1, ?_⟩)⟩
  have e1' : x1 = va M2 g n := e1
  rw [show x1 = ((x1.toNat : Nat) : Int) by omega]
  refine (x_MM_find (d := d) hO hx hnm (by omega)).mono (fun k M3 h3 => ?_)
  obtain ⟨e3, ⟨k0, k1⟩, kf⟩ := h3
  subst e3
  obtain ⟨x1', x2', x3', x4', x5', x6', x7'⟩ := h.txt hw0
  have hUn := fun (_ : Unit) => hU x1.toNat k (by omega) (by rw [e1']; exact hw1) (h.fd hw0 kf)
  have fault : E (va M3 g n).toNat = -1 → Ci G y_MN_at (d + 3) [vr (g + 3), vi n] M3 (fun x18 M17 => i32 x18 ∧ mOk M17 ∧ (mK M17 a = 14 ∧ Cv G y_MM_stop (d + 3) [vr a, vi 2, vi x18] M17 (fun M21 => mOk M21 ∧ luX co M M3 a g N T K n E rv 0 M21))) := fun eE => rd (tL_in hg (by omega)) (by omega) (fun y ey iy => ⟨iy, hO, w.1.1, flt y iy ey eE⟩)
  -- the name's place among the known ones
  have good : ∀ (kk : Nat) (x : Int), kk < K → x = nt M3 (a + 89) kk → i32 x → (co ≠ 0 → nt M3 (a + 87) kk = 1) → (rv (va M3 g n).toNat = (if nt M3 (a + 87) kk = 3 then 100 + x else x) ∧ E (va M3 g n).toNat = tn M g (rv (va M3 g n).toNat)) → (mK M3 g = 16 ∧ mK M3 (g + 7) = 15 ∧ mK M3 (a + 87) = 15 ∧ Ci G y_MN_at (d + 3) [vr (a + 87), vi kk] M3 (fun x36 M35 => i32 x36 ∧ mOk M35 ∧ (∀ v39 : Int, v39 = (if (x36 = 3) then 100 + x else x) → mK M35 (mR M3 (g + 7) 0) = 30 ∧ ((0 : Int) ≤ n ∧ (n : Int) < (mN M35 (mR M3 (g + 7) 0) : Int)) ∧ i32 v39 ∧ ∀ M45, M45 = mUI M35 (mR M3 (g + 7) 0) (Int.toNat n) v39 → mK M45 a = 14 ∧ mK M45 (mR M45 a 14) = 15 ∧ Ci G y_MN_at (d + 3) [vr (mR M45 a 14), vi kk] M45 (fun x50 M49 => i32 x50 ∧ mOk M49 ∧ ((((x50 = 3) → (mK M49 a = 14 ∧ mK M49 (mR M49 a 10) = 16 ∧ mK M49 (mR M49 (mR M49 a 10) 13) = 31 ∧ ((0 : Int) ≤ x ∧ x < (mN M49 (mR M49 (mR M49 a 10) 13) : Int)))) ∧ (¬ (x50 = 3) → (mK M49 a = 14 ∧ mK M49 (mR M49 a 10) = 16 ∧ mK M49 (mR M49 (mR M49 a 10) 8) = 31 ∧ ((0 : Int) ≤ x ∧ x < (mN M49 (mR M49 (mR M49 a 10) 8) : Int))))) ∧ ∀ v61 : Int, v61 = (if (x50 = 3) then mI M49 (mR M49 (mR M49 a 10) 13) (Int.toNat x) else mI M49 (mR M49 (mR M49 a 10) 8) (Int.toNat x)) → i32 v61 ∧ ∀ v66 : Int, v66 = (if (v61 = 0) then 0 else 1) → luX co M M3 a g N T K n E rv v66 M49))))) := fun kk x hkk ex ix hc1 hrv => by
    obtain ⟨-, hk, hk1⟩ := n5' kk hkk
    rw [← ex] at hk hk1
    refine ⟨gp.1, u7.1, (w.nu n87).1, rd n87 (by omega) (fun s es is => ⟨is, hO, fun v hv => ⟨u7.2.1, ⟨by omega, by have : mN M3 (mR M3 (g + 7) 0) = cp M3 (g + 7) := rfl; omega⟩, i32s (by split at hv <;> omega) (by split at hv <;> omega), fun M4 e4 => ?_⟩⟩)⟩
    rw [← es] at hk hc1 hk1 hrv
    rw [Int.toNat_natCast] at e4
    obtain ⟨m4, l4, k4, -⟩ := mv_el (v := v) (i32s (by split at hv <;> omega) (by split at hv <;> omega)) hO w (tL_in (a := a) (q := g + 7) hg (tLk7 g)) e4
    have w4 := m4.2.1
    have f4 := (m4.fld w (fun q hq => by rw [hq]; exact tL_in hg (by omega)) (fun hq => hq)).1
    have L4 : LO M a g N T K M4 := h.step m4 (fun q hq => Or.inr (Or.inr hq)) (fun x hx => hx.elim) l4 (fun i _ _ => by rw [f4])
    have s87 := m4.lst (n87 (a := a)) (by omega)
    have gp4 := w4.gp hg
    have d4 : mR M4 a 10 = g := L4.2.1.2.2.2.2.1
    have r144 : mR M4 a 14 = a + 87 := w4.1.2.2.2.2.1.2.1
    rw [r144]
    refine ⟨w4.1.1, (w4.nu n87).1, (s_MN_at m4.1 (w4.nu n87) (by rw [s87.1]; omega)).mono (fun s' M5 e5 => ?_)⟩
    obtain ⟨e5, hs'⟩ := e5
    subst e5
    rw [s87.2.1, ← es] at hs'
    subst hs'
    rw [d4, gp4.2.2.1.1, gp4.2.1.2.2.2.2.2.2.2.1, gp4.2.2.2.2.1.1.2, gp4.2.2.2.1.2.1.2]
    refine ⟨is, m4.1, ⟨fun q => ⟨w4.1.1, gp4.1, gp4.2.2.2.2.1.1.1, by omega⟩, fun q => ⟨w4.1.1, gp4.1, gp4.2.2.2.1.2.1.1, by omega⟩⟩, fun u hu => ⟨by rw [hu]; split <;> exact (m4.1 _ _).1, fun z hz => ⟨L4, by split at hz <;> omega, m4.lst n93 (by omega), m4.lst n95 (by omega), Or.inr ⟨by rw [f4], ?_, fun k hk => by show nt M5 (g + 7) k = _; rw [k4 k, if_neg hk]⟩⟩⟩⟩
    show nmr co M g (nt M5 (g + 7) n) ∧ z = tn M g (nt M5 (g + 7) n) ∧ (nt M5 (g + 7) n = _ ∧ _)
    rw [k4 n, if_pos rfl]
    have zt : z = tn M g v := by
      obtain ⟨y1, y2⟩ := L4.tn hw0
      rw [hz, hu, y1, y2]
      unfold tn
      by_cases c3 : s' = 3
      · rw [if_pos c3] at hv
        rw [if_pos c3, hv, if_pos (show (100 : Int) ≤ 100 + x by omega), show (100 + x - 100).toNat = x.toNat by omega]
      · rw [if_neg c3] at hv
        rw [if_neg c3, hv, if_neg (show ¬ (100 : Int) ≤ x by omega)]
    refine ⟨?_, zt, by rw [hv, hrv.1], by rw [hrv.2, hrv.1, ← hv]; exact zt.symm⟩
    · unfold nmr
      rw [← gI]
      have f13 := h.fm hw0
      rw [← f13]
      by_cases c3 : s' = 3
      · rw [if_pos c3] at hv
        refine Or.inr ⟨?_, by omega, by omega, by omega⟩
        by_cases z0 : co = 0
        · exact z0
        · have := hc1 z0
          omega
      · rw [if_neg c3] at hv
        refine Or.inl ⟨by omega, by omega, by omega, fun z0 => ?_⟩
        rw [hv]
        exact hk1 (hc1 z0)
  refine ⟨i32s (by omega) (by omega), hO, fun q => ?_, fun q => ⟨fun q2 => ?_, fun q2 => ?_⟩⟩
  · rw [h10, r1]
    exact ⟨w.1.1, gp.1, u3.1, fault (by rw [← e1']; exact (hUn ()).1 (Or.inl (by omega)))⟩
  · rw [r15, show k = ((k.toNat : Nat) : Int) by omega]
    refine ⟨w.1.1, (w.nu n89).1, rd n89 (by omega) (fun x ex ix => ⟨ix, hO, w.1.1, ?_⟩)⟩
    rw [h10, r3, r14]
    exact good k.toNat x (by omega) ex ix (fun z => absurd q2 z) (by
      obtain ⟨u1, u2⟩ := (hUn ()).2 (by omega)
      rw [← e1', u2, u1, ex, x5', x6']
      exact ⟨rfl, rfl⟩)
  · rw [r14, show k = ((k.toNat : Nat) : Int) by omega]
    refine ⟨w.1.1, (w.nu n87).1, rd n87 (by omega) (fun s es is => ⟨is, hO, fun q3 => ?_, fun q3 => ?_⟩)⟩
    · rw [r15]
      refine ⟨w.1.1, (w.nu n89).1, rd n89 (by omega) (fun x ex ix => ⟨ix, hO, w.1.1, ?_⟩)⟩
      rw [h10, r3, r14]
      exact good k.toNat x (by omega) ex ix (fun _ => es.symm.trans q3) (by
        have s1 : nt M (a + 87) k.toNat = 1 := by rw [← x5']; exact es.symm.trans q3
        obtain ⟨u1, u2⟩ := (hUn ()).2 (by omega)
        rw [← e1', u2, u1, ex, x5', x6']
        exact ⟨rfl, rfl⟩)
    · rw [h10, r1]
      exact ⟨w.1.1, gp.1, u3.1, fault (by
        rw [← e1']
        refine (hUn ()).1 (Or.inr ⟨q2, ?_⟩)
        rw [← x5']
        exact fun u => q3 (es.trans u))⟩
end LKX
end
section
/-! The reference's look at a node, exactly. -/
section LAX
variable {G : mG} {d a N g T K n L : Nat} {M M2 M4 : mM}
/-- the parts' types fit the node -/
def gdt (s : Int) (k : Nat) (u : Nat → Int) : Prop := if s = 29 ∨ s = 30 ∨ s = 31 then ∀ j, j < k → u j = 1 else if s = 18 ∨ s = 23 then u 0 = u 1 else if s = 32 then u 0 = 1 ∧ u 1 = u 2 else ∀ j, j < k → u j = 0
/-- the node's own type -/
def tyt (s : Int) (u : Nat → Int) : Int := if s = 29 ∨ s = 30 ∨ s = 31 ∨ s = 18 ∨ s = 23 then 1 else if s = 32 then u 2 else if 19 ≤ s ∧ s ≤ 22 then 1 else 0
/-- a fault, or what becomes of the names -/
def laF (co : Int) (M M2 : mM) (a g n k : Nat) (u E rv : Nat → Int) (t : Int) (M3 : mM) : Prop := (mI M3 a 16 = 2 ∧ mI M3 a 17 = pm M g n ∧ so M2 g n = 1 ∧ E (va M2 g n).toNat = -1) ∨ (mI M3 a 16 = 3 ∧ mI M3 a 17 = pm M g n ∧ (so M2 g n ≠ 1 ∧ so M2 g n ≠ 2 ∧ so M2 g n ≠ 12 ∧ so M2 g n ≠ 13) ∧ ¬ gdt (so M2 g n) k u) ∨ (laE co M M2 a g n k u t M3 ∧ mI M3 a 16 = mI M2 a 16 ∧ (so M2 g n = 1 → va M3 g n = rv (va M2 g n).toNat ∧ E (va M2 g n).toNat = t ∧ t ≠ -1) ∧ ((so M2 g n ≠ 1 ∧ so M2 g n ≠ 2 ∧ so M2 g n ≠ 12 ∧ so M2 g n ≠ 13) → gdt (so M2 g n) k u ∧ t = tyt (so M2 g n) u))
def laX (co : Int) (M M2 : mM) (a g N T K n L k : Nat) (u E rv : Nat → Int) (M5 : mM) : Prop := LO M a g N T K M5 ∧ sameN M2 M5 (a + 95) ∧ ln M5 (a + 93) = (L + 1 : Nat) ∧ (∀ j, j < L → nt M5 (a + 93) j = nt M2 (a + 93) j) ∧ (nt M5 (a + 93) L = 0 ∨ nt M5 (a + 93) L = 1) ∧ laF co M M2 a g n k u E rv (nt M5 (a + 93) L) M5
theorem la386x {co : Int} {k : Nat} {u E rv : Nat → Int} {x : Int} (hx : x = 0 ∨ x = 1) (h : LO M a g N T K M4) (s93 : sameN M2 M4 (a + 93)) (s95 : sameN M2 M4 (a + 95)) (e : laF co M M2 a g n k u E rv x M4) (hL : ln M2 (a + 93) = (L + k : Nat)) (hb : L + k ≤ 65000) : h_MM_lookAt_386 G d a L x M4 (laX co M M2 a g N T K n L k u E rv) := by
  obtain ⟨hO, hw, -, -, -, hg, -, -⟩ := id h.2.1
  have w := hw.1.1
  have r19 : ∀ {M3 : mM}, Wd M3 a → mR M3 a 19 = a + 93 := fun w => w.1.2.2.2.2.1.2.2.2.2.1
  refine k_MM_lookAt_386 hO (i32s (by omega) (by omega)) (i32s (by omega) (by omega)) ?_
  rw [r19 w]
  refine ⟨w.1.1, (w.nu n93).1, fun M5 e5 => ?_⟩
  obtain ⟨m5, l5, t5, -⟩ := mv_set hO w n93 (v := (L : Int)) (by omega) (by rw [s93.1, hL]; omega) e5
  have w5 := m5.2.1
  have g7 : g + 7 ∈ nums a := tL_in hg (by omega)
  have f5 := (m5.fld w (fun q hq => by rw [hq]; exact n93) (fun hq => hq)).1
  have L5 : LO M a g N T K M5 := h.step m5 (fun q hq => Or.inl hq) (fun x hx => hx.elim) (m5.lst g7 (by omega)).1 (fun i _ _ => by rw [f5])
  rw [r19 w5]
  refine ⟨(w5.nu n93).1, (s_MN_addB (B := 65536) (i32s (by omega) (by omega)) m5.1 (w5.nu n93) (by rw [l5]; omega) (by decide)).mono (fun M6 t6 => ?_)⟩
  have m6 := mv_addB w5 n93 (Or.inr (Or.inl rfl)) t6
  have f6 := (m6.fld w5 (fun q hq => by rw [hq]; exact n93) (fun hq => hq)).1
  have L6 : LO M a g N T K M6 := L5.step m6 (fun q hq => Or.inl hq) (fun x hx => hx.elim) (m6.lst g7 (by omega)).1 (fun i _ _ => by rw [f6])
  obtain ⟨-, -, -, t1, t2, t3, -⟩ := t6
  rw [l5] at t1 t2 t3
  rw [Int.toNat_natCast] at t3
  have v6 : ∀ k, va M6 g k = va M4 g k := fun k => ((m6.lst g7 (by omega)).2.1 k).trans ((m5.lst g7 (by omega)).2.1 k)
  refine ⟨m6.1, L6, ?_, by rw [t1]; omega, fun j hj => by rw [t2 j (by omega), t5, s93.2.1], by rw [t3]; exact hx, ?_⟩
  · exact sameN.trans s95 (sameN.trans (m5.lst n95 (by omega)) (m6.lst n95 (by omega)))
  · unfold laF laE at e ⊢
    rw [f6, f5, t3]
    simp only [v6]
    exact e
theorem su_all1 {u : Nat → Int} : ∀ {k : Nat}, (∀ j, j < k → u j = 1) → su u k = k
  | 0, _ => rfl
  | k + 1, h => by rw [su, su_all1 (fun j hj => h j (by omega)), h k (by omega)]; omega
theorem su_all0 {u : Nat → Int} : ∀ {k : Nat}, (∀ j, j < k → u j = 0) → su u k = 0
  | 0, _ => rfl
  | k + 1, h => by rw [su, su_all0 (fun j hj => h j (by omega)), h k (by omega)]; rfl
theorem x_MM_lookAt {nm : Int → Prop} {k : Nat} {u E rv : Nat → Int} {co : Int} (hU : URq M a g N K co E rv) (hco : i32 co) (hw0 : Wd M a) (h : LO M a g N T K M2) (hn : n < T) (hk : pks nm M2 g T n k) (hv : so M2 g n = 1 → (0 ≤ va M2 g n ∧ va M2 g n < N) ∧ wk M a (va M2 g n).toNat = 1) (hL : ln M2 (a + 93) = (L + k : Nat)) (hb : L + k ≤ 65000) (hu : ∀ j, j < k → nt M2 (a + 93) (L + j) = u j) (h01 : ∀ j, j < k → u j = 0 ∨ u j = 1) : Cv G y_MM_lookAt (d + 5) [vr a, vi n, vi co] M2 (fun M5 => mOk M5 ∧ laX co M M2 a g N T K n L k u E rv M5) := by
  refine Cv.mono (Q := laX co M M2 a g N T K n L k u E rv) ?_ (fun M5 h5 => ⟨h5.1.2.1.1, h5⟩)
  obtain ⟨hO, hx, -, hd, h10, hg, -, hT⟩ := id h.2.1
  have w := hx.1.1
  have gp := w.gp hg
  have r0 : mR M2 g 0 = g + 1 := gp.2.1.1
  have r1 : mR M2 g 1 = g + 3 := gp.2.1.2.1
  have r19 : mR M2 a 19 = a + 93 := w.1.2.2.2.2.1.2.2.2.2.1
  have u1 := w.nu (tL_in (a := a) (q := g + 1) hg (tLk1 g))
  have u3 := w.nu (tL_in (a := a) (q := g + 3) hg (tLk3 g))
  have l1 := hd (g + 1) (by first | exact tLk1 g | exact gLk1 g | omega)
  have l3 := hd (g + 3) (by first | exact tLk3 g | exact gLk3 g | omega)
  have l93 : mI M2 (a + 93) 1 = (L + k : Nat) := hL
  have rd : ∀ {p j : Nat} {Q : Int → mM → Prop}, p ∈ nums a → (j : Int) < ln M2 p → (∀ z, z = nt M2 p j → i32 z → Q z M2) → Ci G y_MN_at (d + 4) [vr p, vi j] M2 Q := fun hp hk hQ => by
    refine (s_MN_at hO (w.nu hp) hk).mono (fun z M1 e1 => ?_)
    obtain ⟨e1, hz⟩ := e1
    subst e1
    exact hQ z hz (by rw [hz]; exact (hO _ _).1)
  have ok : ∀ (x : Int), (x = 0 ∨ x = 1) → so M2 g n ≠ 1 → tyn (tn M g) (so M2 g n) (va M2 g n) k u x → ((so M2 g n ≠ 1 ∧ so M2 g n ≠ 2 ∧ so M2 g n ≠ 12 ∧ so M2 g n ≠ 13) → gdt (so M2 g n) k u ∧ x = tyt (so M2 g n) u) → h_MM_lookAt_386 G (d + 4) a L x M2 (laX co M M2 a g N T K n L k u E rv) := fun x hx hs ht hgd => la386x hx h sameN.refl sameN.refl (Or.inr (Or.inr ⟨Or.inr ⟨rfl, fun z => absurd z hs, fun _ _ => rfl, ht⟩, rfl, fun z => absurd z hs, hgd⟩)) hL hb
  have flt : ∀ (p x : Int), i32 p → (x = 0 ∨ x = 1) → p = pm M2 g n → (so M2 g n ≠ 1 ∧ so M2 g n ≠ 2 ∧ so M2 g n ≠ 12 ∧ so M2 g n ≠ 13) → ¬ gdt (so M2 g n) k u → Cv G y_MM_stop (d + 4) [vr a, vi 3, vi p] M2 (fun M4 => mOk M4 ∧ h_MM_lookAt_386 G (d + 4) a L x M4 (laX co M M2 a g N T K n L k u E rv)) := fun p x hp hx pp ps pg => by
    refine (s_MM_stop (i32s (by omega) (by omega)) hp hO w).mono (fun M4 h4 => ?_)
    obtain ⟨m4, f1, f2, f3⟩ := h4
    have s7 := m4.lst (tL_in (a := a) (q := g + 7) hg (tLk7 g)) (fun z => z)
    exact ⟨m4.1, la386x hx (h.step m4 (fun q hq => hq.elim) (fun x hx => hx) s7.1 f3) (m4.lst n93 (fun z => z)) (m4.lst n95 (fun z => z)) (Or.inr (Or.inl ⟨f1, by rw [f2, pp]; exact h.pm hw0 n, ps, pg⟩)) hL hb⟩
  refine k_MM_lookAt hO (i32s (by omega) (by omega)) hco ?_
  rw [h10, r0]
  refine ⟨w.1.1, gp.1, u1.1, rd (tL_in hg (by omega)) (by omega) (fun s es is => ⟨is, hO, w.1.1, ?_⟩)⟩
  rw [h10, r1]
  refine ⟨gp.1, u3.1, rd (tL_in hg (by omega)) (by omega) (fun p ep ip => ⟨ip, hO, w.1.1, (s_MM_parts (d := d + 3) h hn hk).mono (fun r M3 e3 => ?_)⟩)⟩
  obtain ⟨e3, hr⟩ := e3
  subst e3
  subst hr
  have es' : s = so M3 g n := es
  rw [← es'] at hv ok flt
  have hkb : k ≤ 30000 := by rcases hk with q | q <;> omega
  rw [r19, l93, show ((L + k : Nat) : Int) - (k : Int) = (L : Int) by omega]
  refine ⟨i32s (by omega) (by omega), hO, w.1.1, (w.nu n93).1, ?_⟩
  suffices H : ∀ (c j : Nat), c + j = k → h_MM_lookAt_51 G (d + 4) a n co s p k L (su u j) (L + j : Nat) M3 (laX co M M3 a g N T K n L k u E rv) by
    have := H k 0 (by omega)
    rw [show L + 0 = L by omega] at this
    exact this
  intro c
  induction c with
  | succ c ih =>
    intro j hj
    have sb := su_b (k := j) (fun i hi => h01 i (by omega))
    refine k_MM_lookAt_51 hO (i32s (by omega) (by omega)) hco is ip (i32s (by omega) (by omega)) (i32s (by omega) (by omega)) (i32s (by omega) (by omega)) ⟨by omega, by omega⟩ ?_
    rw [r19, l93]
    refine ⟨w.1.1, (w.nu n93).1, fun q => by omega, fun _ => rd n93 (by rw [hL]; omega) (fun z hz iz => ⟨iz, hO, ?_⟩)⟩
    rw [hu j (by omega)] at hz
    have := ih (j + 1) (by omega)
    rw [show ((L + (j + 1) : Nat) : Int) = ((L + j : Nat) : Int) + 1 by omega, su, ← hz] at this
    exact this
  | zero =>
    intro j hj
    have hjk : j = k := by omega
    subst hjk
    obtain ⟨sb1, sb2, sb3, sb4⟩ := su_b (k := j) h01
    have ny : ∀ {t : Int}, s ≠ 1 → s ≠ 2 → ¬ (s = 12 ∨ s = 13) → tyr s j u t → tyn (tn M g) s (va M3 g n) j u t := fun y1 y2 y3 y4 => by
      unfold tyn
      rw [if_neg y1, if_neg y2, if_neg y3]
      exact y4
    have hk2 : s = 18 ∨ s = 23 → j = 2 := fun y => by
      rcases hk with ⟨-, -, z⟩ | ⟨-, -, z, -⟩
      · omega
      · unfold ari at z; omega
    refine k_MM_lookAt_51 hO (i32s (by omega) (by omega)) hco is ip (i32s (by omega) (by omega)) (i32s (by omega) (by omega)) (i32s (by omega) (by omega)) ⟨by omega, by omega⟩ ?_
    rw [r19, l93]
    have ep' : p = pm M3 g n := ep
    refine ⟨w.1.1, (w.nu n93).1, fun _ => ⟨fun q1 => ?_, fun q1 => ⟨fun q2 => ⟨fun z => absurd z (by decide), fun _ => ok 0 (Or.inl rfl) q1 (by unfold tyn; rw [if_neg q1, if_pos q2]) (fun z => absurd q2 z.2.1)⟩, fun q2 => ⟨fun q3 => ⟨fun z => absurd z (by decide), fun _ => ok 1 (Or.inr rfl) q1 (by unfold tyn; rw [if_neg q1, if_neg q2, if_pos q3]) (fun z => absurd q3 (by omega))⟩, fun q3 => ⟨fun q4 v hv => ⟨fun z => flt p 1 ip (Or.inr rfl) ep' ⟨q1, q2, by omega, by omega⟩ ?_, fun z => ok 1 (Or.inr rfl) q1 (ny q1 q2 q3 ?_) (fun _ => ?_)⟩, fun q4 => ⟨fun q5 v hv => ⟨fun z => flt p 1 ip (Or.inr rfl) ep' ⟨q1, q2, by omega, by omega⟩ ?_, fun z => ok 1 (Or.inr rfl) q1 (ny q1 q2 q3 ?_) (fun _ => ?_)⟩, fun q5 => ⟨fun q6 => ?_, fun q6 v hv => k_MM_isComparison hO is (fun v7 h7 => ⟨i32s (by split at h7 <;> omega) (by split at h7 <;> omega), hO, fun x hx => ⟨fun z => ⟨w.1.1, flt p x ip (by split at hx <;> omega) ep' ⟨q1, q2, by omega, by omega⟩ ?_⟩, fun z => ok x (by split at hx <;> omega) q1 (ny q1 q2 q3 ?_) (fun _ => ?_)⟩⟩)⟩⟩⟩⟩⟩⟩, fun q => absurd (Int.le_refl _) q⟩
    · refine (x_MM_lookUp (d := d) hU hco hw0 h hn (hv q1).1 (hv q1).2).mono (fun x M4 h4 => ?_)
      obtain ⟨h4, x01, t93, t95, t⟩ := h4
      refine ⟨i32s (by omega) (by omega), h4.2.1.1, fun z => absurd z (by decide), fun _ => la386x x01 h4 t93 t95 ?_ hL hb⟩
      rcases t with ⟨t, ⟨t5, t6⟩, -⟩ | ⟨t1, ⟨t2, t4, t7, t8⟩, t3⟩
      · exact Or.inl ⟨t, t5, es'.symm.trans q1, t6⟩
      · refine Or.inr (Or.inr ⟨Or.inr ⟨t1, fun _ => t2, fun i hi => t3 i (by rcases hi with z | z; exact z; exact absurd (es'.symm.trans q1) z), ?_⟩, t1, fun _ => ⟨t7, t8, by omega⟩, fun z => absurd (es'.symm.trans q1) z.1⟩)
        unfold tyn
        rw [← es', if_pos q1]
        exact t4
    · -- the same: bad
      have j2 := hk2 q4
      have sm1 : su u j = 1 := by
        by_cases y : su u j = 1
        · exact y
        · rw [if_neg y] at hv; rw [hv] at z; exact absurd z (by decide)
      subst j2
      have : su u 2 = 0 + u 0 + u 1 := rfl
      unfold gdt
      rw [if_neg (by omega), if_pos q4]
      omega
    · have j2 := hk2 q4
      have sm1 : su u j ≠ 1 := fun y => by rw [if_pos y] at hv; exact z hv
      subst j2
      have u0 := h01 0 (by omega)
      have u1 := h01 1 (by omega)
      have : su u 2 = 0 + u 0 + u 1 := rfl
      unfold tyr
      rw [if_neg (by omega), if_pos q4]
      exact ⟨by omega, rfl⟩
    · have j2 := hk2 q4
      have sm1 : su u j ≠ 1 := fun y => by rw [if_pos y] at hv; exact z hv
      subst j2
      have u0 := h01 0 (by omega)
      have u1 := h01 1 (by omega)
      have : su u 2 = 0 + u 0 + u 1 := rfl
      unfold gdt tyt
      rw [if_neg (by omega), if_pos q4, if_pos (by omega)]
      exact ⟨by omega, rfl⟩
    · unfold gdt
      rw [if_pos q5]
      intro y
      have y2 := su_all1 y
      rw [if_pos y2] at hv
      rw [hv] at z
      exact absurd z (by decide)
    · unfold tyr
      rw [if_pos q5]
      refine ⟨sb3 ?_, rfl⟩
      by_cases y : su u j = (j : Int)
      · exact y
      · rw [if_neg y] at hv; exact absurd hv z
    · unfold gdt tyt
      rw [if_pos q5, if_pos (by omega)]
      refine ⟨sb3 ?_, rfl⟩
      by_cases y : su u j = (j : Int)
      · exact y
      · rw [if_neg y] at hv; exact absurd hv z
    · have k3 : j = 3 := by
        rcases hk with ⟨-, -, z⟩ | ⟨-, -, z, -⟩
        · omega
        · unfold ari at z; omega
      subst k3
      have g334 : ∀ (b : Int), (b = 0 ∨ b = 1) → (b = 1 ↔ u 0 = 1 ∧ u 1 = u 2) → h_MM_lookAt_334 G (d + 4) a p L b M3 (laX co M M3 a g N T K n L 3 u E rv) := fun b hb2 hb3 => by
        refine k_MM_lookAt_334 hO ip (i32s (by omega) (by omega)) (i32s (by omega) (by omega)) ?_
        rw [r19]
        refine ⟨w.1.1, (w.nu n93).1, (s_MN_last hO (w.nu n93) (by rw [hL]; omega)).mono (fun z M1 e1 => ?_)⟩
        obtain ⟨e1, hz⟩ := e1
        subst e1
        have z01 := h01 2 (by omega)
        rw [hL, show (((L + 3 : Nat) : Int) - 1).toNat = L + 2 by omega, hu 2 (by omega)] at hz
        rw [← hz] at z01
        refine ⟨i32s (by omega) (by omega), hO, fun y => ⟨w.1.1, flt p z ip z01 ep' ⟨q1, q2, by omega, by omega⟩ (by unfold gdt; rw [if_neg q5, if_neg q4, if_pos q6]; exact fun qq => by have := hb3.mpr qq; omega)⟩, fun y => ok z z01 q1 (ny q1 q2 q3 ?_) (fun _ => by unfold gdt tyt; rw [if_neg q5, if_neg q4, if_pos q6, if_neg (by omega), if_pos q6]; exact ⟨hb3.mp (by omega), hz⟩)⟩
        obtain ⟨y1, y2⟩ := hb3.mp (by omega)
        unfold tyr
        rw [if_neg q5, if_neg q4, if_pos q6]
        exact ⟨y1, y2.trans hz.symm, hz.symm⟩
      refine rd n93 (by rw [hL]; omega) (fun z hz iz => ⟨iz, hO, fun c1 => ?_, fun c1 => g334 0 (Or.inl rfl) ⟨fun y => by omega, fun y => absurd (by rw [hz]; exact (hu 0 (by omega)).trans y.1) c1⟩⟩)
      have hz0 : z = u 0 := hz.trans (hu 0 (by omega))
      rw [r19]
      refine ⟨w.1.1, (w.nu n93).1, ?_⟩
      rw [show (L : Int) + 1 = ((L + 1 : Nat) : Int) by omega]
      refine rd n93 (by rw [hL]; omega) (fun z2 hz2 iz2 => ⟨iz2, hO, w.1.1, ?_⟩)
      rw [hu 1 (by omega)] at hz2
      rw [r19]
      refine ⟨(w.nu n93).1, ?_⟩
      rw [show (L : Int) + 2 = ((L + 2 : Nat) : Int) by omega]
      exact rd n93 (by rw [hL]; omega) (fun z3 hz3 iz3 => ⟨iz3, hO, fun y => g334 1 (Or.inr rfl) ⟨fun _ => by rw [hu 2 (by omega)] at hz3; omega, fun _ => rfl⟩, fun y => g334 0 (Or.inl rfl) ⟨fun y => by omega, fun yy => absurd (by rw [hu 2 (by omega)] at hz3; omega) y⟩⟩)
    · unfold gdt
      rw [if_neg q5, if_neg q4, if_neg q6]
      intro y
      have y2 := su_all0 y
      rw [if_pos y2] at hv
      rw [hv] at z
      exact absurd z (by decide)
    · unfold tyr
      rw [if_neg q5, if_neg q4, if_neg q6]
      refine ⟨sb4 ?_, ?_⟩
      · by_cases y : su u j = 0
        · exact y
        · rw [if_neg y] at hv; exact absurd hv z
      · rw [hx, h7]
        by_cases y : 19 ≤ s ∧ s ≤ 22
        · rw [if_pos y, if_pos (show s = 23 ∨ s = 18 ∨ s = 21 ∨ s = 19 ∨ s = 22 ∨ s = 20 by omega)]; rfl
        · rw [if_neg y, if_neg (show ¬ (s = 23 ∨ s = 18 ∨ s = 21 ∨ s = 19 ∨ s = 22 ∨ s = 20) by omega)]; rfl
    · unfold gdt tyt
      rw [if_neg q5, if_neg q4, if_neg q6, if_neg (by omega), if_neg q6]
      refine ⟨sb4 ?_, ?_⟩
      · by_cases y : su u j = 0
        · exact y
        · rw [if_neg y] at hv; exact absurd hv z
      · rw [hx, h7]
        by_cases y : 19 ≤ s ∧ s ≤ 22
        · rw [if_pos y, if_pos (show s = 23 ∨ s = 18 ∨ s = 21 ∨ s = 19 ∨ s = 22 ∨ s = 20 by omega)]; rfl
        · rw [if_neg y, if_neg (show ¬ (s = 23 ∨ s = 18 ∨ s = 21 ∨ s = 19 ∨ s = 22 ∨ s = 20) by omega)]; rfl
end LAX
end
section
/-! What the parts of a node mean. -/
section PTS
variable {w E pl nv S A V F B : Nat → Int}
/-- the first fault of some rules, one after another -/
noncomputable def flr (w E pl : Nat → Int) : List (Nat × Nat) → Int × Int
  | [] => (0, 0)
  | r :: rs => fst9 (fl w E pl 0 r.1 r.2) (flr w E pl rs)
/-- their kinds -/
noncomputable def kdl (w E : Nat → Int) (rs : List (Nat × Nat)) (t : Nat) : Int := kdq w E 0 (rs.getD t (0, 0)).1 (rs.getD t (0, 0)).2
theorem flr_app : ∀ (rs rs' : List (Nat × Nat)), flr w E pl (rs ++ rs') = fst9 (flr w E pl rs) (flr w E pl rs')
  | [], rs' => (fst9_0 _).symm
  | r :: rs, rs' => by
    show fst9 _ (flr w E pl (rs ++ rs')) = fst9 (fst9 _ _) _
    rw [flr_app rs rs', fst9_a]
theorem fl_zz : ∀ (f c i j : Nat), 2 * (j - i) + c ≤ f → Eoc w c i j → (fl w E pl c i j).1 = 0 → fl w E pl c i j = (0, 0) := by
  have f2 : ∀ {a b : Int × Int}, (a.1 = 0 → a = (0, 0)) → (b.1 = 0 → b = (0, 0)) → (fst9 a b).1 = 0 → fst9 a b = (0, 0) := fun ha hb h => by
    obtain ⟨h1, h2⟩ := fst9_1.mp h
    rw [ha h1, fst9_0, hb h2]
  have fk : ∀ {p : Prop} {x : Int}, (kft p x).1 = 0 → kft p x = (0, 0) := fun {p x} h => by
    have := kft_1.mp h
    unfold kft
    rw [if_pos this]
  refine Eo_ind (P := fun c i j => (fl w E pl c i j).1 = 0 → fl w E pl c i j = (0, 0)) ?_ ?_ ?_ ?_ ?_ ?_ ?_ ?_
  · intro i m q j h1 h2 h3 h4 h5 h6 h7 h8 _ _ _ i1 i2 i3
    rw [fl_ask h1 h2 h3 h6 h8]
    exact f2 (f2 (f2 i1 i2) i3) fk
  · intro i m j h1 h2 h3 h4 _ _ i1 i2
    rw [fl_bin h1 h2 h3 (by omega)]
    exact f2 (f2 i1 i2) fk
  · intro i j h1 h2 h3 _ _ i1
    rw [fl_par h1 h2 h3]
    exact i1
  · intro i j h1 h2 h3 _ i1
    rcases h3 with h3 | h3
    · rw [fl_neg h1 h2 h3]; exact f2 i1 fk
    · rw [fl_not h1 h2 h3]; exact f2 i1 fk
  · intro i h1 h3
    rw [fl_leaf h1 (by omega) h3]
    split
    · intro h; exact absurd h (by simp)
    · intro _; rfl
  · intro i j h1 h2 h3 _ _ i1
    rw [fl_lst h1 h2 h3]
    exact f2 i1 fk
  · intro i j h1 h2 _ i1
    rw [fl_l1 h1 h2]
    exact i1
  · intro i m j h1 h2 h3 h4 h5 _ _ i1 i2
    rw [fl_ln h1 h4 h2]
    exact f2 i1 i2
theorem fl_z {i j : Nat} (he : Eo w 6 i j) (h : (fl w E pl 0 i j).1 = 0) : fl w E pl 0 i j = (0, 0) := fl_zz _ 0 i j (Nat.le_refl _) (Or.inl ⟨rfl, he⟩) h
theorem kf_01 : ∀ (f c i j : Nat), 2 * (j - i) + c ≤ f → Eoc w c i j → kdq w E c i j = 0 ∨ kdq w E c i j = 1 := by
  refine Eo_ind (P := fun c i j => kdq w E c i j = 0 ∨ kdq w E c i j = 1) ?_ ?_ ?_ ?_ ?_ ?_ ?_ ?_
  · intro i m q j h1 h2 h3 h4 h5 h6 h7 h8 _ _ _ i1 i2 i3
    rw [kd_ask h1 h2 h3 h6 h8]; exact i3
  · intro i m j h1 h2 h3 h4 _ _ i1 i2
    rw [kd_bin h1 h2 h3 (by omega)]
    split
    · exact Or.inr rfl
    · exact Or.inl rfl
  · intro i j h1 h2 h3 _ _ i1
    rw [kd_par h1 h2 h3]; exact i1
  · intro i j h1 h2 h3 _ i1
    rcases h3 with h3 | h3
    · rw [kd_num h1 h2 (Or.inl h3)]; exact Or.inl rfl
    · rw [kd_tru h1 h2 (Or.inl h3)]; exact Or.inr rfl
  · intro i h1 h3
    rcases h3 with h3 | h3 | h3
    · rw [kd_nam h1 (by omega) h3]
      split
      · exact Or.inr rfl
      · exact Or.inl rfl
    · rw [kd_num h1 (by omega) (Or.inr (Or.inl h3))]; exact Or.inl rfl
    · rw [kd_tru h1 (by omega) (Or.inr h3)]; exact Or.inr rfl
  · intro i j h1 h2 h3 _ _ i1
    rw [kd_num h1 h2 (Or.inr (Or.inr h3))]; exact Or.inl rfl
  · intro i j h1 h2 _ i1
    rw [kd_l1 h1 h2]; exact i1
  · intro i m j h1 h2 h3 h4 h5 _ _ i1 i2
    rw [kd_ln h1 h4 h2]
    split
    · exact Or.inr rfl
    · exact Or.inl rfl
theorem kf01 {i j : Nat} (h : Eo w 6 i j) : kdq w E 0 i j = 0 ∨ kdq w E 0 i j = 1 := kf_01 _ 0 i j (Nat.le_refl _) (Or.inl ⟨rfl, h⟩)
theorem kdl_01 {rs : List (Nat × Nat)} (h : ∀ r, r ∈ rs → Eo w 6 r.1 r.2) {t : Nat} (ht : t < rs.length) : kdl w E rs t = 0 ∨ kdl w E rs t = 1 := by
  unfold kdl
  rw [List.getD_eq_getElem?_getD, List.getElem?_eq_getElem ht]
  exact kf01 (h _ (List.getElem_mem ht))
theorem Tbq.app {i' j' e : Nat} {x : Int} : ∀ (rs : List (Nat × Nat)) {n k : Nat}, Tbq w pl nv S A V F B (k : Int) rs n k → Td w pl nv S A V F B 0 0 i' j' k e → B k = x → Tbq w pl nv S A V F B x (rs ++ [(i', j')]) n e
  | [], _, _, h, _, _ => h.elim
  | [(i, j)], n, k, h, h2, h3 => ⟨k, h.1, h.2, h2, h3⟩
  | (i, j) :: r :: rs, n, k, h, h2, h3 => by
    obtain ⟨m, k1, k2, k3⟩ := h
    exact ⟨m, k1, k2, Tbq.app (r :: rs) k3 h2 h3⟩
theorem td_tb : ∀ (f c i j : Nat), 2 * (j - i) + c ≤ f → Eoc w c i j → c = 1 → ∀ (x : Int) (n e : Nat), Td w pl nv S A V F B c x i j n e → ∃ rs : List (Nat × Nat), rs ≠ [] ∧ (∀ r, r ∈ rs → Eo w 6 r.1 r.2) ∧ Tbq w pl nv S A V F B x rs n e ∧ fl w E pl 1 i j = flr w E pl rs ∧ (kdq w E 1 i j = 1 ↔ ∃ t, t < rs.length ∧ kdl w E rs t = 1) := by
  refine Eo_ind (P := fun c i j => c = 1 → ∀ (x : Int) (n e : Nat), Td w pl nv S A V F B c x i j n e → ∃ rs : List (Nat × Nat), rs ≠ [] ∧ (∀ r, r ∈ rs → Eo w 6 r.1 r.2) ∧ Tbq w pl nv S A V F B x rs n e ∧ fl w E pl 1 i j = flr w E pl rs ∧ (kdq w E 1 i j = 1 ↔ ∃ t, t < rs.length ∧ kdl w E rs t = 1)) ?_ ?_ ?_ ?_ ?_ ?_ ?_ ?_
  · intros; omega
  · intros; omega
  · intros; omega
  · intros; omega
  · intros; omega
  · intros; omega
  · intro i j h1 h2 he i1 _ x n e ht
    rw [Td_l1 h1 h2] at ht
    refine ⟨[(i, j)], by simp, fun r hr => by rw [List.mem_singleton.1 hr]; exact he, ht, ?_, ?_⟩
    · rw [fl_l1 h1 h2]
      show _ = fst9 (fl w E pl 0 i j) (0, 0)
      unfold fst9
      split
      · rename_i h0; exact fl_z he h0
      · rfl
    · rw [kd_l1 h1 h2]
      refine ⟨fun h => ⟨0, by simp, h⟩, fun ⟨t, h3, h4⟩ => ?_⟩
      have : t = 0 := by simp at h3; omega
      subst this
      exact h4
  · intro i m j h1 h2 h3 h4 h5 o1 o2 i1 i2 _ x n e ht
    rw [Td_ln h1 h4 h2] at ht
    obtain ⟨k, t1, t2, b1⟩ := ht
    obtain ⟨rs, r1, r2, r3, r4, r5⟩ := i1 rfl _ _ _ t1
    have gl : ∀ t, t < rs.length → kdl w E (rs ++ [(m + 1, j)]) t = kdl w E rs t := fun t h => by
      unfold kdl
      rw [List.getD_eq_getElem?_getD, List.getD_eq_getElem?_getD, List.getElem?_append_left h]
    have gr : kdl w E (rs ++ [(m + 1, j)]) rs.length = kdq w E 0 (m + 1) j := by
      unfold kdl
      rw [List.getD_eq_getElem?_getD, List.getElem?_append_right (Nat.le_refl _), Nat.sub_self]
      rfl
    refine ⟨rs ++ [(m + 1, j)], by simp, fun r hr => ?_, r3.app rs t2 b1, ?_, ?_⟩
    · rcases List.mem_append.1 hr with q | q
      · exact r2 r q
      · rw [List.mem_singleton.1 q]; exact o2
    · rw [fl_ln h1 h4 h2, r4, flr_app]
      congr 1
      show _ = fst9 (fl w E pl 0 (m + 1) j) (0, 0)
      unfold fst9
      split
      · rename_i h0; exact fl_z o2 h0
      · rfl
    · rw [kd_ln h1 h4 h2]
      constructor
      · intro h
        by_cases c1 : kdq w E 0 (m + 1) j = 1
        · exact ⟨rs.length, by simp, by rw [gr]; exact c1⟩
        · by_cases c2 : kdq w E 1 i m = 1
          · obtain ⟨t, h6, h7⟩ := r5.mp c2
            exact ⟨t, by simp; omega, by rw [gl t h6]; exact h7⟩
          · rw [if_neg (fun q => q.elim c2 c1)] at h
            exact absurd h (by decide)
      · intro ⟨t, h6, h7⟩
        rw [if_pos]
        simp at h6
        by_cases c : t < rs.length
        · rw [gl t c] at h7
          exact Or.inl (r5.mpr ⟨t, c, h7⟩)
        · rw [show t = rs.length by omega, gr] at h7
          exact Or.inr h7
theorem kft_cg {p q : Prop} {x : Int} (h : p ↔ q) : kft p x = kft q x := by rw [propext h]
/-- a leaf, or a node with parts -/
theorem td_node : ∀ (f c i j : Nat), 2 * (j - i) + c ≤ f → Eoc w c i j → c = 0 → ∀ (x : Int) (n e : Nat), Td w pl nv S A V F B c x i j n e →
    (F n = -1 ∧ e = n + 1 ∧ ∃ k, (i ≤ k ∧ k < j) ∧ (w k = 1 ∨ w k = 2 ∨ w k = 12 ∨ w k = 13) ∧ S n = w k ∧ A n = pl k ∧ V n = nv k ∧ fl w E pl 0 i j = (if w k = 1 ∧ E k = -1 then (2, pl k) else (0, 0)) ∧ kdq w E 0 i j = (if w k = 12 ∨ w k = 13 ∨ (w k = 1 ∧ E k = 1) then 1 else 0))
    ∨ (F n = ((n + 1 : Nat) : Int) ∧ ∃ rs : List (Nat × Nat), rs ≠ [] ∧ (∀ r, r ∈ rs → Eo w 6 r.1 r.2) ∧ Tbq w pl nv S A V F B (-1) rs (n + 1) e ∧ (S n ≠ 1 ∧ S n ≠ 2 ∧ S n ≠ 12 ∧ S n ≠ 13) ∧ ari (S n) rs.length ∧ fl w E pl 0 i j = fst9 (flr w E pl rs) (kft (gdt (S n) rs.length (kdl w E rs)) (A n)) ∧ kdq w E 0 i j = tyt (S n) (kdl w E rs)) := by
  have fz : ∀ {i j : Nat}, Eo w 6 i j → fst9 (fl w E pl 0 i j) (0, 0) = fl w E pl 0 i j := fun {i j} he => by
    unfold fst9
    split
    · rename_i h0; exact (fl_z he h0).symm
    · rfl
  refine Eo_ind (P := fun c i j => c = 0 → ∀ (x : Int) (n e : Nat), Td w pl nv S A V F B c x i j n e → (F n = -1 ∧ e = n + 1 ∧ ∃ k, (i ≤ k ∧ k < j) ∧ (w k = 1 ∨ w k = 2 ∨ w k = 12 ∨ w k = 13) ∧ S n = w k ∧ A n = pl k ∧ V n = nv k ∧ fl w E pl 0 i j = (if w k = 1 ∧ E k = -1 then (2, pl k) else (0, 0)) ∧ kdq w E 0 i j = (if w k = 12 ∨ w k = 13 ∨ (w k = 1 ∧ E k = 1) then 1 else 0)) ∨ (F n = ((n + 1 : Nat) : Int) ∧ ∃ rs : List (Nat × Nat), rs ≠ [] ∧ (∀ r, r ∈ rs → Eo w 6 r.1 r.2) ∧ Tbq w pl nv S A V F B (-1) rs (n + 1) e ∧ (S n ≠ 1 ∧ S n ≠ 2 ∧ S n ≠ 12 ∧ S n ≠ 13) ∧ ari (S n) rs.length ∧ fl w E pl 0 i j = fst9 (flr w E pl rs) (kft (gdt (S n) rs.length (kdl w E rs)) (A n)) ∧ kdq w E 0 i j = tyt (S n) (kdl w E rs))) ?_ ?_ ?_ ?_ ?_ ?_ ?_ ?_
  · intro i m q j h1 h2 h3 h4 h5 h6 h7 h8 o1 o2 o3 _ _ _ _ x n e ht
    rw [Td_ask h1 h2 h3 h6 h8] at ht
    obtain ⟨a, b, ⟨s1, s2, s3⟩, t1, b1, t2, b2, t3, b3⟩ := ht
    refine Or.inr ⟨s3, [(i, m), (m + 1, q), (q + 1, j)], by simp, fun r hr => ?_, ⟨a, t1, b1, b, t2, b2, t3, b3⟩, by omega, by rw [s1, h6]; exact Or.inr (Or.inr (Or.inl ⟨rfl, rfl⟩)), ?_, ?_⟩
    · simp at hr
      rcases hr with hr | hr | hr <;> subst hr
      · exact o1
      · exact o2
      · exact o3
    · rw [fl_ask h1 h2 h3 h6 h8, s2]
      show _ = fst9 (fst9 (fl w E pl 0 i m) (fst9 (fl w E pl 0 (m + 1) q) (fst9 (fl w E pl 0 (q + 1) j) (0, 0)))) _
      rw [fz o3, fst9_a (fl w E pl 0 i m)]
      congr 1
      refine kft_cg ?_
      unfold gdt
      rw [s1, h6, if_neg (by decide), if_neg (by decide), if_pos rfl]
      exact Iff.rfl
    · rw [kd_ask h1 h2 h3 h6 h8]
      unfold tyt
      rw [s1, h6, if_neg (by decide), if_pos rfl]
      rfl
  · intro i m j h1 h2 h3 h4 o1 o2 _ _ _ x n e ht
    rw [Td_bin h1 h2 h3 (by omega)] at ht
    obtain ⟨a, ⟨s1, s2, s3⟩, t1, b1, t2, b2⟩ := ht
    refine Or.inr ⟨s3, [(i, m), (m + 1, j)], by simp, fun r hr => ?_, ⟨a, t1, b1, t2, b2⟩, by omega, by rw [s1]; exact Or.inr (Or.inl ⟨h4, rfl⟩), ?_, ?_⟩
    · simp at hr
      rcases hr with hr | hr <;> subst hr
      · exact o1
      · exact o2
    · rw [fl_bin h1 h2 h3 (by omega), s2]
      show _ = fst9 (fst9 (fl w E pl 0 i m) (fst9 (fl w E pl 0 (m + 1) j) (0, 0))) _
      rw [fz o2]
      congr 1
      refine kft_cg ?_
      have all2 : ∀ y : Int, (kdq w E 0 i m = y ∧ kdq w E 0 (m + 1) j = y) ↔ ∀ t, t < 2 → kdl w E [(i, m), (m + 1, j)] t = y := fun y => by
        constructor
        · intro ⟨u1, u2⟩ t ht
          have : t = 0 ∨ t = 1 := by omega
          rcases this with rfl | rfl
          · exact u1
          · exact u2
        · intro u
          exact ⟨u 0 (by omega), u 1 (by omega)⟩
      unfold okq gdt
      rw [s1]
      by_cases c1 : w m = 29 ∨ w m = 30
      · rw [if_pos c1, if_pos (show w m = 29 ∨ w m = 30 ∨ w m = 31 by omega)]
        exact all2 1
      · rw [if_neg c1, if_neg (show ¬ (w m = 29 ∨ w m = 30 ∨ w m = 31) by omega)]
        by_cases c2 : w m = 23 ∨ w m = 18
        · rw [if_pos c2, if_pos (show w m = 18 ∨ w m = 23 by omega)]
          exact Iff.rfl
        · rw [if_neg c2, if_neg (show ¬ (w m = 18 ∨ w m = 23) by omega), if_neg (show ¬ w m = 32 by omega)]
          exact all2 0
    · rw [kd_bin h1 h2 h3 (by omega)]
      unfold tyt tru
      rw [s1]
      by_cases c1 : (18 ≤ w m ∧ w m ≤ 23) ∨ w m = 29 ∨ w m = 30
      · rw [if_pos c1]
        by_cases c2 : w m = 29 ∨ w m = 30 ∨ w m = 31 ∨ w m = 18 ∨ w m = 23
        · rw [if_pos c2]
        · rw [if_neg c2, if_neg (by omega), if_pos (by omega)]
      · rw [if_neg c1, if_neg (by omega), if_neg (by omega), if_neg (by omega)]
  · intro i j h1 h2 h3 _ _ i1 _ x n e ht
    rw [Td_par h1 h2 h3] at ht
    rw [fl_par h1 h2 h3, kd_par h1 h2 h3]
    rcases i1 rfl _ _ _ ht with ⟨a1, a2, k, a3, a4⟩ | q
    · exact Or.inl ⟨a1, a2, k, by omega, a4⟩
    · exact Or.inr q
  · intro i j h1 h2 h3 o1 _ _ x n e ht
    rw [Td_pre h1 h2 h3] at ht
    obtain ⟨⟨s1, s2, s3⟩, t1, b1⟩ := ht
    have all1 : ∀ y : Int, kdq w E 0 (i + 1) j = y ↔ ∀ t, t < 1 → kdl w E [(i + 1, j)] t = y := fun y => by
      constructor
      · intro u t ht
        rw [show t = 0 by omega]
        exact u
      · intro u
        exact u 0 (by omega)
    refine Or.inr ⟨s3, [(i + 1, j)], by simp, fun r hr => by rw [List.mem_singleton.1 hr]; exact o1, ⟨t1, b1⟩, ?_, ?_, ?_, ?_⟩
    · rw [s1]; split <;> decide
    · rw [s1]; refine Or.inl ⟨?_, rfl⟩; split <;> simp
    · rw [s2]
      show _ = fst9 (fst9 (fl w E pl 0 (i + 1) j) (0, 0)) _
      rw [fz o1]
      rcases h3 with h3 | h3
      · rw [fl_neg h1 h2 h3]
        congr 1
        refine kft_cg ?_
        unfold gdt
        rw [s1, if_pos h3, if_neg (by decide), if_neg (by decide), if_neg (by decide)]
        exact all1 0
      · rw [fl_not h1 h2 h3]
        congr 1
        refine kft_cg ?_
        unfold gdt
        rw [s1, if_neg (show ¬ w i = 25 by omega), if_pos (by decide)]
        exact all1 1
    · unfold tyt
      rcases h3 with h3 | h3
      · rw [kd_num h1 h2 (Or.inl h3), s1, if_pos h3]
        rfl
      · rw [kd_tru h1 h2 (Or.inl h3), s1, if_neg (show ¬ w i = 25 by omega)]
        rfl
  · intro i h1 h3 _ x n e ht
    rw [Td_leaf h1 (by omega) h3] at ht
    obtain ⟨rfl, s1, s2, s3, s4⟩ := ht
    refine Or.inl ⟨s3, rfl, i, ⟨Nat.le_refl _, by omega⟩, h3, s1, s2, s4, fl_leaf h1 (by omega) h3, ?_⟩
    rcases h3 with h3 | h3 | h3
    · rw [kd_nam h1 (by omega) h3]
      by_cases c : E i = 1
      · rw [if_pos c, if_pos (Or.inr (Or.inr ⟨h3, c⟩))]
      · rw [if_neg c, if_neg (by omega)]
    · rw [kd_num h1 (by omega) (Or.inr (Or.inl h3)), if_neg (by omega)]
    · rw [kd_tru h1 (by omega) (Or.inr h3), if_pos (by omega)]
  · intro i j h1 h2 h3 _ o7 _ _ x n e ht
    rw [Td_lst h1 h2 h3] at ht
    obtain ⟨⟨s1, s2, s3⟩, t1⟩ := ht
    have y0 : S n ≠ 1 ∧ S n ≠ 2 ∧ S n ≠ 12 ∧ S n ≠ 13 := by omega
    have y1 : ¬ (w i = 29 ∨ w i = 30 ∨ w i = 31) := by omega
    have y2 : ¬ (w i = 18 ∨ w i = 23) := by omega
    have y3 : ¬ w i = 32 := by omega
    have y4 : ¬ (w i = 29 ∨ w i = 30 ∨ w i = 31 ∨ w i = 18 ∨ w i = 23) := by omega
    have y5 : ¬ (19 ≤ w i ∧ w i ≤ 22) := by omega
    obtain ⟨rs, r1, r2, r3, r4, r5⟩ := td_tb (E := E) _ 1 (i + 2) (j - 1) (Nat.le_refl _) (Or.inr ⟨rfl, o7⟩) rfl _ _ _ t1
    refine Or.inr ⟨s3, rs, r1, r2, r3, y0, by rw [s1]; exact Or.inr (Or.inr (Or.inr h3)), ?_, ?_⟩
    · rw [fl_lst h1 h2 h3, r4, s2]
      congr 1
      refine kft_cg ?_
      unfold gdt
      rw [s1, if_neg y1, if_neg y2, if_neg y3]
      constructor
      · intro u t ht
        rcases kdl_01 (E := E) r2 ht with v | v
        · exact v
        · have z1 := r5.mpr ⟨t, ht, v⟩
          rw [u] at z1
          exact absurd z1 (by decide)
      · intro u
        rcases kf_01 (E := E) _ 1 (i + 2) (j - 1) (Nat.le_refl _) (Or.inr ⟨rfl, o7⟩) with v | v
        · exact v
        · obtain ⟨t, h6, h7⟩ := r5.mp v
          have z1 := u t h6
          rw [h7] at z1
          exact absurd z1 (by decide)
    · rw [kd_num h1 h2 (Or.inr (Or.inr h3))]
      unfold tyt
      rw [s1, if_neg y4, if_neg y3, if_neg y5]
  · intros; omega
  · intros; omega
end PTS
end
