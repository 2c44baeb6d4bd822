/-! The reference's names, exactly: sameWord, find, lookUp, lookAt. -/
section NAX
variable {G : mG} {d a N g K : Nat} {M : mM}
/-- two words with the same letters -/
def smx (M : mM) (a x y : Nat) : Prop := nt M (a + 9) y - nt M (a + 7) y = nt M (a + 9) x - nt M (a + 7) x ∧ ∀ i : Nat, (i : Int) < nt M (a + 9) x - nt M (a + 7) x → nt M (mR M a 2) ((nt M (a + 7) x).toNat + i) = nt M (mR M a 2) ((nt M (a + 7) y).toNat + i)
/-- the last known name that is spelt like y; -1: none -/
def fdx (M : mM) (a K y : Nat) (r : Int) : Prop := (r = -1 ∧ ∀ k, k < K → ¬ smx M a (nt M (a + 85) k).toNat y) ∨ ∃ q : Nat, r = q ∧ q < K ∧ smx M a (nt M (a + 85) q).toNat y ∧ ∀ k, q < k → k < K → ¬ smx M a (nt M (a + 85) k).toNat y
theorem x_MM_sameWord {x y : Nat} (hO : mOk M) (h : Wx M a N) (hx : x < N) (hy : y < N) : Ci G y_MM_sameWord (d + 2) [vr a, vi x, vi y] M (fun r M' => M' = M ∧ (r = 0 ∨ r = 1) ∧ (r = 1 ↔ smx M a x y)) := by
  have h0 := h
  obtain ⟨⟨w, l, b⟩, l7, l9, wo, hT⟩ := h
  obtain ⟨-, ⟨x1, x2, x3⟩, -⟩ := wo x hx
  obtain ⟨-, ⟨y1, y2, y3⟩, -⟩ := wo y hy
  have hp := w.tape.2.1
  have at9 : ∀ {k : Nat} {Q : Int → mM → Prop}, k < N → (∀ z, z = nt M (a + 9) k → i32 z → Q z M) → Ci G y_MN_at (d + 1) [vr (a + 9), vi k] M Q := fun hk hQ => by
    refine (s_MN_at hO (w.nu n9) (by omega)).mono (fun z M1 e1 => ?_)
    obtain ⟨e1, hz⟩ := e1
    subst e1
    exact hQ z hz (by rw [hz]; exact (hO _ _).1)
  have pl : ∀ {k : Nat} {Q : Int → mM → Prop}, k < N → (∀ z, z = nt M (a + 7) k → i32 z → Q z M) → Ci G y_MM_place0 (d + 1) [vr a, vi k] M Q := fun hk hQ => by
    refine (s_MM_place0 (d := d) hO h0 hk).mono (fun z M1 e1 => ?_)
    obtain ⟨e1, hz⟩ := e1
    subst e1
    exact hQ z hz (by rw [hz]; exact (hO _ _).1)
  refine k_MM_sameWord hO (i32s (by omega) (by omega)) (i32s (by omega) (by omega)) ?_
  rw [w.1.2.2.1.2.2.1]
  refine ⟨w.1.1, (w.nu n9).1, at9 hx (fun z1 e1 i1 => ⟨i1, hO, w.1.1, pl hx (fun z2 e2 i2 => ⟨i2, hO, w.1.1, ?_⟩)⟩)⟩
  rw [w.1.2.2.1.2.2.1]
  refine ⟨(w.nu n9).1, at9 hy (fun z3 e3 i3 => ⟨i3, hO, w.1.1, pl hy (fun z4 e4 i4 => ⟨i4, hO, i32s (by omega) (by omega), i32s (by omega) (by omega), fun v hv => ?_⟩)⟩)⟩
  have hlen : v = 1 → z3 - z4 = z1 - z2 := fun q => by split at hv <;> omega
  suffices H : ∀ (c t : Nat) (u : Int), (t : Int) + c = z1 - z2 → (u = 0 ∨ u = 1) → (u = 1 → z3 - z4 = z1 - z2) → ((u = 1 ∧ ∀ i : Nat, i < t → nt M (mR M a 2) ((nt M (a + 7) x).toNat + i) = nt M (mR M a 2) ((nt M (a + 7) y).toNat + i)) ∨ (u = 0 ∧ ¬ smx M a x y)) → h_MM_sameWord_43 G (d + 1) a x y (z1 - z2) u t M (fun r M' => M' = M ∧ (r = 0 ∨ r = 1) ∧ (r = 1 ↔ smx M a x y)) from
    H (z1 - z2).toNat 0 v (by omega) (by split at hv <;> omega) hlen (by
      split at hv
      · exact Or.inl ⟨by omega, fun i hi => absurd hi (by omega)⟩
      · exact Or.inr ⟨by omega, fun q => by have := q.1; omega⟩)
  clear hv hlen
  intro c
  induction c with
  | zero =>
    intro t u ht hu hl iv
    exact k_MM_sameWord_43 hO (i32s (by omega) (by omega)) (i32s (by omega) (by omega)) (i32s (by omega) (by omega)) (i32s (by omega) (by omega)) (i32s (by omega) (by omega)) ⟨fun _ => ⟨hu, rfl, hu, by
      rcases iv with ⟨v1, v2⟩ | ⟨v1, v2⟩
      · exact ⟨fun _ => ⟨by have := hl v1; omega, fun i hi => v2 i (by omega)⟩, fun _ => v1⟩
      · exact ⟨fun q => by omega, fun q => absurd q v2⟩⟩, fun q => absurd (Or.inl (by omega)) q⟩
  | succ c ih =>
    intro t u ht hu hl iv
    refine k_MM_sameWord_43 hO (i32s (by omega) (by omega)) (i32s (by omega) (by omega)) (i32s (by omega) (by omega)) (i32s (by omega) (by omega)) (i32s (by omega) (by omega)) ⟨fun qq => ⟨hu, rfl, hu, by
      rcases iv with ⟨v1, v2⟩ | ⟨v1, v2⟩
      · omega
      · exact ⟨fun q => by omega, fun q => absurd q v2⟩⟩, fun q => ⟨w.1.1, pl hx (fun u1 f1 j1 => ⟨j1, hO, (w.nu hp).1, ?_⟩)⟩⟩
    have hu1 := hl (by omega)
    rw [show u1 + (t : Int) = (((u1 + (t : Int)).toNat : Nat) : Int) by omega]
    refine (s_MN_at hO (w.nu hp) (by omega)).mono (fun v1 M2 g2 => ?_)
    obtain ⟨g2, hv1⟩ := g2
    subst g2
    refine ⟨by rw [hv1]; exact (hO _ _).1, hO, w.1.1, pl hy (fun u2 f2 j2 => ⟨j2, hO, (w.nu hp).1, ?_⟩)⟩
    rw [show u2 + (t : Int) = (((u2 + (t : Int)).toNat : Nat) : Int) by omega]
    refine (s_MN_at hO (w.nu hp) (by omega)).mono (fun v2 M3 g3 => ?_)
    obtain ⟨g3, hv2⟩ := g3
    subst g3
    exact ⟨by rw [hv2]; exact (hO _ _).1, hO, fun v3 hv3 => ih (t + 1) v3 (by omega) (by split at hv3 <;> omega) (fun _ => hu1) (by
      obtain ⟨w1, w2⟩ : u = 1 ∧ ∀ i : Nat, i < t → nt M3 (mR M3 a 2) ((nt M3 (a + 7) x).toNat + i) = nt M3 (mR M3 a 2) ((nt M3 (a + 7) y).toNat + i) := by
        rcases iv with v | ⟨v1, -⟩
        · exact v
        · exact absurd (Or.inr v1) q
      have ex : (u1 + (t : Int)).toNat = (nt M3 (a + 7) x).toNat + t := by rw [f1]; omega
      have ey : (u2 + (t : Int)).toNat = (nt M3 (a + 7) y).toNat + t := by rw [f2]; omega
      rw [ex] at hv1
      rw [ey] at hv2
      split at hv3
      · rename_i qq
        refine Or.inl ⟨by omega, fun i hi => ?_⟩
        by_cases c : i < t
        · exact w2 i c
        · rw [show i = t by omega, ← hv1, ← hv2]; exact qq
      · rename_i qq
        exact Or.inr ⟨by omega, fun z => qq (by rw [hv1, hv2]; exact z.2 t (by omega))⟩)⟩
theorem x_MM_find {y : Nat} (hO : mOk M) (h : Wx M a N) (hn : Nm M a g N K) (hy : y < N) : Ci G y_MM_find (d + 3) [vr a, vi y] M (fun r M' => M' = M ∧ (-1 ≤ r ∧ r < K) ∧ fdx M a K y r) := by
  have w := h.1.1
  have hN := h.1.2.2
  obtain ⟨n1, n2, n3, n4, n5'⟩ := hn
  have r13 : mR M a 13 = a + 85 := w.1.2.2.2.2.1.1
  have l1 : mI M (a + 85) 1 = K := n1
  refine k_MM_find hO (i32s (by omega) (by omega)) ?_
  suffices H : ∀ (c k : Nat) (f : Int), k + c = K → -1 ≤ f → f < K → fdx M a k y f → h_MM_find_4 G (d + 2) a y f k M (fun r M' => M' = M ∧ (-1 ≤ r ∧ r < K) ∧ fdx M a K y r) from
    H K 0 (-1) (by omega) (by omega) (by omega) (Or.inl ⟨rfl, fun k hk => absurd hk (by omega)⟩)
  intro c
  induction c with
  | zero =>
    intro k f hk f0 f1 fd
    refine k_MM_find_4 hO (i32s (by omega) (by omega)) (i32s (by omega) (by omega)) (i32s (by omega) (by omega)) ?_
    rw [r13, l1]
    exact ⟨w.1.1, (w.nu n85).1, fun _ => ⟨rfl, ⟨f0, f1⟩, by rw [show K = k by omega]; exact fd⟩, fun q => by omega⟩
  | succ c ih =>
    intro k f hk f0 f1 fd
    obtain ⟨⟨a1, a2⟩, -⟩ := n5' k (by omega)
    refine k_MM_find_4 hO (i32s (by omega) (by omega)) (i32s (by omega) (by omega)) (i32s (by omega) (by omega)) ?_
    rw [r13, l1]
    refine ⟨w.1.1, (w.nu n85).1, fun q => by omega, fun _ => (s_MN_at hO (w.nu n85) (by omega)).mono (fun z M1 e1 => ?_)⟩
    obtain ⟨e1, hz⟩ := e1
    subst e1
    refine ⟨by rw [hz]; exact (hO _ _).1, hO, w.1.1, ?_⟩
    rw [show z = ((z.toNat : Nat) : Int) by omega]
    refine (x_MM_sameWord (d := d) hO h (by omega) hy).mono (fun r M2 e2 => ?_)
    obtain ⟨e2, hr, hs⟩ := e2
    subst e2
    exact ⟨i32s (by omega) (by omega), hO, fun v hv => ih (k + 1) v (by omega) (by split at hv <;> omega) (by split at hv <;> omega) (by
      rw [hz] at hs
      split at hv
      · rename_i r0
        have ns : ¬ smx M2 a (nt M2 (a + 85) k).toNat y := fun u => by have := hs.mpr u; omega
        rw [hv]
        rcases fd with ⟨d1, d2⟩ | ⟨q, d1, d2, d3, d4⟩
        · refine Or.inl ⟨d1, fun k' hk' => ?_⟩
          by_cases c : k' < k
          · exact d2 k' c
          · rw [show k' = k by omega]; exact ns
        · refine Or.inr ⟨q, d1, by omega, d3, fun k' h1 h2 => ?_⟩
          by_cases c : k' < k
          · exact d4 k' h1 c
          · rw [show k' = k by omega]; exact ns
      · exact Or.inr ⟨k, by omega, by omega, hs.mp (by omega), fun k' h1 h2 => absurd h1 (by omega)⟩)⟩
end NAX
section LKX
variable {G : mG} {d a N g T K : Nat} {M M2 : mM}
/-- what names stand for: E kinds (-1 unknown), rv how they are resolved -/
def URq (M : mM) (a g N K : Nat) (co : Int) (E rv : Nat → Int) : Prop := ∀ (y : Nat) (r : Int), y < N → wk M a y = 1 → fdx M a K y r → ((r = -1 ∨ (co ≠ 0 ∧ nt M (a + 87) r.toNat ≠ 1)) → E y = -1) ∧ (¬ (r = -1 ∨ (co ≠ 0 ∧ nt M (a + 87) r.toNat ≠ 1)) → rv y = (if nt M (a + 87) r.toNat = 3 then 100 + nt M (a + 89) r.toNat else nt M (a + 89) r.toNat) ∧ E y = tn M g (rv y))
theorem LO.pm (w : Wd M a) (h : LO M a g N T K M2) (n : Nat) : pm M2 g n = pm M g n := by
  have hg := h.2.1.2.2.2.2.2.1
  exact (h.1.lst (tL_in hg (by omega)) (by omega)).2.1 n
/-- what a look leaves alone -/
theorem LO.txt (w : Wd M a) (h : LO M a g N T K M2) : (∀ k, nt M2 (a + 7) k = nt M (a + 7) k) ∧ (∀ k, nt M2 (a + 9) k = nt M (a + 9) k) ∧ (∀ k, nt M2 (mR M2 a 2) k = nt M (mR M a 2) k) ∧ (∀ k, nt M2 (a + 85) k = nt M (a + 85) k) ∧ (∀ k, nt M2 (a + 87) k = nt M (a + 87) k) ∧ (∀ k, nt M2 (a + 89) k = nt M (a + 89) k) ∧ wk M2 a = wk M a := by
  have hg := h.2.1.2.2.2.2.2.1
  have no := lkP_no hg w
  have r := h.1.rfl_a w (fun q hq => lkP_in hg hq)
  exact ⟨fun k => (h.1.lst n7 no.2.1).2.1 k, fun k => (h.1.lst n9 no.2.2.1).2.1 k, fun k => by rw [r]; exact (h.1.lst w.tape.2.1 no.2.2.2.1).2.1 k, fun k => (h.1.lst n85 no.2.2.2.2.1).2.1 k, fun k => (h.1.lst n87 no.2.2.2.2.2.1).2.1 k, fun k => (h.1.lst n89 no.2.2.2.2.2.2).2.1 k, funext (fun k => (h.1.lst n5 no.1).2.1 k)⟩
theorem LO.fd {y : Nat} {r : Int} (w : Wd M a) (h : LO M a g N T K M2) (k : fdx M2 a K y r) : fdx M a K y r := by
  obtain ⟨k1, k2, k3, k4, -⟩ := h.txt w
  have sm : ∀ x y, smx M2 a x y = smx M a x y := fun x y => by
    unfold smx
    simp only [k1, k2, k3]
  unfold fdx at k ⊢
  simp only [sm, k4] at k
  exact k
/-- looking up ends -/
def luX (co : Int) (M M2 : mM) (a g N T K n : Nat) (E rv : Nat → Int) (r : Int) (M3 : mM) : Prop := LO M a g N T K M3 ∧ (r = 0 ∨ r = 1) ∧ sameN M2 M3 (a + 93) ∧ sameN M2 M3 (a + 95) ∧ ((mI M3 a 16 = 2 ∧ (mI M3 a 17 = pm M g n ∧ E (va M2 g n).toNat = -1) ∧ ∀ k, va M3 g k = va M2 g k) ∨ (mI M3 a 16 = mI M2 a 16 ∧ (nmr co M g (va M3 g n) ∧ r = tn M g (va M3 g n) ∧ (va M3 g n = rv (va M2 g n).toNat ∧ E (va M2 g n).toNat = r)) ∧ ∀ k, k ≠ n → va M3 g k = va M2 g k))
theorem x_MM_lookUp {n : Nat} {co : Int} {E rv : Nat → Int} (hU : URq M a g N K co E rv) (hco : i32 co) (hw0 : Wd M a) (h : LO M a g N T K M2) (hn : n < T) (hv : 0 ≤ va M2 g n ∧ va M2 g n < N) (hw1 : wk M a (va M2 g n).toNat = 1) : Ci G y_MM_lookUp (d + 4) [vr a, vi n, vi co] M2 (luX co M M2 a g N T K n E rv) := by
  obtain ⟨hO, hx, hnm, hd, h10, hg, hb, hT⟩ := id h.2.1
  have w := hx.1.1
  have gp := w.gp hg
  obtain ⟨n1, n2, n3, n4, n5'⟩ := id hnm
  have r3 : mR M2 g 3 = g + 7 := gp.2.1.2.2.2.1
  have r1 : mR M2 g 1 = g + 3 := gp.2.1.2.1
  have r14 : mR M2 a 14 = a + 87 := w.1.2.2.2.2.1.2.1
  have r15 : mR M2 a 15 = a + 89 := w.1.2.2.2.2.1.2.2.1
  have u7 := w.nu (tL_in (a := a) (q := g + 7) hg (tLk7 g))
  have u3 := w.nu (tL_in (a := a) (q := g + 3) hg (tLk3 g))
  have l7 := hd (g + 7) (by first | exact tLk7 g | exact gLk7 g | omega)
  have l3 := hd (g + 3) (by first | exact tLk3 g | exact gLk3 g | omega)
  have c7 : (T : Int) ≤ cp M2 (g + 7) := by rw [← l7]; exact u7.2.2.2.1.2
  have gI := h.2.2.2.2
  -- a list is read
  have rd : ∀ {p k : Nat} {Q : Int → mM → Prop}, p ∈ nums a → (k : Int) < ln M2 p → (∀ z, z = nt M2 p k → i32 z → Q z M2) → Ci G y_MN_at (d + 3) [vr p, vi k] M2 Q := fun hp hk hQ => by
    refine (s_MN_at hO (w.nu hp) hk).mono (fun z M1 e1 => ?_)
    obtain ⟨e1, hz⟩ := e1
    subst e1
    exact hQ z hz (by rw [hz]; exact (hO _ _).1)
  -- the fault is told
  have flt : ∀ (y : Int), i32 y → y = pm M2 g n → E (va M2 g n).toNat = -1 → Cv G y_MM_stop (d + 3) [vr a, vi 2, vi y] M2 (fun M4 => mOk M4 ∧ luX co M M2 a g N T K n E rv 0 M4) := fun y hy yp yE => by
    refine (s_MM_stop (i32s (by omega) (by omega)) hy hO w).mono (fun M4 h4 => ?_)
    obtain ⟨m4, f1, f2, f3⟩ := h4
    have s7 := m4.lst (tL_in (a := a) (q := g + 7) hg (tLk7 g)) (fun z => z)
    exact ⟨m4.1, h.step m4 (fun q hq => hq.elim) (fun x hx => hx) s7.1 f3, Or.inl rfl, m4.lst n93 (fun z => z), m4.lst n95 (fun z => z), Or.inl ⟨f1, ⟨by rw [f2, yp]; exact h.pm hw0 n, yE⟩, fun k => s7.2.1 k⟩⟩
  refine k_MM_lookUp hO (i32s (by omega) (by omega)) hco ?_
  rw [h10, r3]
  refine ⟨w.1.1, gp.1, u7.1, rd (tL_in hg (by omega)) (by omega) (fun x1 e1 i1 => ⟨i1, hO, w.1.1, ?_⟩)⟩
  have e1' : x1 = va M2 g n := e1
  rw [show x1 = ((x1.toNat : Nat) : Int) by omega]
  refine (x_MM_find (d := d) hO hx hnm (by omega)).mono (fun k M3 h3 => ?_)
  obtain ⟨e3, ⟨k0, k1⟩, kf⟩ := h3
  subst e3
  obtain ⟨x1', x2', x3', x4', x5', x6', x7'⟩ := h.txt hw0
  have hUn := fun (_ : Unit) => hU x1.toNat k (by omega) (by rw [e1']; exact hw1) (h.fd hw0 kf)
  have fault : E (va M3 g n).toNat = -1 → Ci G y_MN_at (d + 3) [vr (g + 3), vi n] M3 (fun x18 M17 => i32 x18 ∧ mOk M17 ∧ (mK M17 a = 14 ∧ Cv G y_MM_stop (d + 3) [vr a, vi 2, vi x18] M17 (fun M21 => mOk M21 ∧ luX co M M3 a g N T K n E rv 0 M21))) := fun eE => rd (tL_in hg (by omega)) (by omega) (fun y ey iy => ⟨iy, hO, w.1.1, flt y iy ey eE⟩)
  -- the name's place among the known ones
  have good : ∀ (kk : Nat) (x : Int), kk < K → x = nt M3 (a + 89) kk → i32 x → (co ≠ 0 → nt M3 (a + 87) kk = 1) → (rv (va M3 g n).toNat = (if nt M3 (a + 87) kk = 3 then 100 + x else x) ∧ E (va M3 g n).toNat = tn M g (rv (va M3 g n).toNat)) → (mK M3 g = 16 ∧ mK M3 (g + 7) = 15 ∧ mK M3 (a + 87) = 15 ∧ Ci G y_MN_at (d + 3) [vr (a + 87), vi kk] M3 (fun x36 M35 => i32 x36 ∧ mOk M35 ∧ (∀ v39 : Int, v39 = (if (x36 = 3) then 100 + x else x) → mK M35 (mR M3 (g + 7) 0) = 30 ∧ ((0 : Int) ≤ n ∧ (n : Int) < (mN M35 (mR M3 (g + 7) 0) : Int)) ∧ i32 v39 ∧ ∀ M45, M45 = mUI M35 (mR M3 (g + 7) 0) (Int.toNat n) v39 → mK M45 a = 14 ∧ mK M45 (mR M45 a 14) = 15 ∧ Ci G y_MN_at (d + 3) [vr (mR M45 a 14), vi kk] M45 (fun x50 M49 => i32 x50 ∧ mOk M49 ∧ ((((x50 = 3) → (mK M49 a = 14 ∧ mK M49 (mR M49 a 10) = 16 ∧ mK M49 (mR M49 (mR M49 a 10) 13) = 31 ∧ ((0 : Int) ≤ x ∧ x < (mN M49 (mR M49 (mR M49 a 10) 13) : Int)))) ∧ (¬ (x50 = 3) → (mK M49 a = 14 ∧ mK M49 (mR M49 a 10) = 16 ∧ mK M49 (mR M49 (mR M49 a 10) 8) = 31 ∧ ((0 : Int) ≤ x ∧ x < (mN M49 (mR M49 (mR M49 a 10) 8) : Int))))) ∧ ∀ v61 : Int, v61 = (if (x50 = 3) then mI M49 (mR M49 (mR M49 a 10) 13) (Int.toNat x) else mI M49 (mR M49 (mR M49 a 10) 8) (Int.toNat x)) → i32 v61 ∧ ∀ v66 : Int, v66 = (if (v61 = 0) then 0 else 1) → luX co M M3 a g N T K n E rv v66 M49))))) := fun kk x hkk ex ix hc1 hrv => by
    obtain ⟨-, hk, hk1⟩ := n5' kk hkk
    rw [← ex] at hk hk1
    refine ⟨gp.1, u7.1, (w.nu n87).1, rd n87 (by omega) (fun s es is => ⟨is, hO, fun v hv => ⟨u7.2.1, ⟨by omega, by have : mN M3 (mR M3 (g + 7) 0) = cp M3 (g + 7) := rfl; omega⟩, i32s (by split at hv <;> omega) (by split at hv <;> omega), fun M4 e4 => ?_⟩⟩)⟩
    rw [← es] at hk hc1 hk1 hrv
    rw [Int.toNat_natCast] at e4
    obtain ⟨m4, l4, k4, -⟩ := mv_el (v := v) (i32s (by split at hv <;> omega) (by split at hv <;> omega)) hO w (tL_in (a := a) (q := g + 7) hg (tLk7 g)) e4
    have w4 := m4.2.1
    have f4 := (m4.fld w (fun q hq => by rw [hq]; exact tL_in hg (by omega)) (fun hq => hq)).1
    have L4 : LO M a g N T K M4 := h.step m4 (fun q hq => Or.inr (Or.inr hq)) (fun x hx => hx.elim) l4 (fun i _ _ => by rw [f4])
    have s87 := m4.lst (n87 (a := a)) (by omega)
    have gp4 := w4.gp hg
    have d4 : mR M4 a 10 = g := L4.2.1.2.2.2.2.1
    have r144 : mR M4 a 14 = a + 87 := w4.1.2.2.2.2.1.2.1
    rw [r144]
    refine ⟨w4.1.1, (w4.nu n87).1, (s_MN_at m4.1 (w4.nu n87) (by rw [s87.1]; omega)).mono (fun s' M5 e5 => ?_)⟩
    obtain ⟨e5, hs'⟩ := e5
    subst e5
    rw [s87.2.1, ← es] at hs'
    subst hs'
    rw [d4, gp4.2.2.1.1, gp4.2.1.2.2.2.2.2.2.2.1, gp4.2.2.2.2.1.1.2, gp4.2.2.2.1.2.1.2]
    refine ⟨is, m4.1, ⟨fun q => ⟨w4.1.1, gp4.1, gp4.2.2.2.2.1.1.1, by omega⟩, fun q => ⟨w4.1.1, gp4.1, gp4.2.2.2.1.2.1.1, by omega⟩⟩, fun u hu => ⟨by rw [hu]; split <;> exact (m4.1 _ _).1, fun z hz => ⟨L4, by split at hz <;> omega, m4.lst n93 (by omega), m4.lst n95 (by omega), Or.inr ⟨by rw [f4], ?_, fun k hk => by show nt M5 (g + 7) k = _; rw [k4 k, if_neg hk]⟩⟩⟩⟩
    show nmr co M g (nt M5 (g + 7) n) ∧ z = tn M g (nt M5 (g + 7) n) ∧ (nt M5 (g + 7) n = _ ∧ _)
    rw [k4 n, if_pos rfl]
    have zt : z = tn M g v := by
      obtain ⟨y1, y2⟩ := L4.tn hw0
      rw [hz, hu, y1, y2]
      unfold tn
      by_cases c3 : s' = 3
      · rw [if_pos c3] at hv
        rw [if_pos c3, hv, if_pos (show (100 : Int) ≤ 100 + x by omega), show (100 + x - 100).toNat = x.toNat by omega]
      · rw [if_neg c3] at hv
        rw [if_neg c3, hv, if_neg (show ¬ (100 : Int) ≤ x by omega)]
    refine ⟨?_, zt, by rw [hv, hrv.1], by rw [hrv.2, hrv.1, ← hv]; exact zt.symm⟩
    · unfold nmr
      rw [← gI]
      have f13 := h.fm hw0
      rw [← f13]
      by_cases c3 : s' = 3
      · rw [if_pos c3] at hv
        refine Or.inr ⟨?_, by omega, by omega, by omega⟩
        by_cases z0 : co = 0
        · exact z0
        · have := hc1 z0
          omega
      · rw [if_neg c3] at hv
        refine Or.inl ⟨by omega, by omega, by omega, fun z0 => ?_⟩
        rw [hv]
        exact hk1 (hc1 z0)
  refine ⟨i32s (by omega) (by omega), hO, fun q => ?_, fun q => ⟨fun q2 => ?_, fun q2 => ?_⟩⟩
  · rw [h10, r1]
    exact ⟨w.1.1, gp.1, u3.1, fault (by rw [← e1']; exact (hUn ()).1 (Or.inl (by omega)))⟩
  · rw [r15, show k = ((k.toNat : Nat) : Int) by omega]
    refine ⟨w.1.1, (w.nu n89).1, rd n89 (by omega) (fun x ex ix => ⟨ix, hO, w.1.1, ?_⟩)⟩
    rw [h10, r3, r14]
    exact good k.toNat x (by omega) ex ix (fun z => absurd q2 z) (by
      obtain ⟨u1, u2⟩ := (hUn ()).2 (by omega)
      rw [← e1', u2, u1, ex, x5', x6']
      exact ⟨rfl, rfl⟩)
  · rw [r14, show k = ((k.toNat : Nat) : Int) by omega]
    refine ⟨w.1.1, (w.nu n87).1, rd n87 (by omega) (fun s es is => ⟨is, hO, fun q3 => ?_, fun q3 => ?_⟩)⟩
    · rw [r15]
      refine ⟨w.1.1, (w.nu n89).1, rd n89 (by omega) (fun x ex ix => ⟨ix, hO, w.1.1, ?_⟩)⟩
      rw [h10, r3, r14]
      exact good k.toNat x (by omega) ex ix (fun _ => es.symm.trans q3) (by
        have s1 : nt M (a + 87) k.toNat = 1 := by rw [← x5']; exact es.symm.trans q3
        obtain ⟨u1, u2⟩ := (hUn ()).2 (by omega)
        rw [← e1', u2, u1, ex, x5', x6']
        exact ⟨rfl, rfl⟩)
    · rw [h10, r1]
      exact ⟨w.1.1, gp.1, u3.1, fault (by
        rw [← e1']
        refine (hUn ()).1 (Or.inr ⟨q2, ?_⟩)
        rw [← x5']
        exact fun u => q3 (es.trans u))⟩
end LKX
