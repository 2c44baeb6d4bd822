/-! The reference: its searches among the words. -/
section SR
variable {G : mG} {d a N : Nat} {M : mM}
/-- N words are there -/
def Wn (M : mM) (a N : Nat) : Prop := Wd M a ∧ ln M (a + 5) = N ∧ N ≤ 16385
abbrev wk (M : mM) (a : Nat) : Nat → Int := nt M (a + 5)
theorem n5 : a + 5 ∈ nums a := nums_o (by decide)
theorem s_MM_word1 {k : Nat} (hO : mOk M) (h : Wn M a N) (hk : k < N) : Ci G y_MM_word1 (d + 1) [vr a, vi k] M (fun x M' => M' = M ∧ x = wk M a k) := by
  obtain ⟨w, l, b⟩ := h
  refine k_MM_word1 hO (i32s (by omega) (by omega)) ?_
  rw [w.1.2.2.1.1]
  refine ⟨w.1.1, (w.nu n5).1, (s_MN_at hO (w.nu n5) (by omega)).mono (fun x M1 h1 => ?_)⟩
  obtain ⟨e1, hx⟩ := h1
  subst e1
  exact ⟨by rw [hx]; exact (hO _ _).1, hO, rfl, hx⟩
theorem wk32 (hO : mOk M) {k : Nat} : i32 (wk M a k) := (hO _ _).1
theorem s_MM_isOperand {k : Nat} (hO : mOk M) (h : Wn M a N) (hk : k < N) : Ci G y_MM_isOperand (d + 2) [vr a, vi k] M (fun x M' => M' = M ∧ (x = 0 ∨ x = 1) ∧ (x ≠ 0 ↔ opd (wk M a k))) := by
  have hK := h.1.1.1
  have one : ∀ x M', (M' = M ∧ x = wk M a k) → i32 x ∧ mOk M' := fun x M' q => by rw [q.1, q.2]; exact ⟨wk32 hO, hO⟩
  refine k_MM_isOperand hO (i32s (by have := h.2.2; omega) (by have := h.2.2; omega)) ⟨hK, (s_MM_word1 (d := d) hO h hk).mono (fun x M1 h1 => ?_)⟩
  obtain ⟨e1, hx⟩ := h1
  subst e1
  refine ⟨by rw [hx]; exact wk32 hO, hO, fun q => ⟨rfl, Or.inr rfl, ⟨fun _ => by unfold opd; omega, fun _ => by omega⟩⟩, fun q1 => ⟨hK, (s_MM_word1 (d := d) hO h hk).mono (fun x2 M2 h2 => ?_)⟩⟩
  obtain ⟨e2, hx2⟩ := h2
  subst e2
  refine ⟨by rw [hx2]; exact wk32 hO, hO, fun q => ⟨rfl, Or.inr rfl, ⟨fun _ => by unfold opd; omega, fun _ => by omega⟩⟩, fun q2 => ⟨hK, (s_MM_word1 (d := d) hO h hk).mono (fun x3 M3 h3 => ?_)⟩⟩
  obtain ⟨e3, hx3⟩ := h3
  subst e3
  refine ⟨by rw [hx3]; exact wk32 hO, hO, fun q => ⟨rfl, Or.inr rfl, ⟨fun _ => by unfold opd; omega, fun _ => by omega⟩⟩, fun q3 => ⟨hK, (s_MM_word1 (d := d) hO h hk).mono (fun x4 M4 h4 => ?_)⟩⟩
  obtain ⟨e4, hx4⟩ := h4
  subst e4
  refine ⟨by rw [hx4]; exact wk32 hO, hO, fun q => ⟨rfl, Or.inr rfl, ⟨fun _ => by unfold opd; omega, fun _ => by omega⟩⟩, fun q4 => ⟨hK, (s_MM_word1 (d := d) hO h hk).mono (fun x5 M5 h5 => ?_)⟩⟩
  obtain ⟨e5, hx5⟩ := h5
  subst e5
  refine ⟨by rw [hx5]; exact wk32 hO, hO, fun v hv => ⟨rfl, by split at hv <;> omega, ?_⟩⟩
  unfold opd
  split at hv <;> omega
theorem s_MM_looseness {k i : Nat} (hO : mOk M) (h : Wn M a N) (hk : k < N) (hi : i ≤ k) : Ci G y_MM_looseness (d + 3) [vr a, vi k, vi i] M (fun x M' => M' = M ∧ x = (lz (wk M a) i k : Int)) := by
  have hK := h.1.1.1
  have hN := h.2.2
  refine k_MM_looseness hO (i32s (by omega) (by omega)) (i32s (by omega) (by omega)) ⟨hK, (s_MM_word1 (d := d + 1) hO h hk).mono (fun x M1 h1 => ?_)⟩
  obtain ⟨e1, hx⟩ := h1
  subst e1
  unfold lz
  refine ⟨by rw [hx]; exact wk32 hO, hO, fun q => ⟨rfl, by rw [if_pos (by omega)]; rfl⟩, fun q1 => ⟨fun q v hv => ⟨rfl, ?_⟩, fun q2 => (s_MM_isComparison (by rw [hx]; exact wk32 hO) hO).mono (fun y M2 h2 => ?_)⟩⟩
  · rw [if_neg (by omega)]
    by_cases z : x = 30
    · rw [if_pos z] at hv
      rw [if_pos (by omega), hv]; rfl
    · rw [if_neg z] at hv
      rw [if_neg (by omega), if_pos (by omega), hv]; rfl
  · obtain ⟨e2, hy, hyq⟩ := h2
    subst e2
    rw [if_neg (show ¬ wk M2 a k = 32 by omega), if_neg (show ¬ wk M2 a k = 30 by omega), if_neg (show ¬ wk M2 a k = 29 by omega)]
    refine ⟨i32s (by omega) (by omega), hO, fun y0 => ?_, fun y0 => ⟨rfl, by rw [if_pos (by have := hyq.1 y0; omega)]; rfl⟩⟩
    rw [if_neg (show ¬ (18 ≤ wk M2 a k ∧ wk M2 a k ≤ 23) from fun z => absurd y0 (hyq.2 (by omega)))]
    refine ⟨fun q => ?_, fun q v hv => ⟨rfl, ?_⟩⟩
    · rw [if_pos (show wk M2 a k = 24 ∨ wk M2 a k = 25 by omega)]
      refine ⟨fun z => k_MM_looseness_80 hO (i32s (by omega) (by omega)) ⟨rfl, by rw [if_neg (fun u => by have := u.1; omega)]; rfl⟩, fun z => ⟨hK, ?_⟩⟩
      rw [show (k : Int) - 1 = ((k - 1 : Nat) : Int) by omega]
      refine (s_MM_isOperand (d := d) hO h (k := k - 1) (by omega)).mono (fun u M3 h3 => ?_)
      obtain ⟨e3, hu, huq⟩ := h3
      subst e3
      refine ⟨i32s (by omega) (by omega), hO, fun u0 => k_MM_looseness_80 hO (i32s (by omega) (by omega)) ⟨rfl, by rw [if_neg (fun v => huq.2 v.2 u0)]; rfl⟩, fun u0 => k_MM_looseness_80 hO (i32s (by omega) (by omega)) ⟨rfl, by rw [if_pos ⟨by omega, huq.1 u0⟩]; rfl⟩⟩
    · rw [if_neg (show ¬ (wk M2 a k = 24 ∨ wk M2 a k = 25) by omega)]
      by_cases z : x = 26 ∨ (x = 27 ∨ x = 28)
      · rw [if_pos z] at hv
        rw [if_pos (by omega), hv]; rfl
      · rw [if_neg z] at hv
        rw [if_neg (by omega), hv]; rfl
theorem dp_b {w : Nat → Int} {i : Nat} : ∀ m : Nat, -(m : Int) ≤ dp w i m ∧ dp w i m ≤ m
  | 0 => by show -((0 : Nat) : Int) ≤ 0 ∧ (0 : Int) ≤ ((0 : Nat) : Int); omega
  | m + 1 => by
    have := dp_b (w := w) (i := i) m
    rw [dp_s]
    split <;> (try split) <;> omega
theorem aq_b {w : Nat → Int} {i : Nat} : ∀ m : Nat, -(m : Int) ≤ aq w i m ∧ aq w i m ≤ m
  | 0 => by show -((0 : Nat) : Int) ≤ 0 ∧ (0 : Int) ≤ ((0 : Nat) : Int); omega
  | m + 1 => by
    have := aq_b (w := w) (i := i) m
    rw [aq_s]
    split <;> (try split) <;> (try split) <;> omega
theorem lz_37 {w : Nat → Int} {i m : Nat} (h : w m = 37) : lz w i m = 0 := by
  unfold lz
  rw [if_neg (by omega), if_neg (by omega), if_neg (by omega), if_neg (by omega), if_neg (by omega), if_neg (by omega)]
theorem bh_b {w : Nat → Int} {i : Nat} : ∀ m, -1 ≤ (bh w i m).1 ∧ (bh w i m).1 ≤ (i + m : Nat) ∧ (bh w i m).2 ≤ 6
  | 0 => ⟨by show (-1 : Int) ≤ -1; omega, by show (-1 : Int) ≤ _; omega, Nat.zero_le _⟩
  | m + 1 => by
    have k := bh_b (w := w) (i := i) m
    have l : ll w i m ≤ 6 := by unfold ll; have := lz_le (w := w) (i := i) (k := i + m); split <;> omega
    rw [bh_s]
    split
    · exact ⟨by show (-1 : Int) ≤ ((i + m : Nat) : Int); omega, by show ((i + m : Nat) : Int) ≤ _; omega, l⟩
    · exact ⟨k.1, by omega, k.2.2⟩
theorem s_MM_loosest {i j : Nat} (hO : mOk M) (h : Wn M a N) (hij : i < j) (hj : j ≤ N) : Ci G y_MM_loosest (d + 4) [vr a, vi i, vi j] M (fun x M' => M' = M ∧ x = lo (wk M a) i j) := by
  have hK := h.1.1.1
  have hN := h.2.2
  refine k_MM_loosest hO (i32s (by omega) (by omega)) (i32s (by omega) (by omega)) ?_
  suffices H : ∀ (c m : Nat), m + c = j - i → h_MM_loosest_11 G (d + 3) a i j (bh (wk M a) i m).1 (bh (wk M a) i m).2 (dp (wk M a) i m) (i + m : Nat) M (fun x M' => M' = M ∧ x = lo (wk M a) i j) from
    H (j - i) 0 (by omega)
  intro c
  induction c with
  | zero =>
    intro m hm
    have em : m = j - i := by omega
    have b := bh_b (w := wk M a) (i := i) m
    have db := dp_b (w := wk M a) (i := i) m
    refine k_MM_loosest_11 hO (i32s (by omega) (by omega)) (i32s (by omega) (by omega)) (i32s (by omega) (by omega)) (i32s (by omega) (by omega)) (i32s (by omega) (by omega)) (i32s (by omega) (by omega)) ⟨fun _ => ⟨hK, (s_MM_word1 (d := d + 2) hO h (by omega)).mono (fun x M1 h1 => ?_)⟩, fun q => by omega⟩
    obtain ⟨e1, hx⟩ := h1
    subst e1
    refine ⟨by rw [hx]; exact wk32 hO, hO, fun v hv => ⟨rfl, ?_⟩⟩
    unfold lo
    rw [← em]
    by_cases z : ¬ (x = 31) ∨ 4 ≤ ((bh (wk M1 a) i m).2 : Int)
    · rw [if_pos z] at hv
      rw [if_neg (by omega)]
      exact hv
    · rw [if_neg z] at hv
      rw [if_pos (by omega)]
      exact hv
  | succ c ih =>
    intro m hm
    have nx := ih (m + 1) (by omega)
    have b := bh_b (w := wk M a) (i := i) m
    have db := dp_b (w := wk M a) (i := i) m
    have hl : ll (wk M a) i m ≤ 6 := by unfold ll; have := lz_le (w := wk M a) (i := i) (k := i + m); split <;> omega
    refine k_MM_loosest_11 hO (i32s (by omega) (by omega)) (i32s (by omega) (by omega)) (i32s (by omega) (by omega)) (i32s (by omega) (by omega)) (i32s (by omega) (by omega)) (i32s (by omega) (by omega)) ⟨fun q => by omega, fun _ => ⟨hK, (s_MM_word1 (d := d + 2) hO h (by omega)).mono (fun x M1 h1 => ?_)⟩⟩
    obtain ⟨e1, hx⟩ := h1
    subst e1
    refine ⟨by rw [hx]; exact wk32 hO, hO, fun v hv => ?_⟩
    have h55 : ∀ k0 : Int, k0 = (ll (wk M1 a) i m : Int) → h_MM_loosest_55 G (d + 3) a i j (bh (wk M1 a) i m).1 (bh (wk M1 a) i m).2 v (i + m : Nat) k0 M1 (fun x M' => M' = M1 ∧ x = lo (wk M1 a) i j) := fun k0 hk0 => by
      refine k_MM_loosest_55 hO (i32s (by omega) (by omega)) (i32s (by omega) (by omega)) (i32s (by omega) (by omega)) (i32s (by omega) (by omega)) (i32s (by split at hv <;> omega) (by split at hv <;> omega)) (i32s (by omega) (by omega)) (i32s (by omega) (by omega)) (fun u hu t ht => ⟨hK, (s_MM_word1 (d := d + 2) hO h (by omega)).mono (fun y M2 h2 => ?_)⟩)
      obtain ⟨e2, hy⟩ := h2
      subst e2
      refine ⟨by rw [hy]; exact wk32 hO, hO, fun r hr => ?_⟩
      have hu' : u = (bh (wk M2 a) i (m + 1)).1 ∧ t = ((bh (wk M2 a) i (m + 1)).2 : Int) := by
        rw [bh_s]
        by_cases z : (bh (wk M2 a) i m).2 < ll (wk M2 a) i m ∨ (0 < ll (wk M2 a) i m ∧ ll (wk M2 a) i m = (bh (wk M2 a) i m).2 ∧ ll (wk M2 a) i m < 6)
        · rw [if_pos z]
          rw [if_pos (by omega)] at hu ht
          exact ⟨hu, by rw [ht, hk0]⟩
        · rw [if_neg z]
          rw [if_neg (by omega)] at hu ht
          exact ⟨hu, ht⟩
      have hr' : r = dp (wk M2 a) i (m + 1) := by
        rw [dp_s, ← hy]
        have hxy : y = x := hy.trans hx.symm
        split at hr <;> split at hv <;> (try split) <;> (try split) <;> omega
      rw [hu'.1, hu'.2, hr']
      have := nx
      rw [show (((i + (m + 1) : Nat)) : Int) = ((i + m : Nat) : Int) + 1 by omega] at this
      exact this
    refine ⟨i32s (by split at hv <;> omega) (by split at hv <;> omega), fun v0 => ⟨hK, (s_MM_looseness (d := d) hO h (by omega) (by omega)).mono (fun y M2 h2 => ?_)⟩, fun v0 => h55 0 ?_⟩
    · obtain ⟨e2, hy⟩ := h2
      subst e2
      have hyb := lz_le (w := wk M2 a) (i := i) (k := i + m)
      refine ⟨i32s (by omega) (by omega), hO, h55 y ?_⟩
      unfold ll
      by_cases z : dp (wk M2 a) i m = 0
      · rw [if_pos z]; exact hy
      · rw [if_neg z, hy, lz_37 (by split at hv <;> omega)]
    · unfold ll
      by_cases z : dp (wk M1 a) i m = 0
      · rw [if_pos z, lz_37 (by split at hv <;> omega)]; rfl
      · rw [if_neg z]; rfl
theorem s_MM_colonOf {m q l : Nat} (hO : mOk M) (h : Wn M a N) (hm : m < q) (hq : q < N) (hl : l ≤ 20000) (hb : Bl (wk M a) (m + 1) (q - (m + 1))) (h33 : wk M a q = 33) : Ci G y_MM_colonOf (d + 2) [vr a, vi m, vi l] M (fun x M' => M' = M ∧ x = q) := by
  have hK := h.1.1.1
  have hN := h.2.2
  refine k_MM_colonOf hO (i32s (by omega) (by omega)) (i32s (by omega) (by omega)) ?_
  suffices H : ∀ (c t : Nat), t + c = q - (m + 1) → h_MM_colonOf_11 G (d + 1) a (aq (wk M a) (m + 1) t) (dp (wk M a) (m + 1) t) (m + t : Nat) 0 M (fun x M' => M' = M ∧ x = q) from
    H (q - (m + 1)) 0 (by omega)
  intro c
  induction c with
  | zero =>
    intro t ht
    have d0 : dp (wk M a) (m + 1) t = 0 := by rw [show t = q - (m + 1) by omega]; exact hb.1
    have a0 : aq (wk M a) (m + 1) t = 0 := by rw [show t = q - (m + 1) by omega]; exact hb.2.1
    rw [d0, a0]
    refine k_MM_colonOf_11 hO (i32s (by omega) (by omega)) (i32s (by omega) (by omega)) (i32s (by omega) (by omega)) (i32s (by omega) (by omega)) ⟨fun _ => ⟨hK, ?_⟩, fun z => absurd rfl z⟩
    rw [show ((m + t : Nat) : Int) + 1 = ((q : Nat) : Int) by omega]
    refine (s_MM_word1 (d := d) hO h hq).mono (fun x M1 h1 => ?_)
    obtain ⟨e1, hx⟩ := h1
    subst e1
    rw [h33] at hx
    refine ⟨i32s (by omega) (by omega), hO, fun v hv => ?_⟩
    rw [if_neg (by omega), if_neg (by omega)] at hv
    refine ⟨fun _ => i32s (by omega) (by omega), fun u hu => ⟨i32s (by omega) (by omega), fun s hs => ?_⟩⟩
    rw [if_pos ⟨hx, hv, rfl⟩] at hu
    subst hu hv
    rw [if_pos (by omega), if_neg (by omega), if_pos hx] at hs
    exact k_MM_colonOf_11 hO (i32s (by omega) (by omega)) (i32s (by omega) (by omega)) (i32s (by omega) (by omega)) (i32s (by omega) (by omega)) ⟨fun z => by omega, fun _ => ⟨rfl, rfl⟩⟩
  | succ c ih =>
    intro t ht
    have nx := ih (t + 1) (by omega)
    have db := dp_b (w := wk M a) (i := m + 1) t
    have ab := aq_b (w := wk M a) (i := m + 1) t
    have bp := hb.2.2.1 t (by omega)
    have bw := (hb.2.2.2 t (by omega)).2
    refine k_MM_colonOf_11 hO (i32s (by omega) (by omega)) (i32s (by omega) (by omega)) (i32s (by omega) (by omega)) (i32s (by omega) (by omega)) ⟨fun _ => ⟨hK, ?_⟩, fun z => absurd rfl z⟩
    rw [show ((m + t : Nat) : Int) + 1 = ((m + 1 + t : Nat) : Int) by omega]
    refine (s_MM_word1 (d := d) hO h (by omega)).mono (fun x M1 h1 => ?_)
    obtain ⟨e1, hx⟩ := h1
    subst e1
    refine ⟨by rw [hx]; exact wk32 hO, hO, fun v hv => ?_⟩
    have hv' : v = dp (wk M1 a) (m + 1) (t + 1) := by
      rw [dp_s, ← hx]
      split at hv <;> (try split at hv) <;> (try split) <;> (try split) <;> omega
    have db1 := dp_b (w := wk M1 a) (i := m + 1) (t + 1)
    refine ⟨fun _ => i32s (by omega) (by omega), fun u hu => ⟨i32s (by omega) (by omega), fun s hs => ?_⟩⟩
    have hu0 : u = 0 := by
      by_cases z : x = 33 ∧ (v = 0 ∧ aq (wk M1 a) (m + 1) t = 0)
      · exfalso
        obtain ⟨z1, z2, z3⟩ := z
        rw [if_neg (by omega), if_neg (by omega)] at hv
        exact bw (by omega) z3 (by rw [← hx]; exact z1)
      · rw [if_neg z] at hu; exact hu
    have hs' : s = aq (wk M1 a) (m + 1) (t + 1) := by
      rw [aq_s, ← hx]
      by_cases z1 : x = 36
      · rw [if_pos z1] at hv
        rw [if_neg (by omega)] at hs
        rw [hs]
        split
        · rfl
        · rw [if_neg (by omega), if_neg (by omega)]; omega
      · rw [if_neg z1] at hv
        by_cases z2 : x = 37
        · rw [if_pos z2] at hv
          have e : s = aq (wk M1 a) (m + 1) t := by split at hs <;> (try split at hs) <;> (try split at hs) <;> omega
          rw [e]
          split
          · rfl
          · rw [if_neg (by omega), if_neg (by omega)]; omega
        · rw [if_neg z2] at hv
          by_cases z3 : 0 < dp (wk M1 a) (m + 1) t
          · rw [if_pos z3]
            rw [if_neg (by omega)] at hs
            exact hs
          · rw [if_neg z3]
            rw [if_pos (by omega)] at hs
            rw [hs]
            split <;> (try split) <;> omega
    rw [hu0, hv', hs']
    rw [show ((m + 1 + t : Nat) : Int) = ((m + (t + 1) : Nat) : Int) by omega]
    exact nx
end SR
