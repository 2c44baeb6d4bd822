/-! The reference: searches on, numbers, and a new node. -/
section NO
variable {G : mG} {d a N : Nat} {M : mM}
theorem s_MM_until {i j : Nat} {s : Int} (hs : i32 s) (hO : mOk M) (h : Wn M a N) (hij : i ≤ j) (hj : j < N) (h1 : wk M a j = s) (h2 : dp (wk M a) i (j - i) ≤ 0) (h3 : aq (wk M a) i (j - i) ≤ 0) (h4 : ∀ t, t < j - i → ¬ (wk M a (i + t) = s ∧ dp (wk M a) i t ≤ 0 ∧ aq (wk M a) i t ≤ 0)) : Ci G y_MM_until (d + 2) [vr a, vi i, vi s] M (fun x M' => M' = M ∧ x = j) := by
  have hK := h.1.1.1
  have hN := h.2.2
  refine k_MM_until hO (i32s (by omega) (by omega)) hs ?_
  suffices H : ∀ (c t : Nat), t + c = j - i → h_MM_until_8 G (d + 1) a s (dp (wk M a) i t) (aq (wk M a) i t) (i + t : Nat) M (fun x M' => M' = M ∧ x = j) from
    H (j - i) 0 (by omega)
  intro c
  induction c with
  | zero =>
    intro t ht
    have et : t = j - i := by omega
    subst et
    have db := dp_b (w := wk M a) (i := i) (j - i)
    have ab := aq_b (w := wk M a) (i := i) (j - i)
    rw [show i + (j - i) = j by omega]
    refine k_MM_until_8 hO hs (i32s (by omega) (by omega)) (i32s (by omega) (by omega)) (i32s (by omega) (by omega)) ⟨hK, (s_MM_word1 (d := d) hO h hj).mono (fun x M1 e1 => ?_)⟩
    obtain ⟨e1, hx⟩ := e1
    subst e1
    exact ⟨by rw [hx]; exact wk32 hO, hO, fun q => by omega, fun _ => ⟨rfl, rfl⟩⟩
  | succ c ih =>
    intro t ht
    have nx := ih (t + 1) (by omega)
    have db := dp_b (w := wk M a) (i := i) t
    have ab := aq_b (w := wk M a) (i := i) t
    have h4t := h4 t (by omega)
    refine k_MM_until_8 hO hs (i32s (by omega) (by omega)) (i32s (by omega) (by omega)) (i32s (by omega) (by omega)) ⟨hK, (s_MM_word1 (d := d) hO h (by omega)).mono (fun x M1 e1 => ?_)⟩
    obtain ⟨e1, hx⟩ := e1
    subst e1
    refine ⟨by rw [hx]; exact wk32 hO, hO, fun _ => ⟨hK, (s_MM_word1 (d := d) hO h (by omega)).mono (fun y M2 e2 => ?_)⟩, fun q => absurd ⟨by omega, by omega, by omega⟩ h4t⟩
    obtain ⟨e2, hy⟩ := e2
    subst e2
    refine ⟨by rw [hy]; exact wk32 hO, hO, fun v hv => ?_⟩
    have hv' : v = dp (wk M2 a) i (t + 1) := by
      rw [dp_s, ← hy]
      split at hv <;> (try split at hv) <;> (try split) <;> (try split) <;> omega
    have db1 := dp_b (w := wk M2 a) (i := i) (t + 1)
    refine ⟨i32s (by omega) (by omega), fun s' hs' => ?_⟩
    have hs2 : s' = aq (wk M2 a) i (t + 1) := by
      rw [aq_s, ← hy]
      by_cases z1 : y = 36
      · rw [if_pos z1] at hv
        have e : s' = aq (wk M2 a) i t := by split at hs' <;> (try split at hs') <;> (try split at hs') <;> omega
        rw [e]
        split
        · rfl
        · rw [if_neg (by omega), if_neg (by omega)]; omega
      · rw [if_neg z1] at hv
        by_cases z2 : y = 37
        · rw [if_pos z2] at hv
          have e : s' = aq (wk M2 a) i t := by split at hs' <;> (try split at hs') <;> (try split at hs') <;> omega
          rw [e]
          split
          · rfl
          · rw [if_neg (by omega), if_neg (by omega)]; omega
        · rw [if_neg z2] at hv
          by_cases z3 : 0 < dp (wk M2 a) i t
          · rw [if_pos z3]
            rw [if_neg (by omega)] at hs'
            exact hs'
          · rw [if_neg z3]
            rw [if_pos (by omega)] at hs'
            rw [hs']
            split <;> (try split) <;> omega
    rw [hv', hs2, show ((i + t : Nat) : Int) + 1 = ((i + (t + 1) : Nat) : Int) by omega]
    exact nx
theorem s_MM_closeOf {k e : Nat} (hO : mOk M) (h : Wn M a N) (hk : k < e) (he : e < N) (h1 : ∀ t, 1 ≤ t → t ≤ e - k → 0 < dp (wk M a) k t) (h2 : dp (wk M a) k (e - k + 1) ≤ 0) : Ci G y_MM_closeOf (d + 2) [vr a, vi k] M (fun x M' => M' = M ∧ x = e) := by
  have hK := h.1.1.1
  have hN := h.2.2
  refine k_MM_closeOf hO (i32s (by omega) (by omega)) ?_
  suffices H : ∀ (c t : Nat), t + c = e - k → h_MM_closeOf_4 G (d + 1) a (dp (wk M a) k t) (k + t : Nat) M (fun x M' => M' = M ∧ x = e) from
    H (e - k) 0 (by omega)
  intro c
  induction c with
  | zero =>
    intro t ht
    have et : t = e - k := by omega
    subst et
    have db := dp_b (w := wk M a) (i := k) (e - k)
    have hp := h1 (e - k) (by omega) (by omega)
    rw [dp_s, show k + (e - k) = e by omega] at h2
    rw [show k + (e - k) = e by omega]
    refine k_MM_closeOf_4 hO (i32s (by omega) (by omega)) (i32s (by omega) (by omega)) ⟨hK, (s_MM_word1 (d := d) hO h he).mono (fun x M1 e1 => ?_)⟩
    obtain ⟨e1, hx⟩ := e1
    subst e1
    refine ⟨by rw [hx]; exact wk32 hO, hO, fun q => ?_, fun q => ⟨hK, (s_MM_word1 (d := d) hO h he).mono (fun y M2 e2 => ?_)⟩⟩
    · rw [if_pos (by omega)] at h2
      omega
    · obtain ⟨e2, hy⟩ := e2
      subst e2
      rw [if_neg (by omega)] at h2
      refine ⟨by rw [hy]; exact wk32 hO, hO, fun v hv => ⟨i32s (by split at hv <;> omega) (by split at hv <;> omega), fun z => ?_, fun z => ⟨rfl, by omega⟩⟩⟩
      split at hv <;> split at h2 <;> omega
  | succ c ih =>
    intro t ht
    have nx := ih (t + 1) (by omega)
    have db := dp_b (w := wk M a) (i := k) t
    have hp := h1 (t + 1) (by omega) (by omega)
    rw [show ((k + (t + 1) : Nat) : Int) = ((k + t : Nat) : Int) + 1 by omega] at nx
    have hd : dp (wk M a) k (t + 1) = dp (wk M a) k t + (if wk M a (k + t) = 36 then 1 else if wk M a (k + t) = 37 then -1 else 0) := dp_s
    refine k_MM_closeOf_4 hO (i32s (by omega) (by omega)) (i32s (by omega) (by omega)) ⟨hK, (s_MM_word1 (d := d) hO h (by omega)).mono (fun x M1 e1 => ?_)⟩
    obtain ⟨e1, hx⟩ := e1
    subst e1
    refine ⟨by rw [hx]; exact wk32 hO, hO, fun q => ?_, fun q => ⟨hK, (s_MM_word1 (d := d) hO h (by omega)).mono (fun y M2 e2 => ?_)⟩⟩
    · rw [if_pos (by omega)] at hd
      rw [hd] at nx hp
      exact ⟨i32s (by omega) (by omega), fun _ => nx, fun z => by omega⟩
    · obtain ⟨e2, hy⟩ := e2
      subst e2
      rw [if_neg (by omega)] at hd
      refine ⟨by rw [hy]; exact wk32 hO, hO, fun v hv => ?_⟩
      have hv' : v = dp (wk M2 a) k (t + 1) := by rw [hd]; split at hv <;> split <;> omega
      rw [hv']
      have db1 := dp_b (w := wk M2 a) (i := k) (t + 1)
      exact ⟨i32s (by omega) (by omega), fun _ => nx, fun z => by omega⟩
theorem n7 : a + 7 ∈ nums a := nums_o (by decide)
theorem n9 : a + 9 ∈ nums a := nums_o (by decide)
/-- N whole words are there -/
def Wx (M : mM) (a N : Nat) : Prop := Wn M a N ∧ ln M (a + 7) = N ∧ ln M (a + 9) = N ∧ (∀ k, k < N → wok M a (nt M (a + 5) k) (nt M (a + 7) k) (nt M (a + 9) k)) ∧ ln M (mR M a 2) ≤ 16384
theorem s_MM_place0 {k : Nat} (hO : mOk M) (h : Wx M a N) (hk : k < N) : Ci G y_MM_place0 (d + 1) [vr a, vi k] M (fun x M' => M' = M ∧ x = nt M (a + 7) k) := by
  obtain ⟨⟨w, l, b⟩, l7, l9, wo, -⟩ := h
  refine k_MM_place0 hO (i32s (by omega) (by omega)) ?_
  rw [w.1.2.2.1.2.1]
  refine ⟨w.1.1, (w.nu n7).1, (s_MN_at hO (w.nu n7) (by omega)).mono (fun x M1 h1 => ?_)⟩
  obtain ⟨e1, hx⟩ := h1
  subst e1
  exact ⟨by rw [hx]; exact (hO _ _).1, hO, rfl, hx⟩
theorem ten_pow_le {n m : Nat} (h : n ≤ m) : (10 : Int) ^ n ≤ 10 ^ m := by
  obtain ⟨c, rfl⟩ := Nat.le.dest h
  rw [Int.pow_add]
  have h1 : (0 : Int) < 10 ^ n := Int.pow_pos (by omega)
  have h2 : (0 : Int) < 10 ^ c := Int.pow_pos (by omega)
  have := Int.mul_le_mul_of_nonneg_left (a := 1) (b := 10 ^ c) (c := 10 ^ n) (by omega) (by omega)
  omega
theorem s_MM_numberOf {k : Nat} (hO : mOk M) (h : Wx M a N) (hk : k < N) (h2 : wk M a k = 2) : Ci G y_MM_numberOf (d + 2) [vr a, vi k] M (fun x M' => M' = M ∧ 0 ≤ x ∧ x < 1000000000) := by
  have h0 := h
  obtain ⟨⟨w, l, b⟩, l7, l9, wo, hT⟩ := h
  obtain ⟨-, ⟨p1, p2, p3⟩, p4, p5, -⟩ := wo k hk
  obtain ⟨p6, p7⟩ := p5 h2
  have hp := w.tape.2.1
  refine k_MM_numberOf hO (i32s (by omega) (by omega)) ⟨w.1.1, (s_MM_place0 (d := d) hO h0 hk).mono (fun x M1 e1 => ?_)⟩
  obtain ⟨e1, hx⟩ := e1
  subst e1
  have hp9 : i32 x := by rw [hx]; exact (hO _ _).1
  refine ⟨hp9, hO, ?_⟩
  suffices H : ∀ (c t : Nat) (v : Int), (t : Int) + c = nt M1 (a + 9) k - nt M1 (a + 7) k → 0 ≤ v → v < 10 ^ t → h_MM_numberOf_8 G (d + 1) a k v (nt M1 (a + 7) k + t) M1 (fun x M' => M' = M1 ∧ 0 ≤ x ∧ x < 1000000000) by
    have := H (nt M1 (a + 9) k - nt M1 (a + 7) k).toNat 0 0 (by omega) (by omega) (by decide)
    rw [hx]
    rw [show nt M1 (a + 7) k + ((0 : Nat) : Int) = nt M1 (a + 7) k by omega] at this
    exact this
  intro c
  induction c with
  | zero =>
    intro t v ht v0 v1
    have hb := ten_pow_le (n := t) (m := 9) (by omega)
    have e9 : (10 : Int) ^ 9 = 1000000000 := by decide
    refine k_MM_numberOf_8 hO (i32s (by omega) (by omega)) ⟨by omega, by omega⟩ (i32s (by omega) (by omega)) ?_
    rw [w.1.2.2.1.2.2.1]
    refine ⟨w.1.1, (w.nu n9).1, (s_MN_at hO (w.nu n9) (by omega)).mono (fun y M2 e2 => ?_)⟩
    obtain ⟨e2, hy⟩ := e2
    subst e2
    exact ⟨by rw [hy]; exact (hO _ _).1, hO, fun _ => ⟨rfl, v0, by omega⟩, fun q => by omega⟩
  | succ c ih =>
    intro t v ht v0 v1
    have hb := ten_pow_le (n := t) (m := 8) (by omega)
    have e8 : (10 : Int) ^ 8 = 100000000 := by decide
    have hpw : (10 : Int) ^ (t + 1) = 10 ^ t * 10 := Int.pow_succ _ _
    refine k_MM_numberOf_8 hO (i32s (by omega) (by omega)) ⟨by omega, by omega⟩ (i32s (by omega) (by omega)) ?_
    rw [w.1.2.2.1.2.2.1]
    refine ⟨w.1.1, (w.nu n9).1, (s_MN_at hO (w.nu n9) (by omega)).mono (fun y M2 e2 => ?_)⟩
    obtain ⟨e2, hy⟩ := e2
    subst e2
    refine ⟨by rw [hy]; exact (hO _ _).1, hO, fun q => by omega, fun _ => ⟨w.1.1, (w.nu hp).1, ?_⟩⟩
    have ee : nt M2 (a + 7) k + (t : Int) = (((nt M2 (a + 7) k + (t : Int)).toNat : Nat) : Int) := by omega
    have hd := p7 (nt M2 (a + 7) k + (t : Int)).toNat (by omega) (by omega)
    rw [ee]
    refine (s_MN_at hO (w.nu hp) (by omega)).mono (fun z M3 e3 => ?_)
    obtain ⟨e3, hz⟩ := e3
    subst e3
    refine ⟨by rw [hz]; exact (hO _ _).1, hO, ?_⟩
    have nx := ih (t + 1) (10 * v + z - 48) (by omega) (by omega) (by omega)
    rw [show nt M3 (a + 7) k + ((t + 1 : Nat) : Int) = (((nt M3 (a + 7) k + (t : Int)).toNat : Nat) : Int) + 1 by omega] at nx
    exact nx
end NO
