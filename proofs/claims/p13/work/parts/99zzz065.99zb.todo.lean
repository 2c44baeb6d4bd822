/-! The reference: the pile of what is to do. -/
section TD
variable {G : mG} {d a : Nat} {M : mM}
theorem n99 : a + 99 ∈ nums a := nums_o (by decide)
theorem r24w (w : Wd M a) : mR M a 24 = a + 99 := w.1.2.2.2.2.1.2.2.2.2.2.2.2.2.1
/-- two numbers are pushed -/
theorem s_MM_todo {X : Nat} {u v : Int} (hu : i32 u) (hv : i32 v) (hO : mOk M) (h : Wd M a) (hl : ln M (a + 99) = (X : Int)) (hX : X ≤ 65000) : Cv G y_MM_todo (d + 1) [vr a, vi u, vi v] M (fun M' => mOk M' ∧ Mv (fun x => x = a + 99) (fun _ => False) M a M' ∧ ln M' (a + 99) = (X + 2 : Nat) ∧ (∀ j, j < X → nt M' (a + 99) j = nt M (a + 99) j) ∧ nt M' (a + 99) X = u ∧ nt M' (a + 99) (X + 1) = v) := by
  refine k_MM_todo hO hu hv ?_
  rw [r24w h]
  refine ⟨h.1.1, (h.nu n99).1, (s_MN_addB (B := 65536) hu hO (h.nu n99) (by omega) (by decide)).mono (fun M1 t => ?_)⟩
  have m1 := mv_addB h n99 (Or.inr (Or.inr (Or.inr rfl))) t
  have w1 := m1.2.1
  obtain ⟨-, -, -, t1, t2, t3, -⟩ := t
  rw [hl] at t1 t2 t3
  rw [Int.toNat_natCast] at t3
  rw [r24w w1]
  refine ⟨m1.1, w1.1.1, (w1.nu n99).1, (s_MN_addB (B := 65536) hv m1.1 (w1.nu n99) (by omega) (by decide)).mono (fun M2 t' => ?_)⟩
  have m2 := mv_addB w1 n99 (Or.inr (Or.inr (Or.inr rfl))) t'
  obtain ⟨-, -, -, s1, s2, s3, -⟩ := t'
  rw [t1] at s1 s2 s3
  rw [show ((X : Int) + 1).toNat = X + 1 by omega] at s3
  exact ⟨m2.1, m2.1, m1.trans m2, by rw [s1]; omega, fun j hj => by rw [s2 j (by omega), t2 j (by omega)], by rw [s2 X (by omega)]; exact t3, s3⟩
theorem s_MM_turnTodo {L k : Nat} (hO : mOk M) (h : Wd M a) (hl : ln M (a + 99) = (L + 2 * k : Nat)) (hb : L + 2 * k ≤ 200000) (hk : 1 ≤ k) : Cv G y_MM_turnTodo (d + 1) [vr a, vi L] M (fun M' => Mv (fun x => x = a + 99) (fun _ => False) M a M' ∧ ln M' (a + 99) = ln M (a + 99) ∧ (∀ j, j < k → nt M' (a + 99) (L + 2 * j + 1) = nt M (a + 99) (L + 2 * (k - 1 - j) + 1)) ∧ ∀ i, (∀ j, j < k → i ≠ L + 2 * j + 1) → nt M' (a + 99) i = nt M (a + 99) i) := by
  have r24 : ∀ (M3 : mM), Wd M3 a → mR M3 a 24 = a + 99 := fun M3 w => w.1.2.2.2.2.1.2.2.2.2.2.2.2.2.1
  have l0 : mI M (a + 99) 1 = (L + 2 * k : Nat) := hl
  refine k_MM_turnTodo hO ⟨by omega, by omega⟩ ?_
  rw [r24 M h, l0]
  refine ⟨h.1.1, (h.nu n99).1, ?_⟩
  -- t pairs have been turned
  suffices H : ∀ (c t : Nat) (M3 : mM), c + t = k → Mv (fun x => x = a + 99) (fun _ => False) M a M3 → ln M3 (a + 99) = ln M (a + 99) → 2 * t ≤ k → (∀ j, j < k → nt M3 (a + 99) (L + 2 * j + 1) = if j < t ∨ k - 1 - j < t then nt M (a + 99) (L + 2 * (k - 1 - j) + 1) else nt M (a + 99) (L + 2 * j + 1)) → (∀ i, (∀ j, j < k → i ≠ L + 2 * j + 1) → nt M3 (a + 99) i = nt M (a + 99) i) → h_MM_turnTodo_12 G d a (L + 2 * t : Nat) ((L + 2 * k : Nat) - 2 - 2 * (t : Int)) M3 (fun M' => Mv (fun x => x = a + 99) (fun _ => False) M a M' ∧ ln M' (a + 99) = ln M (a + 99) ∧ (∀ j, j < k → nt M' (a + 99) (L + 2 * j + 1) = nt M (a + 99) (L + 2 * (k - 1 - j) + 1)) ∧ ∀ i, (∀ j, j < k → i ≠ L + 2 * j + 1) → nt M' (a + 99) i = nt M (a + 99) i) by
    have := H k 0 M (by omega) (Mv.refl hO h (fun q hq => by rw [hq]; exact h.lt n99)) rfl (by omega) (fun j hj => by rw [if_neg (by omega)]) (fun i _ => rfl)
    rw [show L + 2 * 0 = L by omega, show ((L + 2 * k : Nat) : Int) - 2 - 2 * ((0 : Nat) : Int) = ((L + 2 * k : Nat) : Int) - 2 by omega] at this
    exact this
  intro c
  induction c with
  | zero => intro t M3 hc _ _ h2; omega
  | succ c ih =>
    intro t M3 hc m3 l3 ht h3 o3
    have w3 := m3.2.1
    have u3 := w3.nu (p := a + 99) n99
    have c3 : ((L + 2 * k : Nat) : Int) ≤ cp M3 (a + 99) := by rw [← hl, ← l3]; exact u3.2.2.2.1.2
    have ecp : mN M3 (mR M3 (a + 99) 0) = cp M3 (a + 99) := rfl
    refine k_MM_turnTodo_12 m3.1 ⟨by omega, by omega⟩ ⟨by omega, by omega⟩ ⟨fun q => ⟨m3, l3, fun j hj => ?_, o3⟩, fun q => ?_⟩
    · rw [h3 j hj]
      by_cases z : j < t ∨ k - 1 - j < t
      · rw [if_pos z]
      · rw [if_neg z, show k - 1 - j = j by omega]
    · rw [r24 M3 w3, show ((L + 2 * t : Nat) : Int) + 1 = ((L + 2 * t + 1 : Nat) : Int) by omega, show ((L + 2 * k : Nat) : Int) - 2 - 2 * (t : Int) + 1 = ((L + 2 * (k - 1 - t) + 1 : Nat) : Int) by omega]
      refine ⟨w3.1.1, u3.1, (s_MN_at m3.1 u3 (by omega)).mono (fun x M4 h4 => ?_)⟩
      obtain ⟨e4, hx⟩ := h4
      subst e4
      rw [r24 M4 w3]
      refine ⟨by rw [hx]; exact (m3.1 _ _).1, m3.1, w3.1.1, u3.1, (s_MN_at m3.1 u3 (by omega)).mono (fun y M5 h5 => ?_)⟩
      obtain ⟨e5, hy⟩ := h5
      subst e5
      have hx32 : i32 x := by rw [hx]; exact (m3.1 _ _).1
      have hy32 : i32 y := by rw [hy]; exact (m3.1 _ _).1
      refine ⟨hy32, m3.1, u3.2.1, by omega, fun M6 e6 => ?_⟩
      rw [Int.toNat_natCast] at e6
      obtain ⟨m6, l6, k6, -⟩ := mv_el hy32 m3.1 w3 n99 e6
      have w6 := m6.2.1
      have u6 := w6.nu (p := a + 99) n99
      have c6 : ((L + 2 * k : Nat) : Int) ≤ cp M6 (a + 99) := by rw [← hl, ← l3, ← l6]; exact u6.2.2.2.1.2
      have ecp6 : mN M6 (mR M6 (a + 99) 0) = cp M6 (a + 99) := rfl
      rw [r24 M6 w6]
      refine ⟨w6.1.1, u6.1, u6.2.1, by omega, fun M7 e7 => ?_⟩
      rw [Int.toNat_natCast] at e7
      obtain ⟨m7, l7, k7, -⟩ := mv_el hx32 m6.1 w6 n99 e7
      have nx := ih (t + 1) M7 (by omega) ((m3.trans m6).trans m7) (by rw [l7, l6, l3]) (by omega) (fun j hj => ?_) (fun i hi => ?_)
      · rw [show ((L + 2 * (t + 1) : Nat) : Int) = ((L + 2 * t : Nat) : Int) + 2 by omega, show ((L + 2 * k : Nat) : Int) - 2 - 2 * ((t + 1 : Nat) : Int) = ((L + 2 * k : Nat) : Int) - 2 - 2 * (t : Int) - 2 by omega] at nx
        exact nx
      · rw [k7, k6]
        by_cases z1 : j = k - 1 - t
        · rw [if_pos (by omega), hx, h3 t (by omega), if_neg (by omega), if_pos (by omega), z1, show k - 1 - (k - 1 - t) = t by omega]
        · rw [if_neg (by omega)]
          by_cases z2 : j = t
          · rw [if_pos (by omega), hy, h3 (k - 1 - t) (by omega), if_neg (by omega), if_pos (by omega), z2]
          · rw [if_neg (by omega), h3 j hj]
            by_cases z3 : j < t ∨ k - 1 - j < t
            · rw [if_pos z3, if_pos (by omega)]
            · rw [if_neg z3, if_neg (by omega)]
      · rw [k7, k6, if_neg (hi (k - 1 - t) (by omega)), if_neg (hi t (by omega))]
        exact o3 i hi
end TD
