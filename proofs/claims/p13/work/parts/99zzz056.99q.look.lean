/-! The reference: turning a pile, looking a name up. -/
section LU
variable {G : mG} {d a N g T K : Nat} {M M2 : mM}
theorem n93 : a + 93 ∈ nums a := nums_o (by decide)
theorem n95 : a + 95 ∈ nums a := nums_o (by decide)
theorem s_MM_turn {L k : Nat} (hO : mOk M) (h : Wd M a) (hl : ln M (a + 95) = (L + 2 * k : Nat)) (hb : L + 2 * k ≤ 200000) (hk : 1 ≤ k) : Cv G y_MM_turn (d + 1) [vr a, vi L] M (fun M' => Mv (fun x => x = a + 95) (fun _ => False) M a M' ∧ ln M' (a + 95) = ln M (a + 95) ∧ (∀ j, j < k → nt M' (a + 95) (L + 2 * j) = nt M (a + 95) (L + 2 * (k - 1 - j))) ∧ ∀ i, (∀ j, j < k → i ≠ L + 2 * j) → nt M' (a + 95) i = nt M (a + 95) i) := by
  have r20 : ∀ (M3 : mM), Wd M3 a → mR M3 a 20 = a + 95 := fun M3 w => w.1.2.2.2.2.1.2.2.2.2.2.1
  have l0 : mI M (a + 95) 1 = (L + 2 * k : Nat) := hl
  refine k_MM_turn hO ⟨by omega, by omega⟩ ?_
  rw [r20 M h, l0]
  refine ⟨h.1.1, (h.nu n95).1, ?_⟩
  -- t pairs have been turned
  suffices H : ∀ (c t : Nat) (M3 : mM), c + t = k → Mv (fun x => x = a + 95) (fun _ => False) M a M3 → ln M3 (a + 95) = ln M (a + 95) → 2 * t ≤ k → (∀ j, j < k → nt M3 (a + 95) (L + 2 * j) = if j < t ∨ k - 1 - j < t then nt M (a + 95) (L + 2 * (k - 1 - j)) else nt M (a + 95) (L + 2 * j)) → (∀ i, (∀ j, j < k → i ≠ L + 2 * j) → nt M3 (a + 95) i = nt M (a + 95) i) → h_MM_turn_12 G d a (L + 2 * t : Nat) ((L + 2 * k : Nat) - 2 - 2 * (t : Int)) M3 (fun M' => Mv (fun x => x = a + 95) (fun _ => False) M a M' ∧ ln M' (a + 95) = ln M (a + 95) ∧ (∀ j, j < k → nt M' (a + 95) (L + 2 * j) = nt M (a + 95) (L + 2 * (k - 1 - j))) ∧ ∀ i, (∀ j, j < k → i ≠ L + 2 * j) → nt M' (a + 95) i = nt M (a + 95) i) by
    have := H k 0 M (by omega) (Mv.refl hO h (fun q hq => by rw [hq]; exact h.lt n95)) rfl (by omega) (fun j hj => by rw [if_neg (by omega)]) (fun i _ => rfl)
    rw [show L + 2 * 0 = L by omega, show ((L + 2 * k : Nat) : Int) - 2 - 2 * ((0 : Nat) : Int) = ((L + 2 * k : Nat) : Int) - 2 by omega] at this
    exact this
  intro c
  induction c with
  | zero => intro t M3 hc _ _ h2; omega
  | succ c ih =>
    intro t M3 hc m3 l3 ht h3 o3
    have w3 := m3.2.1
    have u3 := w3.nu (p := a + 95) n95
    have c3 : ((L + 2 * k : Nat) : Int) ≤ cp M3 (a + 95) := by rw [← hl, ← l3]; exact u3.2.2.2.1.2
    have ecp : mN M3 (mR M3 (a + 95) 0) = cp M3 (a + 95) := rfl
    refine k_MM_turn_12 m3.1 ⟨by omega, by omega⟩ ⟨by omega, by omega⟩ ⟨fun q => ⟨m3, l3, fun j hj => ?_, o3⟩, fun q => ?_⟩
    · rw [h3 j hj]
      by_cases z : j < t ∨ k - 1 - j < t
      · rw [if_pos z]
      · rw [if_neg z, show k - 1 - j = j by omega]
    · rw [r20 M3 w3]
      refine ⟨w3.1.1, u3.1, (s_MN_at m3.1 u3 (by omega)).mono (fun x M4 h4 => ?_)⟩
      obtain ⟨e4, hx⟩ := h4
      subst e4
      rw [r20 M4 w3, show ((L + 2 * k : Nat) : Int) - 2 - 2 * (t : Int) = ((L + 2 * (k - 1 - t) : Nat) : Int) by omega]
      refine ⟨by rw [hx]; exact (m3.1 _ _).1, m3.1, w3.1.1, u3.1, (s_MN_at m3.1 u3 (by omega)).mono (fun y M5 h5 => ?_)⟩
      obtain ⟨e5, hy⟩ := h5
      subst e5
      have hx32 : i32 x := by rw [hx]; exact (m3.1 _ _).1
      have hy32 : i32 y := by rw [hy]; exact (m3.1 _ _).1
      refine ⟨hy32, m3.1, u3.2.1, by omega, fun M6 e6 => ?_⟩
      rw [Int.toNat_natCast] at e6
      obtain ⟨m6, l6, k6, -⟩ := mv_el hy32 m3.1 w3 n95 e6
      have w6 := m6.2.1
      have u6 := w6.nu (p := a + 95) n95
      have c6 : ((L + 2 * k : Nat) : Int) ≤ cp M6 (a + 95) := by rw [← hl, ← l3, ← l6]; exact u6.2.2.2.1.2
      have ecp6 : mN M6 (mR M6 (a + 95) 0) = cp M6 (a + 95) := rfl
      rw [r20 M6 w6]
      refine ⟨w6.1.1, u6.1, u6.2.1, by omega, fun M7 e7 => ?_⟩
      rw [Int.toNat_natCast] at e7
      obtain ⟨m7, l7, k7, -⟩ := mv_el hx32 m6.1 w6 n95 e7
      have nx := ih (t + 1) M7 (by omega) ((m3.trans m6).trans m7) (by rw [l7, l6, l3]) (by omega) (fun j hj => ?_) (fun i hi => ?_)
      · rw [show ((L + 2 * (t + 1) : Nat) : Int) = ((L + 2 * t : Nat) : Int) + 2 by omega, show ((L + 2 * k : Nat) : Int) - 2 - 2 * ((t + 1 : Nat) : Int) = ((L + 2 * (k - 1 - t) : Nat) : Int) - 2 by omega] at nx
        exact nx
      · rw [k7, k6]
        by_cases z1 : j = k - 1 - t
        · rw [if_pos (by omega), hx, h3 t (by omega), if_neg (by omega), if_pos (by omega), z1, show k - 1 - (k - 1 - t) = t by omega]
        · rw [if_neg (by omega)]
          by_cases z2 : j = t
          · rw [if_pos (by omega), hy, h3 (k - 1 - t) (by omega), if_neg (by omega), if_pos (by omega), z2]
          · rw [if_neg (by omega), h3 j hj]
            by_cases z3 : j < t ∨ k - 1 - j < t
            · rw [if_pos z3, if_pos (by omega)]
            · rw [if_neg z3, if_neg (by omega)]
      · rw [k7, k6, if_neg (hi (k - 1 - t) (by omega)), if_neg (hi t (by omega))]
        exact o3 i hi
end LU
