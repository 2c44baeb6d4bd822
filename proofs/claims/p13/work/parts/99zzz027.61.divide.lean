/-! The solver: a row is divided by its pivot. -/
section VS
variable {G : mG} {d s m : Nat} {M : mM} {A : Nat → Nat → Rat}
abbrev dvA (A : Nat → Nat → Rat) (k : Nat) (j : Int) : Nat → Nat → Rat := fun a b => if a = k ∧ j < (b : Int) then A k b * (A k k)⁻¹ else A a b
theorem dvA_step {A : Nat → Nat → Rat} {k j : Nat} : (fun a b => if a = k ∧ b = j then A k j * (A k k)⁻¹ else dvA A k j a b) = dvA A k ((j : Int) + (-1)) := by
  funext a b
  show (if a = k ∧ b = j then A k j * (A k k)⁻¹ else (if a = k ∧ (j : Int) < (b : Int) then A k b * (A k k)⁻¹ else A a b)) = if a = k ∧ (j : Int) + (-1) < (b : Int) then A k b * (A k k)⁻¹ else A a b
  by_cases q : a = k ∧ b = j
  · rw [if_pos q, if_pos ⟨q.1, by omega⟩, q.2]
  · rw [if_neg q]
    by_cases z : a = k ∧ (j : Int) < (b : Int)
    · rw [if_pos z, if_pos ⟨z.1, by omega⟩]
    · rw [if_neg z, if_neg (fun w => z ⟨w.1, by have : b ≠ j := fun y => q ⟨w.1, y⟩; omega⟩)]
theorem s_row {k : Nat} {Q : mM → Prop} (hm : m ≤ 40) (hk : k < m) (hO : mOk M) (hV : Vk M s) (hW : Wk M s) (hT : Tb M s m A) (hp : A k k ≠ 0) (hS : ∀ b, k ≤ b → b ≤ m → Sml (A k b * (A k k)⁻¹))
    (hQ : ∀ M', mOk M' → FI (cS s m) M M' → Wk M' s → Tb M' s m (dvA A k ((k : Int) + (-1))) → h_MS_solveRows_63 G (d + 4) s k 0 M' Q) : h_MS_solveRows_15 G (d + 4) s k m M Q := by
  have hT0 : Tb M s m (dvA A k (m : Int)) := by
    intro a b ha hb
    obtain ⟨t1, t2, t3⟩ := hT a b ha hb
    refine ⟨t1, t2, t3.trans ?_⟩
    show A a b = if a = k ∧ (m : Int) < (b : Int) then _ else A a b
    rw [if_neg (by omega)]
  suffices H : ∀ (n : Nat) (j : Int) (M2 : mM), j + 1 = k + n → j ≤ m → mOk M2 → FI (cS s m) M M2 → Wk M2 s → Tb M2 s m (dvA A k j) → h_MS_solveRows_15 G (d + 4) s k j M2 Q from
    H (m + 1 - k) m M (by omega) (by omega) hO FI.refl hW hT0
  intro n
  induction n with
  | zero =>
    intro j M2 hn hj o2 f2 W2 T2
    have ej : j = (k : Int) + (-1) := by omega
    rw [ej] at T2
    exact k_MS_solveRows_15 o2 ⟨by omega, by omega⟩ ⟨by omega, by omega⟩ ⟨fun _ => hQ M2 o2 f2 W2 T2, fun c => by omega⟩
  | succ n ih =>
    intro j0 M2 hn hj o2 f2 W2 T2
    obtain ⟨j, ej⟩ : ∃ j : Nat, j0 = j := ⟨j0.toNat, by omega⟩
    subst ej
    have hV2 := hV.fi f2
    have cj := T2 k j hk (by omega)
    have ck := T2 k k hk (by omega)
    have vj : fv M2 (cel s k j) = A k j := cj.2.2.trans (if_neg (by omega))
    have vk : fv M2 (cel s k k) = A k k := ck.2.2.trans (if_neg (by omega))
    have hnz : sn M2 (cel s k k) ≠ 0 := fun q => hp (by
      rw [← vk]
      unfold fv
      rw [q]
      have : ((0 : Int) : Rat) = 0 := rfl
      grind)
    have z1 := cj.1.2.1.1.2.2.2.2.2.2
    have z2 := cj.1.2.2.1.1.2.2.2.2.2.2
    have z3 := ck.1.2.1.1.2.2.2.2.2.2
    have z4 := ck.1.2.2.1.1.2.2.2.2.2.2
    refine k_MS_solveRows_15 o2 ⟨by omega, by omega⟩ ⟨by omega, by omega⟩ ⟨fun c => by omega, fun _ => ⟨hV2.k0, (s_MS_cell (by omega) (by omega) o2 hV2).mono (fun x M3 h3 => ?_)⟩⟩
    obtain ⟨e3, hx⟩ := h3
    subst e3 hx
    refine ⟨o2, hV2.k0, (s_MS_cell (by omega) (by omega) o2 hV2).mono (fun x M4 h4 => ?_)⟩
    obtain ⟨e4, hx⟩ := h4
    subst e4 hx
    rw [hV2.r0]
    refine ⟨o2, W2.1.1.1, (s_MU_divide1 (d := d) o2 W2.1 cj.1 ck.1 (by unfold suO cel; omega) (by unfold suO cel; omega) hnz (by omega) (by omega)).mono (fun M5 h5 => ?_)⟩
    have hv5 := fv_div cj.1 ck.1 hnz h5
    rw [vj, vk] at hv5
    have hv6 : fv M5 (s + 1 + 1) = A k j * (A k k)⁻¹ := by
      have e := Rat.mul_inv_cancel _ hp
      rw [← hv5]
      grind
    obtain ⟨t1, t2, t3, t4, t5, -⟩ := h5
    have t2' : FI (fun x => s + 2 ≤ x ∧ x ≤ s + 21) M4 M5 := t2.mono (fun x q => by omega)
    have V5 := hV2.fi t2
    have W5 : Wk M5 s := W2.out t2' t3 (fun x q => by omega)
    have T5 := T2.out t2' (fun x q => by omega)
    have cj5 := T5 k j hk (by omega)
    have hsm := sml_size t4 t5 (by rw [hv6]; exact hS j (by omega) (by omega))
    refine ⟨t1, V5.k0, (s_MS_cell (by omega) (by omega) t1 V5).mono (fun x M6 h6 => ?_)⟩
    obtain ⟨e6, hx⟩ := h6
    subst e6 hx
    rw [V5.r0, t3.1.2.1]
    refine ⟨t1, V5.k0, t3.1.1, cj5.1.1.1, (s_MF_copy t1 cj5.1.ft t4 (by unfold cel; omega) hsm.1 hsm.2).mono (fun M7 h7 => ?_)⟩
    obtain ⟨w1, w2, w3, w4, w5, w6⟩ := h7
    have hf7 := fc_copy t5 w4 w5 w6
    have w2' : FI (cR s m) M6 M7 := w2.mono (fun x q => by have q' : cel s k j ≤ x ∧ x ≤ cel s k j + 4 := q; unfold cel at q'; omega)
    have T7 := T5.put hm hk (by omega) w2 w3 hf7.1 (hf7.2.trans hv6)
    rw [dvA_step] at T7
    exact ⟨w1, ih ((j : Int) + (-1)) M7 (by omega) (by omega) w1 ((f2.trans (t2'.mono (fun x q => by omega))).trans (w2'.mono (fun x q => by omega))) (W5.out w2' (t3.far w2' (fun x q => by omega)) (fun x q => by omega)) T7⟩
end VS
