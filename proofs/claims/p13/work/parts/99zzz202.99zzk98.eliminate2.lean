/-! The Residues: elimination and substitution, the whole. -/
section NBK
variable {G : mG} {d e n m i k rows : Nat} {M M0 M' M1 M2 M3 : mM} {P a b x y X Y : Int}
def S36 (e x : Nat) : Prop := x = e + 3 ∨ x = e + 4 ∨ x = e + 5 ∨ x = e + 6
/-- entries of equations -/
def Ent9 (M : mM) (e N : Nat) : Prop := ∀ j, j < N → -1000000000 ≤ mI M (e + 1) j ∧ mI M (e + 1) j ≤ 1000000000
def Iv9 (M : mM) (e : Nat) (P : Int) (k : Nat) : Prop := ∀ j, j < k → 0 ≤ mI M (e + 4) j ∧ mI M (e + 4) j ≤ P
def elQ (M : mM) (e rows : Nat) (P : Int) (x : Int) (M' : mM) : Prop := mOk M' ∧ FI (S36 e) M M' ∧ (x = 0 ∨ x = 1) ∧ (x ≠ 0 → Wk9 M' e P (rows * 41) ∧ Iv9 M' e P rows ∧ 0 ≤ mI M' (e + 6) rows ∧ mI M' (e + 6) rows ≤ P)
def elI (M : mM) (e rows : Nat) (P : Int) (k : Nat) (M1 : mM) : Prop := mOk M1 ∧ FI (S36 e) M M1 ∧ Wk9 M1 e P (rows * 41) ∧ Iv9 M1 e P k
theorem s_el125 {dt : Int} (hP : 1000000000 < P ∧ P < 1073741824) (h : Rk M e) (hr : rows ≤ 40) (hk : k < rows) (hd : 0 ≤ dt ∧ dt ≤ P) (hI : elI M e rows P k M1)
    (hQ : ∀ M' dt', elI M e rows P (k + 1) M' → 0 ≤ dt' ∧ dt' ≤ P → h_Re_eliminate_53 G d e rows P dt' ((k + 1 : Nat) : Int) M' (elQ M e rows P)) : h_Re_eliminate_125 G d e rows P dt k M1 (elQ M e rows P) := by
  obtain ⟨o, F, w, iv⟩ := hI
  have k1 := h.fi F
  obtain ⟨e0, ⟨-, -, r2, r3, -⟩, ⟨-, -, k3, k4, -⟩, ⟨-, -, n3, n4, -⟩⟩ := id k1
  have w1 := w (k * 41 + k) (by omega)
  obtain ⟨p1, p2⟩ := pr_b hP.2 hd ⟨w1.1, Int.le_of_lt w1.2⟩ ⟨Int.le_refl 0, by omega⟩
  rw [Int.zero_add] at p1 p2
  obtain ⟨t1, t2, t3⟩ := tm_b p1 (show 0 < P by omega)
  refine k_Re_eliminate_125 o ⟨by omega, by omega⟩ ⟨by omega, by omega⟩ ⟨by omega, by omega⟩ ⟨by omega, by omega⟩ ?_
  rw [r2, r3, n3, show ((k : Nat) : Int) * 41 + ((k : Nat) : Int) = ((k * 41 + k : Nat) : Int) by omega, Int.toNat_natCast, Int.toNat_natCast, t1, show ((k : Int) + 1) = ((k + 1 : Nat) : Int) by omega]
  refine ⟨e0, k3, ⟨by omega, by omega⟩, p2, by omega, ⟨by omega, by omega⟩, (s_Re_inverse (d := d) ⟨w1.1, Int.le_of_lt w1.2⟩ ⟨by omega, hP.2⟩ o).mono (fun x64 M63 q => ?_)⟩
  obtain ⟨e63, x0, x1⟩ := q
  rw [e63, n4]
  refine ⟨⟨by omega, by omega⟩, o, k4, ⟨by omega, by omega⟩, fun M68 e68 => ?_⟩
  have f68 : FI (fun x => x = e + 4) M1 M68 := by rw [e68]; exact FI.ui rfl
  have o68 : mOk M68 := by rw [e68]; exact mOk_UI o ⟨by omega, by omega⟩
  have k68 := k1.fi f68
  have w68 : Wk9 M68 e P (rows * 41) := fun j hj => by rw [f68.2.2.2.2.2.2 (e + 3) (show ¬ e + 3 = e + 4 by omega)]; exact w j hj
  have v68 : mI M68 (e + 4) k = x64 := by rw [mI_ui _ k e68, if_pos ⟨rfl, rfl⟩]
  have iv68 : Iv9 M68 e P (k + 1) := fun j hj => by
    rw [mI_ui _ j e68]
    by_cases c : j = k
    · rw [if_pos ⟨rfl, c⟩]; exact ⟨x0, x1⟩
    · rw [if_neg (fun u => c u.2)]; exact iv j (by omega)
  refine ⟨k68.1, (s_Re_clearBelow (d := d) ⟨by omega, hP.2⟩ k68 hk hr rfl (by rw [v68]; exact ⟨x0, x1⟩) w68 o68).mono (fun M71 q => ?_)⟩
  obtain ⟨o71, F71, w71⟩ := q
  refine ⟨o71, hQ M71 _ ⟨o71, (F.trans (f68.mono (fun _ u => Or.inr (Or.inl u)))).trans (F71.mono (fun _ u => u.elim Or.inl (fun u => Or.inr (Or.inr (Or.inl u))))), w71, fun j hj => ?_⟩ ⟨t2, Int.le_of_lt t3⟩⟩
  rw [F71.2.2.2.2.2.2 (e + 4) (fun u => by unfold S35 at u; omega)]
  exact iv68 j hj
theorem s_el63 {dt : Int} (hP : 1000000000 < P ∧ P < 1073741824) (h : Rk M e) (hr : rows ≤ 40) (hk : k < rows) (hd : 0 ≤ dt ∧ dt ≤ P) (hI : elI M e rows P k M1)
    (hQ : ∀ M' dt', elI M e rows P (k + 1) M' → 0 ≤ dt' ∧ dt' ≤ P → h_Re_eliminate_53 G (d + 1) e rows P dt' ((k + 1 : Nat) : Int) M' (elQ M e rows P)) : ∀ (t p : Nat), rows ≤ p + t → k ≤ p → p ≤ rows → h_Re_eliminate_63 G (d + 1) e rows P dt k p M1 (elQ M e rows P) := by
  obtain ⟨o, F, w, iv⟩ := id hI
  have k1 := h.fi F
  obtain ⟨e0, ⟨-, -, r2, -⟩, ⟨-, -, k3, -⟩, ⟨-, -, n3, -⟩⟩ := id k1
  intro t
  induction t with
  | zero =>
    intro p h1 h2 h3
    have ep : p = rows := by omega
    subst ep
    exact k_Re_eliminate_63 o ⟨by omega, by omega⟩ ⟨by omega, by omega⟩ ⟨by omega, by omega⟩ ⟨by omega, by omega⟩ ⟨by omega, by omega⟩ ⟨fun u => absurd (Int.le_refl _) u, fun _ => ⟨fun _ => ⟨o, F, Or.inl rfl, fun u => absurd rfl u⟩, fun u => absurd rfl u⟩, fun u => absurd (Or.inl (Int.le_refl _)) u⟩
  | succ t ih =>
    intro p h1 h2 h3
    refine k_Re_eliminate_63 o ⟨by omega, by omega⟩ ⟨by omega, by omega⟩ ⟨by omega, by omega⟩ ⟨by omega, by omega⟩ ⟨by omega, by omega⟩ ?_
    rw [r2, n3, show ((p : Nat) : Int) * 41 + ((k : Nat) : Int) = ((p * 41 + k : Nat) : Int) by omega, Int.toNat_natCast, show ((p : Int) + 1) = ((p + 1 : Nat) : Int) by omega]
    refine ⟨fun u => ⟨e0, k3, ⟨by omega, by omega⟩⟩, fun _ => ⟨fun _ => ⟨o, F, Or.inl rfl, fun u => absurd rfl u⟩, fun ne => ⟨fun _ => s_el125 hP h hr hk hd hI hQ, fun u => ⟨e0, ?_⟩⟩⟩, fun u => ?_⟩
    · rw [show ((p : Nat) : Int) * 41 = ((p * 41 : Nat) : Int) by omega, show ((k : Nat) : Int) * 41 = ((k * 41 : Nat) : Int) by omega]
      refine (s_Re_swapRows (d := d + 1) (N := rows * 41) hP.2 k1 w (by omega) (by omega) (by omega) o).mono (fun M50 q => ?_)
      obtain ⟨o50, F50, w50⟩ := q
      refine ⟨o50, s_el125 hP h hr hk ⟨by omega, by omega⟩ ⟨o50, F.trans (F50.mono (fun _ u => Or.inl u)), w50, fun j hj => ?_⟩ hQ⟩
      rw [F50.2.2.2.2.2.2 (e + 4) (show ¬ e + 4 = e + 3 by omega)]
      exact iv j hj
    · refine ih (p + 1) (by omega) (by omega) ?_
      by_cases c : (rows : Int) ≤ p
      · exact absurd (Or.inl c) u
      · omega
theorem s_el53 (hP : 1000000000 < P ∧ P < 1073741824) (h : Rk M e) (hr : rows ≤ 40) : ∀ (t k : Nat) (dt : Int) (M1 : mM), rows ≤ k + t → k ≤ rows → 0 ≤ dt ∧ dt ≤ P → elI M e rows P k M1 → h_Re_eliminate_53 G (d + 1) e rows P dt k M1 (elQ M e rows P) := by
  have fin : ∀ (k : Nat) (dt : Int) (M1 : mM), k = rows → 0 ≤ dt ∧ dt ≤ P → elI M e rows P k M1 → mK M1 e = 12 ∧ mK M1 (mR M1 e 5) = 30 ∧ ((0 : Int) ≤ rows ∧ (rows : Int) < (mN M1 (mR M1 e 5) : Int)) ∧ i32 dt ∧ ∀ M35, M35 = mUI M1 (mR M1 e 5) (Int.toNat rows) dt → elQ M e rows P 1 M35 := by
    intro k dt M1 ek hd hI
    obtain ⟨o, F, w, iv⟩ := hI
    have k1 := h.fi F
    obtain ⟨e0, ⟨-, -, -, -, -, r5, -⟩, ⟨-, -, -, -, -, k6⟩, ⟨-, -, -, -, -, n6⟩⟩ := id k1
    rw [r5, n6, Int.toNat_natCast]
    refine ⟨e0, k6, ⟨by omega, by omega⟩, ⟨by omega, by omega⟩, fun M35 e35 => ?_⟩
    have f35 : FI (fun x => x = e + 6) M1 M35 := by rw [e35]; exact FI.ui rfl
    refine ⟨by rw [e35]; exact mOk_UI o ⟨by omega, by omega⟩, F.trans (f35.mono (fun _ u => Or.inr (Or.inr (Or.inr u)))), Or.inr rfl, fun _ => ⟨fun j hj => by rw [f35.2.2.2.2.2.2 (e + 3) (show ¬ e + 3 = e + 6 by omega)]; exact w j hj, fun j hj => by rw [f35.2.2.2.2.2.2 (e + 4) (show ¬ e + 4 = e + 6 by omega)]; exact iv j (by omega), by rw [mI_ui _ rows e35, if_pos ⟨rfl, rfl⟩]; exact hd⟩⟩
  intro t
  induction t with
  | zero =>
    intro k dt M1 h1 h2 hd hI
    exact k_Re_eliminate_53 hI.1 ⟨by omega, by omega⟩ ⟨by omega, by omega⟩ ⟨by omega, by omega⟩ ⟨by omega, by omega⟩ ⟨fun _ => fin k dt M1 (by omega) hd hI, fun u => absurd (by omega) u⟩
  | succ t ih =>
    intro k dt M1 h1 h2 hd hI
    refine k_Re_eliminate_53 hI.1 ⟨by omega, by omega⟩ ⟨by omega, by omega⟩ ⟨by omega, by omega⟩ ⟨by omega, by omega⟩ ⟨fun u => fin k dt M1 (by omega) hd hI, fun u => ?_⟩
    exact s_el63 hP h hr (by omega) hd hI (fun M' dt' hI' hd' => ih (k + 1) dt' M' (by omega) (by omega) hd' hI') rows k (by omega) (Nat.le_refl _) (by omega)
theorem s_Re_eliminate (hP : 1000000000 < P ∧ P < 1073741824) (h : Rk M e) (hr : rows ≤ 40) (he : Ent9 M e (rows * 41)) (hO : mOk M) : Ci G y_Re_eliminate (d + 2) [vr e, vi rows, vi P] M (elQ M e rows P) := by
  refine k_Re_eliminate hO ⟨by omega, by omega⟩ ⟨by omega, by omega⟩ ?_
  suffices HH : ∀ (t i : Nat) (M1 : mM), rows * 41 ≤ i + t → i ≤ rows * 41 → mOk M1 → FI (S36 e) M M1 → Wk9 M1 e P i → h_Re_eliminate_2 G (d + 1) e rows P i M1 (elQ M e rows P) from HH (rows * 41) 0 M (by omega) (by omega) hO FI.refl (fun j hj => absurd hj (by omega))
  intro t
  induction t with
  | zero =>
    intro i M1 h1 h2 o F w
    have ei : i = rows * 41 := by omega
    subst ei
    refine k_Re_eliminate_2 o ⟨by omega, by omega⟩ ⟨by omega, by omega⟩ ⟨by omega, by omega⟩ ⟨⟨by omega, by omega⟩, fun _ => ?_, fun u => absurd (by omega) u⟩
    exact s_el53 hP h hr rows 0 1 M1 (by omega) (by omega) ⟨by omega, by omega⟩ ⟨o, F, w, fun j hj => absurd hj (by omega)⟩
  | succ t ih =>
    intro i M1 h1 h2 o F w
    by_cases ei : i = rows * 41
    · exact ih i M1 (by omega) h2 o F w
    have k1 := h.fi F
    obtain ⟨e0, ⟨r0, -, r2, -⟩, ⟨k0, -, k3, -⟩, ⟨n1, -, n3, -⟩⟩ := id k1
    have i1 : mI M1 (e + 1) = mI M (e + 1) := F.2.2.2.2.2.2 (e + 1) (fun u => by unfold S36 at u; omega)
    have en := he i (by omega)
    refine k_Re_eliminate_2 o ⟨by omega, by omega⟩ ⟨by omega, by omega⟩ ⟨by omega, by omega⟩ ?_
    rw [r0, r2, n1, n3, i1, Int.toNat_natCast, show ((i : Int) + 1) = ((i + 1 : Nat) : Int) by omega]
    refine ⟨⟨by omega, by omega⟩, fun u => absurd u (by omega), fun _ => ⟨e0, k0, ⟨by omega, by omega⟩, ⟨fun _ => ⟨by omega, by omega⟩, fun _ => ⟨by omega, by omega⟩⟩, fun v14 e14 => ?_⟩⟩
    have vb : 0 ≤ v14 ∧ v14 < P := by
      by_cases c : 0 ≤ mI M (e + 1) i
      · rw [if_pos c] at e14; omega
      · rw [if_neg c] at e14; omega
    refine ⟨k3, ⟨by omega, by omega⟩, ⟨by omega, by omega⟩, fun M20 e20 => ?_⟩
    have f20 : FI (fun x => x = e + 3) M1 M20 := by rw [e20]; exact FI.ui rfl
    refine ih (i + 1) M20 (by omega) (by omega) (by rw [e20]; exact mOk_UI o ⟨by omega, by omega⟩) (F.trans (f20.mono (fun _ u => Or.inl u))) (fun j hj => ?_)
    rw [mI_ui _ j e20]
    by_cases c : j = i
    · rw [if_pos ⟨rfl, c⟩]; exact vb
    · rw [if_neg (fun u => c u.2)]; exact w j (by omega)
end NBK
