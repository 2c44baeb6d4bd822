section
/-! The Residues: elimination, substitution. -/
section NBJ
variable {G : mG} {d e n m i k rows : Nat} {M M0 M' M1 M2 M3 : mM} {P a b x y X Y : Int}
/-- columns that are columns -/
def Co9 (M : mM) (e fl : Nat) : Prop := ∀ c, c < fl → 0 ≤ mI M (e + 5) c ∧ mI M (e + 5) c < 41
def S35 (e x : Nat) : Prop := x = e + 3 ∨ x = e + 5
/-- one row is cleared -/
theorem s_cb105 {k i fl N : Nat} {fa : Int} {Q : mM → Prop} (hP : 0 < P ∧ P < 1073741824) (h : Rk M e) (hk : k < rows) (hi : i < rows) (hr : rows ≤ 40) (hfl : fl ≤ 40) (eN : N = rows * 41) (hf : 0 ≤ fa ∧ fa ≤ P)
    (hQ : ∀ M', mOk M' → FI (S35 e) M M' → Wk9 M' e P N → Co9 M' e fl → h_Re_clearBelow_53 G d e k rows P fl ((i + 1 : Nat) : Int) M' Q) : ∀ (t c : Nat) (M1 : mM), fl ≤ c + t → c ≤ fl → mOk M1 → FI (S35 e) M M1 → Wk9 M1 e P N → Co9 M1 e fl → h_Re_clearBelow_105 G d e k rows P fl i fa c M1 Q := by
  intro t
  induction t with
  | zero =>
    intro c M1 h1 h2 o F w co
    rw [show ((i + 1 : Nat) : Int) = (i : Int) + 1 by omega] at hQ
    exact k_Re_clearBelow_105 o ⟨by omega, by omega⟩ ⟨by omega, by omega⟩ ⟨by omega, by omega⟩ ⟨by omega, by omega⟩ ⟨by omega, by omega⟩ ⟨by omega, by omega⟩ ⟨by omega, by omega⟩ ⟨fun _ => hQ M1 o F w co, fun u => absurd (by omega) u⟩
  | succ t ih =>
    intro c M1 h1 h2 o F w co
    refine k_Re_clearBelow_105 o ⟨by omega, by omega⟩ ⟨by omega, by omega⟩ ⟨by omega, by omega⟩ ⟨by omega, by omega⟩ ⟨by omega, by omega⟩ ⟨by omega, by omega⟩ ⟨by omega, by omega⟩ ⟨fun _ => ?_, fun u => ?_⟩
    · have := hQ M1 o F w co
      rw [show ((i + 1 : Nat) : Int) = (i : Int) + 1 by omega] at this
      exact this
    · have k1 := h.fi F
      obtain ⟨e0, ⟨-, -, r2, -, r4, -⟩, ⟨-, -, k3, -, k5, -⟩, ⟨-, -, n3, -, n5, -⟩⟩ := id k1
      obtain ⟨j, ej⟩ : ∃ j : Nat, mI M1 (e + 5) c = ((j : Nat) : Int) := ⟨(mI M1 (e + 5) c).toNat, by have := co c (by omega); omega⟩
      have jb := co c (by omega)
      rw [ej] at jb
      have w1 := w (i * 41 + j) (by omega)
      have w2 := w (k * 41 + j) (by omega)
      obtain ⟨p1, p2⟩ := pr_b hP.2 hf ⟨w2.1, by omega⟩ ⟨w1.1, by omega⟩
      obtain ⟨t1, t2, t3⟩ := tm_b p1 hP.1
      rw [r2, r4, n3, n5, Int.toNat_natCast, ej, show ((i : Nat) : Int) * 41 + ((j : Nat) : Int) = ((i * 41 + j : Nat) : Int) by omega, show ((k : Nat) : Int) * 41 + ((j : Nat) : Int) = ((k * 41 + j : Nat) : Int) by omega, Int.toNat_natCast, Int.toNat_natCast, t1]
      refine ⟨e0, k5, ⟨by omega, by omega⟩, k3, ⟨by omega, by omega⟩, ⟨by omega, by omega⟩, p2, by omega, ⟨by omega, by omega⟩, ⟨by omega, by omega⟩, fun M64 e64 => ?_⟩
      have f64 : FI (fun x => x = e + 3) M1 M64 := by rw [e64]; exact FI.ui rfl
      rw [show ((c : Int) + 1) = ((c + 1 : Nat) : Int) by omega]
      exact ih (c + 1) M64 (by omega) (by omega) (by rw [e64]; exact mOk_UI o ⟨by omega, by omega⟩) (F.trans (f64.mono (fun _ u => Or.inl u))) (wk_ui w ⟨t2, t3⟩ e64) (fun c' hc => by rw [f64.2.2.2.2.2.2 (e + 5) (show ¬ e + 5 = e + 3 by omega)]; exact co c' hc)
/-- the rows below -/
theorem s_cb53 {k fl N : Nat} (hP : 0 < P ∧ P < 1073741824) (h : Rk M e) (hk : k < rows) (hr : rows ≤ 40) (hfl : fl ≤ 40) (eN : N = rows * 41) (hv : 0 ≤ mI M (e + 4) k ∧ mI M (e + 4) k ≤ P) : ∀ (t i : Nat) (M1 : mM), rows ≤ i + t → i ≤ rows → mOk M1 → FI (S35 e) M M1 → Wk9 M1 e P N → Co9 M1 e fl → h_Re_clearBelow_53 G d e k rows P fl i M1 (fun M' => mOk M' ∧ FI (S35 e) M M' ∧ Wk9 M' e P N) := by
  intro t
  induction t with
  | zero =>
    intro i M1 h1 h2 o F w co
    exact k_Re_clearBelow_53 o ⟨by omega, by omega⟩ ⟨by omega, by omega⟩ ⟨by omega, by omega⟩ ⟨by omega, by omega⟩ ⟨by omega, by omega⟩ ⟨fun _ => ⟨o, F, w⟩, fun u => absurd (by omega) u⟩
  | succ t ih =>
    intro i M1 h1 h2 o F w co
    refine k_Re_clearBelow_53 o ⟨by omega, by omega⟩ ⟨by omega, by omega⟩ ⟨by omega, by omega⟩ ⟨by omega, by omega⟩ ⟨by omega, by omega⟩ ⟨fun _ => ⟨o, F, w⟩, fun u => ?_⟩
    have k1 := h.fi F
    obtain ⟨e0, ⟨-, -, r2, r3, -⟩, ⟨-, -, k3, k4, -⟩, ⟨-, -, n3, n4, -⟩⟩ := id k1
    have i4 : mI M1 (e + 4) = mI M (e + 4) := F.2.2.2.2.2.2 (e + 4) (fun u => by unfold S35 at u; omega)
    have w1 := w (i * 41 + k) (by omega)
    obtain ⟨p1, p2⟩ := pr_b hP.2 ⟨w1.1, Int.le_of_lt w1.2⟩ hv ⟨Int.le_refl 0, by omega⟩
    rw [Int.zero_add] at p1 p2
    obtain ⟨t1, t2, t3⟩ := tm_b p1 hP.1
    rw [r2, r3, n3, n4, i4, show ((i : Nat) : Int) * 41 + ((k : Nat) : Int) = ((i * 41 + k : Nat) : Int) by omega, Int.toNat_natCast, Int.toNat_natCast, t1, show ((i : Int) + 1) = ((i + 1 : Nat) : Int) by omega]
    refine ⟨e0, k3, ⟨by omega, by omega⟩, fun _ => ih (i + 1) M1 (by omega) (by omega) o F w co, fun _ => ⟨k4, ⟨by omega, by omega⟩, p2, by omega, ?_⟩⟩
    exact s_cb105 (M := M1) hP k1 hk (by omega) hr hfl eN ⟨by omega, by omega⟩ (fun M' o' F' w' co' => ih (i + 1) M' (by omega) (by omega) o' (F.trans F') w' co') fl 0 M1 (by omega) (by omega) o FI.refl w co
theorem s_Re_clearBelow {k N : Nat} (hP : 0 < P ∧ P < 1073741824) (h : Rk M e) (hk : k < rows) (hr : rows ≤ 40) (eN : N = rows * 41) (hv : 0 ≤ mI M (e + 4) k ∧ mI M (e + 4) k ≤ P) (hw : Wk9 M e P N) (hO : mOk M) : Cv G y_Re_clearBelow d [vr e, vi k, vi rows, vi P] M (fun M' => mOk M' ∧ FI (S35 e) M M' ∧ Wk9 M' e P N) := by
  refine k_Re_clearBelow hO ⟨by omega, by omega⟩ ⟨by omega, by omega⟩ ⟨by omega, by omega⟩ ?_
  suffices HH : ∀ (t j fl : Nat) (M1 : mM), 41 ≤ j + t → k + 1 ≤ j → j ≤ 41 → fl ≤ j - (k + 1) → mOk M1 → FI (S35 e) M M1 → Wk9 M1 e P N → Co9 M1 e fl → h_Re_clearBelow_8 G d e k rows P fl j M1 (fun M' => mOk M' ∧ FI (S35 e) M M' ∧ Wk9 M' e P N) from by
    rw [show ((k : Int) + 1) = ((k + 1 : Nat) : Int) by omega]
    exact HH 41 (k + 1) 0 M (by omega) (by omega) (by omega) (by omega) hO FI.refl hw (fun c hc => absurd hc (by omega))
  intro t
  induction t with
  | zero =>
    intro j fl M1 h1 h2 h3 h4 o F w co
    refine k_Re_clearBelow_8 o ⟨by omega, by omega⟩ ⟨by omega, by omega⟩ ⟨by omega, by omega⟩ ⟨by omega, by omega⟩ ⟨by omega, by omega⟩ ⟨fun _ => ?_, fun u => absurd (by omega) u⟩
    rw [show ((k : Int) + 1) = ((k + 1 : Nat) : Int) by omega]
    exact s_cb53 hP h hk hr (by omega) eN hv rows (k + 1) M1 (by omega) (by omega) o F w co
  | succ t ih =>
    intro j fl M1 h1 h2 h3 h4 o F w co
    refine k_Re_clearBelow_8 o ⟨by omega, by omega⟩ ⟨by omega, by omega⟩ ⟨by omega, by omega⟩ ⟨by omega, by omega⟩ ⟨by omega, by omega⟩ ⟨fun u => ?_, fun u => ?_⟩
    · rw [show ((k : Int) + 1) = ((k + 1 : Nat) : Int) by omega]
      exact s_cb53 hP h hk hr (by omega) eN hv rows (k + 1) M1 (by omega) (by omega) o F w co
    · have k1 := h.fi F
      obtain ⟨e0, ⟨-, -, r2, -, r4, -⟩, ⟨-, -, k3, -, k5, -⟩, ⟨-, -, n3, -, n5, -⟩⟩ := id k1
      rw [r2, r4, n3, n5, show ((k : Nat) : Int) * 41 + ((j : Nat) : Int) = ((k * 41 + j : Nat) : Int) by omega, Int.toNat_natCast, Int.toNat_natCast, show ((j : Int) + 1) = ((j + 1 : Nat) : Int) by omega]
      refine ⟨e0, k3, ⟨by omega, by omega⟩, fun _ => ⟨k5, by omega, by omega⟩, fun v15 e15 M16 e16 => ?_⟩
      by_cases c : mI M1 (e + 3) (k * 41 + j) = 0
      · rw [if_pos c] at e15 e16
        rw [e15, e16]
        exact ⟨o, ih (j + 1) fl M1 (by omega) (by omega) (by omega) (by omega) o F w co⟩
      · rw [if_neg c] at e15 e16
        have f16 : FI (fun x => x = e + 5) M1 M16 := by rw [e16]; exact FI.ui rfl
        have o16 : mOk M16 := by rw [e16]; exact mOk_UI o ⟨by omega, by omega⟩
        rw [e15, show ((fl : Int) + 1) = ((fl + 1 : Nat) : Int) by omega]
        refine ⟨o16, ih (j + 1) (fl + 1) M16 (by omega) (by omega) (by omega) (by omega) o16 (F.trans (f16.mono (fun _ u => Or.inr u))) (fun i hi => by rw [f16.2.2.2.2.2.2 (e + 3) (show ¬ e + 3 = e + 5 by omega)]; exact w i hi) (fun c' hc => ?_)⟩
        rw [mI_ui _ c' e16]
        by_cases c2 : c' = fl
        · rw [if_pos ⟨rfl, c2⟩]; omega
        · rw [if_neg (fun u => c2 u.2)]; exact co c' (by omega)
end NBJ
end
section
/-! The Residues: elimination and substitution, the whole. -/
section NBK
variable {G : mG} {d e n m i k rows : Nat} {M M0 M' M1 M2 M3 : mM} {P a b x y X Y : Int}
def S36 (e x : Nat) : Prop := x = e + 3 ∨ x = e + 4 ∨ x = e + 5 ∨ x = e + 6
/-- entries of equations -/
def Ent9 (M : mM) (e N : Nat) : Prop := ∀ j, j < N → -1000000000 ≤ mI M (e + 1) j ∧ mI M (e + 1) j ≤ 1000000000
def Iv9 (M : mM) (e : Nat) (P : Int) (k : Nat) : Prop := ∀ j, j < k → 0 ≤ mI M (e + 4) j ∧ mI M (e + 4) j ≤ P
def elQ (M : mM) (e rows : Nat) (P : Int) (x : Int) (M' : mM) : Prop := mOk M' ∧ FI (S36 e) M M' ∧ (x = 0 ∨ x = 1) ∧ (x ≠ 0 → Wk9 M' e P (rows * 41) ∧ Iv9 M' e P rows ∧ 0 ≤ mI M' (e + 6) rows ∧ mI M' (e + 6) rows ≤ P)
def elI (M : mM) (e rows : Nat) (P : Int) (k : Nat) (M1 : mM) : Prop := mOk M1 ∧ FI (S36 e) M M1 ∧ Wk9 M1 e P (rows * 41) ∧ Iv9 M1 e P k
theorem s_el125 {dt : Int} (hP : 1000000000 < P ∧ P < 1073741824) (h : Rk M e) (hr : rows ≤ 40) (hk : k < rows) (hd : 0 ≤ dt ∧ dt ≤ P) (hI : elI M e rows P k M1)
    (hQ : ∀ M' dt', elI M e rows P (k + 1) M' → 0 ≤ dt' ∧ dt' ≤ P → h_Re_eliminate_53 G d e rows P dt' ((k + 1 : Nat) : Int) M' (elQ M e rows P)) : h_Re_eliminate_125 G d e rows P dt k M1 (elQ M e rows P) := by
  obtain ⟨o, F, w, iv⟩ := hI
  have k1 := h.fi F
  obtain ⟨e0, ⟨-, -, r2, r3, -⟩, ⟨-, -, k3, k4, -⟩, ⟨-, -, n3, n4, -⟩⟩ := id k1
  have w1 := w (k * 41 + k) (by omega)
  obtain ⟨p1, p2⟩ := pr_b hP.2 hd ⟨w1.1, Int.le_of_lt w1.2⟩ ⟨Int.le_refl 0, by omega⟩
  rw [Int.zero_add] at p1 p2
  obtain ⟨t1, t2, t3⟩ := tm_b p1 (show 0 < P by omega)
  refine k_Re_eliminate_125 o ⟨by omega, by omega⟩ ⟨by omega, by omega⟩ ⟨by omega, by omega⟩ ⟨by omega, by omega⟩ ?_
  rw [r2, r3, n3, show ((k : Nat) : Int) * 41 + ((k : Nat) : Int) = ((k * 41 + k : Nat) : Int) by omega, Int.toNat_natCast, Int.toNat_natCast, t1, show ((k : Int) + 1) = ((k + 1 : Nat) : Int) by omega]
  refine ⟨e0, k3, ⟨by omega, by omega⟩, p2, by omega, ⟨by omega, by omega⟩, (s_Re_inverse (d := d) ⟨w1.1, Int.le_of_lt w1.2⟩ ⟨by omega, hP.2⟩ o).mono (fun x64 M63 q => ?_)⟩
  obtain ⟨e63, x0, x1⟩ := q
  rw [e63, n4]
  refine ⟨⟨by omega, by omega⟩, o, k4, ⟨by omega, by omega⟩, fun M68 e68 => ?_⟩
  have f68 : FI (fun x => x = e + 4) M1 M68 := by rw [e68]; exact FI.ui rfl
  have o68 : mOk M68 := by rw [e68]; exact mOk_UI o ⟨by omega, by omega⟩
  have k68 := k1.fi f68
  have w68 : Wk9 M68 e P (rows * 41) := fun j hj => by rw [f68.2.2.2.2.2.2 (e + 3) (show ¬ e + 3 = e + 4 by omega)]; exact w j hj
  have v68 : mI M68 (e + 4) k = x64 := by rw [mI_ui _ k e68, if_pos ⟨rfl, rfl⟩]
  have iv68 : Iv9 M68 e P (k + 1) := fun j hj => by
    rw [mI_ui _ j e68]
    by_cases c : j = k
    · rw [if_pos ⟨rfl, c⟩]; exact ⟨x0, x1⟩
    · rw [if_neg (fun u => c u.2)]; exact iv j (by omega)
  refine ⟨k68.1, (s_Re_clearBelow (d := d) ⟨by omega, hP.2⟩ k68 hk hr rfl (by rw [v68]; exact ⟨x0, x1⟩) w68 o68).mono (fun M71 q => ?_)⟩
  obtain ⟨o71, F71, w71⟩ := q
  refine ⟨o71, hQ M71 _ ⟨o71, (F.trans (f68.mono (fun _ u => Or.inr (Or.inl u)))).trans (F71.mono (fun _ u => u.elim Or.inl (fun u => Or.inr (Or.inr (Or.inl u))))), w71, fun j hj => ?_⟩ ⟨t2, Int.le_of_lt t3⟩⟩
  rw [F71.2.2.2.2.2.2 (e + 4) (fun u => by unfold S35 at u; omega)]
  exact iv68 j hj
theorem s_el63 {dt : Int} (hP : 1000000000 < P ∧ P < 1073741824) (h : Rk M e) (hr : rows ≤ 40) (hk : k < rows) (hd : 0 ≤ dt ∧ dt ≤ P) (hI : elI M e rows P k M1)
    (hQ : ∀ M' dt', elI M e rows P (k + 1) M' → 0 ≤ dt' ∧ dt' ≤ P → h_Re_eliminate_53 G (d + 1) e rows P dt' ((k + 1 : Nat) : Int) M' (elQ M e rows P)) : ∀ (t p : Nat), rows ≤ p + t → k ≤ p → p ≤ rows → h_Re_eliminate_63 G (d + 1) e rows P dt k p M1 (elQ M e rows P) := by
  obtain ⟨o, F, w, iv⟩ := id hI
  have k1 := h.fi F
  obtain ⟨e0, ⟨-, -, r2, -⟩, ⟨-, -, k3, -⟩, ⟨-, -, n3, -⟩⟩ := id k1
  intro t
  induction t with
  | zero =>
    intro p h1 h2 h3
    have ep : p = rows := by omega
    subst ep
    exact k_Re_eliminate_63 o ⟨by omega, by omega⟩ ⟨by omega, by omega⟩ ⟨by omega, by omega⟩ ⟨by omega, by omega⟩ ⟨by omega, by omega⟩ ⟨fun u => absurd (Int.le_refl _) u, fun _ => ⟨fun _ => ⟨o, F, Or.inl rfl, fun u => absurd rfl u⟩, fun u => absurd rfl u⟩, fun u => absurd (Or.inl (Int.le_refl _)) u⟩
  | succ t ih =>
    intro p h1 h2 h3
    refine k_Re_eliminate_63 o ⟨by omega, by omega⟩ ⟨by omega, by omega⟩ ⟨by omega, by omega⟩ ⟨by omega, by omega⟩ ⟨by omega, by omega⟩ ?_
    rw [r2, n3, show ((p : Nat) : Int) * 41 + ((k : Nat) : Int) = ((p * 41 + k : Nat) : Int) by omega, Int.toNat_natCast, show ((p : Int) + 1) = ((p + 1 : Nat) : Int) by omega]
    refine ⟨fun u => ⟨e0, k3, ⟨by omega, by omega⟩⟩, fun _ => ⟨fun _ => ⟨o, F, Or.inl rfl, fun u => absurd rfl u⟩, fun ne => ⟨fun _ => s_el125 hP h hr hk hd hI hQ, fun u => ⟨e0, ?_⟩⟩⟩, fun u => ?_⟩
    · rw [show ((p : Nat) : Int) * 41 = ((p * 41 : Nat) : Int) by omega, show ((k : Nat) : Int) * 41 = ((k * 41 : Nat) : Int) by omega]
      refine (s_Re_swapRows (d := d + 1) (N := rows * 41) hP.2 k1 w (by omega) (by omega) (by omega) o).mono (fun M50 q => ?_)
      obtain ⟨o50, F50, w50⟩ := q
      refine ⟨o50, s_el125 hP h hr hk ⟨by omega, by omega⟩ ⟨o50, F.trans (F50.mono (fun _ u => Or.inl u)), w50, fun j hj => ?_⟩ hQ⟩
      rw [F50.2.2.2.2.2.2 (e + 4) (show ¬ e + 4 = e + 3 by omega)]
      exact iv j hj
    · refine ih (p + 1) (by omega) (by omega) ?_
      by_cases c : (rows : Int) ≤ p
      · exact absurd (Or.inl c) u
      · omega
theorem s_el53 (hP : 1000000000 < P ∧ P < 1073741824) (h : Rk M e) (hr : rows ≤ 40) : ∀ (t k : Nat) (dt : Int) (M1 : mM), rows ≤ k + t → k ≤ rows → 0 ≤ dt ∧ dt ≤ P → elI M e rows P k M1 → h_Re_eliminate_53 G (d + 1) e rows P dt k M1 (elQ M e rows P) := by
  have fin : ∀ (k : Nat) (dt : Int) (M1 : mM), k = rows → 0 ≤ dt ∧ dt ≤ P → elI M e rows P k M1 → mK M1 e = 12 ∧ mK M1 (mR M1 e 5) = 30 ∧ ((0 : Int) ≤ rows ∧ (rows : Int) < (mN M1 (mR M1 e 5) : Int)) ∧ i32 dt ∧ ∀ M35, M35 = mUI M1 (mR M1 e 5) (Int.toNat rows) dt → elQ M e rows P 1 M35 := by
    intro k dt M1 ek hd hI
    obtain ⟨o, F, w, iv⟩ := hI
    have k1 := h.fi F
    obtain ⟨e0, ⟨-, -, -, -, -, r5, -⟩, ⟨-, -, -, -, -, k6⟩, ⟨-, -, -, -, -, n6⟩⟩ := id k1
    rw [r5, n6, Int.toNat_natCast]
    refine ⟨e0, k6, ⟨by omega, by omega⟩, ⟨by omega, by omega⟩, fun M35 e35 => ?_⟩
    have f35 : FI (fun x => x = e + 6) M1 M35 := by rw [e35]; exact FI.ui rfl
    refine ⟨by rw [e35]; exact mOk_UI o ⟨by omega, by omega⟩, F.trans (f35.mono (fun _ u => Or.inr (Or.inr (Or.inr u)))), Or.inr rfl, fun _ => ⟨fun j hj => by rw [f35.2.2.2.2.2.2 (e + 3) (show ¬ e + 3 = e + 6 by omega)]; exact w j hj, fun j hj => by rw [f35.2.2.2.2.2.2 (e + 4) (show ¬ e + 4 = e + 6 by omega)]; exact iv j (by omega), by rw [mI_ui _ rows e35, if_pos ⟨rfl, rfl⟩]; exact hd⟩⟩
  intro t
  induction t with
  | zero =>
    intro k dt M1 h1 h2 hd hI
    exact k_Re_eliminate_53 hI.1 ⟨by omega, by omega⟩ ⟨by omega, by omega⟩ ⟨by omega, by omega⟩ ⟨by omega, by omega⟩ ⟨fun _ => fin k dt M1 (by omega) hd hI, fun u => absurd (by omega) u⟩
  | succ t ih =>
    intro k dt M1 h1 h2 hd hI
    refine k_Re_eliminate_53 hI.1 ⟨by omega, by omega⟩ ⟨by omega, by omega⟩ ⟨by omega, by omega⟩ ⟨by omega, by omega⟩ ⟨fun u => fin k dt M1 (by omega) hd hI, fun u => ?_⟩
    exact s_el63 hP h hr (by omega) hd hI (fun M' dt' hI' hd' => ih (k + 1) dt' M' (by omega) (by omega) hd' hI') rows k (by omega) (Nat.le_refl _) (by omega)
theorem s_Re_eliminate (hP : 1000000000 < P ∧ P < 1073741824) (h : Rk M e) (hr : rows ≤ 40) (he : Ent9 M e (rows * 41)) (hO : mOk M) : Ci G y_Re_eliminate (d + 2) [vr e, vi rows, vi P] M (elQ M e rows P) := by
  refine k_Re_eliminate hO ⟨by omega, by omega⟩ ⟨by omega, by omega⟩ ?_
  suffices HH : ∀ (t i : Nat) (M1 : mM), rows * 41 ≤ i + t → i ≤ rows * 41 → mOk M1 → FI (S36 e) M M1 → Wk9 M1 e P i → h_Re_eliminate_2 G (d + 1) e rows P i M1 (elQ M e rows P) from HH (rows * 41) 0 M (by omega) (by omega) hO FI.refl (fun j hj => absurd hj (by omega))
  intro t
  induction t with
  | zero =>
    intro i M1 h1 h2 o F w
    have ei : i = rows * 41 := by omega
    subst ei
    refine k_Re_eliminate_2 o ⟨by omega, by omega⟩ ⟨by omega, by omega⟩ ⟨by omega, by omega⟩ ⟨⟨by omega, by omega⟩, fun _ => ?_, fun u => absurd (by omega) u⟩
    exact s_el53 hP h hr rows 0 1 M1 (by omega) (by omega) ⟨by omega, by omega⟩ ⟨o, F, w, fun j hj => absurd hj (by omega)⟩
  | succ t ih =>
    intro i M1 h1 h2 o F w
    by_cases ei : i = rows * 41
    · exact ih i M1 (by omega) h2 o F w
    have k1 := h.fi F
    obtain ⟨e0, ⟨r0, -, r2, -⟩, ⟨k0, -, k3, -⟩, ⟨n1, -, n3, -⟩⟩ := id k1
    have i1 : mI M1 (e + 1) = mI M (e + 1) := F.2.2.2.2.2.2 (e + 1) (fun u => by unfold S36 at u; omega)
    have en := he i (by omega)
    refine k_Re_eliminate_2 o ⟨by omega, by omega⟩ ⟨by omega, by omega⟩ ⟨by omega, by omega⟩ ?_
    rw [r0, r2, n1, n3, i1, Int.toNat_natCast, show ((i : Int) + 1) = ((i + 1 : Nat) : Int) by omega]
    refine ⟨⟨by omega, by omega⟩, fun u => absurd u (by omega), fun _ => ⟨e0, k0, ⟨by omega, by omega⟩, ⟨fun _ => ⟨by omega, by omega⟩, fun _ => ⟨by omega, by omega⟩⟩, fun v14 e14 => ?_⟩⟩
    have vb : 0 ≤ v14 ∧ v14 < P := by
      by_cases c : 0 ≤ mI M (e + 1) i
      · rw [if_pos c] at e14; omega
      · rw [if_neg c] at e14; omega
    refine ⟨k3, ⟨by omega, by omega⟩, ⟨by omega, by omega⟩, fun M20 e20 => ?_⟩
    have f20 : FI (fun x => x = e + 3) M1 M20 := by rw [e20]; exact FI.ui rfl
    refine ih (i + 1) M20 (by omega) (by omega) (by rw [e20]; exact mOk_UI o ⟨by omega, by omega⟩) (F.trans (f20.mono (fun _ u => Or.inl u))) (fun j hj => ?_)
    rw [mI_ui _ j e20]
    by_cases c : j = i
    · rw [if_pos ⟨rfl, c⟩]; exact vb
    · rw [if_neg (fun u => c u.2)]; exact w j (by omega)
end NBK
end
section
/-! The Residues: substitution, remainders put together, systems settled. -/
section NBL
variable {G : mG} {d e z n m i k rows B : Nat} {M M0 M' M1 M2 M3 : mM} {P a b x y X Y : Int} {L : List Nat} {W : Nat → Nat}
/-- residues from i on -/
def Rd9 (M : mM) (e : Nat) (P : Int) (i n : Nat) : Prop := ∀ j, i ≤ j → j ≤ n → 0 ≤ mI M (e + 6) j ∧ mI M (e + 6) j ≤ P
theorem s_su111 (hP : 1000000000 < P ∧ P < 1073741824) (h : Rk M e) (hr : rows ≤ 40) : ∀ (t i : Nat) (M1 : mM), rows ≤ i + t → i ≤ rows → mOk M1 → FI (fun x => x = e + 6) M M1 → Rd9 M1 e P 0 rows → h_Re_substitute_111 G d e rows P i M1 (fun M' => mOk M' ∧ FI (fun x => x = e + 6) M M' ∧ Rd9 M' e P 0 rows) := by
  intro t
  induction t with
  | zero =>
    intro i M1 h1 h2 o F r
    exact k_Re_substitute_111 o ⟨by omega, by omega⟩ ⟨by omega, by omega⟩ ⟨by omega, by omega⟩ ⟨fun _ => ⟨o, F, r⟩, fun u => absurd (by omega) u⟩
  | succ t ih =>
    intro i M1 h1 h2 o F r
    refine k_Re_substitute_111 o ⟨by omega, by omega⟩ ⟨by omega, by omega⟩ ⟨by omega, by omega⟩ ⟨fun _ => ⟨o, F, r⟩, fun u => ?_⟩
    obtain ⟨e0, ⟨-, -, -, -, -, r5, -⟩, ⟨-, -, -, -, -, k6⟩, ⟨-, -, -, -, -, n6⟩⟩ := h.fi F
    obtain ⟨p1, p2⟩ := pr_b hP.2 (r i (by omega) (by omega)) (r rows (by omega) (by omega)) ⟨Int.le_refl 0, by omega⟩
    rw [Int.zero_add] at p1 p2
    obtain ⟨t1, t2, t3⟩ := tm_b p1 (show 0 < P by omega)
    rw [r5, n6, Int.toNat_natCast, Int.toNat_natCast, t1, show ((i : Int) + 1) = ((i + 1 : Nat) : Int) by omega]
    refine ⟨e0, k6, ⟨by omega, by omega⟩, ⟨by omega, by omega⟩, p2, by omega, ⟨by omega, by omega⟩, ⟨by omega, by omega⟩, fun M64 e64 => ?_⟩
    have f64 : FI (fun x => x = e + 6) M1 M64 := by rw [e64]; exact FI.ui rfl
    refine ih (i + 1) M64 (by omega) (by omega) (by rw [e64]; exact mOk_UI o ⟨by omega, by omega⟩) (F.trans f64) (fun j h0 hj => ?_)
    rw [mI_ui _ j e64]
    by_cases c : e + 6 = e + 6 ∧ j = i
    · rw [if_pos c]; exact ⟨t2, Int.le_of_lt t3⟩
    · rw [if_neg c]; exact r j h0 hj
theorem s_su28 {Q : mM → Prop} (hP : 1000000000 < P ∧ P < 1073741824) (h : Rk M1 e) (hr : rows ≤ 40) (hi : i < rows) (o : mOk M1) (w : Wk9 M1 e P (rows * 41)) (iv : Iv9 M1 e P rows) (r : Rd9 M1 e P (i + 1) rows)
    (hQ : ∀ M30 v, 0 ≤ v ∧ v ≤ P → M30 = mUI M1 (e + 6) i v → h_Re_substitute_4 G d e rows P ((i : Int) + (-1)) M30 Q) : ∀ (t j : Nat) (s : Int), rows ≤ j + t → i + 1 ≤ j → j ≤ rows → 0 ≤ s ∧ s ≤ P → h_Re_substitute_28 G d e rows P i s j M1 Q := by
  obtain ⟨e0, ⟨-, -, r2, r3, -, r5, -⟩, ⟨-, -, k3, k4, -, k6⟩, ⟨-, -, n3, n4, -, n6⟩⟩ := id h
  have fin : ∀ (s : Int), 0 ≤ s ∧ s ≤ P → mK M1 e = 12 ∧ mK M1 (mR M1 e 3) = 30 ∧ ((0 : Int) ≤ i ∧ (i : Int) < (mN M1 (mR M1 e 3) : Int)) ∧ i64 (s * (mI M1 (mR M1 e 3) (Int.toNat i))) ∧ P ≠ 0 ∧ mK M1 (mR M1 e 5) = 30 ∧ ((0 : Int) ≤ i ∧ (i : Int) < (mN M1 (mR M1 e 5) : Int)) ∧ i32 (Int.tmod (s * (mI M1 (mR M1 e 3) (Int.toNat i))) P) ∧ ∀ M30, M30 = mUI M1 (mR M1 e 5) (Int.toNat i) (Int.tmod (s * (mI M1 (mR M1 e 3) (Int.toNat i))) P) → h_Re_substitute_4 G d e rows P ((i : Int) + (-1)) M30 Q := by
    intro s hs
    obtain ⟨p1, p2⟩ := pr_b hP.2 hs (iv i hi) ⟨Int.le_refl 0, by omega⟩
    rw [Int.zero_add] at p1 p2
    obtain ⟨t1, t2, t3⟩ := tm_b p1 (show 0 < P by omega)
    rw [r3, r5, n4, n6, Int.toNat_natCast, t1]
    exact ⟨e0, k4, ⟨by omega, by omega⟩, p2, by omega, k6, ⟨by omega, by omega⟩, ⟨by omega, by omega⟩, fun M30 e30 => hQ M30 _ ⟨t2, Int.le_of_lt t3⟩ e30⟩
  intro t
  induction t with
  | zero =>
    intro j s h1 h2 h3 hs
    exact k_Re_substitute_28 o ⟨by omega, by omega⟩ ⟨by omega, by omega⟩ ⟨by omega, by omega⟩ ⟨by omega, by omega⟩ ⟨by omega, by omega⟩ ⟨fun _ => fin s hs, fun u => absurd (by omega) u⟩
  | succ t ih =>
    intro j s h1 h2 h3 hs
    refine k_Re_substitute_28 o ⟨by omega, by omega⟩ ⟨by omega, by omega⟩ ⟨by omega, by omega⟩ ⟨by omega, by omega⟩ ⟨by omega, by omega⟩ ⟨fun _ => fin s hs, fun u => ?_⟩
    have w1 := w (i * 41 + j) (by omega)
    have rj := r j (by omega) (by omega)
    obtain ⟨p1, p2⟩ := pr_b hP.2 ⟨w1.1, Int.le_of_lt w1.2⟩ (show 0 ≤ P - mI M1 (e + 6) j ∧ P - mI M1 (e + 6) j ≤ P by omega) hs
    obtain ⟨t1, t2, t3⟩ := tm_b p1 (show 0 < P by omega)
    rw [r2, r5, n3, n6, show ((i : Nat) : Int) * 41 + ((j : Nat) : Int) = ((i * 41 + j : Nat) : Int) by omega, Int.toNat_natCast, Int.toNat_natCast, t1, show ((j : Int) + 1) = ((j + 1 : Nat) : Int) by omega]
    refine ⟨e0, k3, ⟨by omega, by omega⟩, fun _ => ⟨k6, ⟨by omega, by omega⟩, ⟨by omega, by omega⟩, p2, by omega⟩, fun v41 e41 => ih (j + 1) v41 (by omega) (by omega) (by omega) ?_⟩
    by_cases c : cmpL (mI M1 (e + 3) (i * 41 + j)) 0 = 0
    · rw [if_pos c] at e41; rw [e41]; exact hs
    · rw [if_neg c] at e41; rw [e41]; exact ⟨t2, Int.le_of_lt t3⟩
theorem s_Re_substitute (hP : 1000000000 < P ∧ P < 1073741824) (h : Rk M e) (hr : rows ≤ 40) (hw : Wk9 M e P (rows * 41)) (hiv : Iv9 M e P rows) (hd : 0 ≤ mI M (e + 6) rows ∧ mI M (e + 6) rows ≤ P) (hO : mOk M) : Cv G y_Re_substitute d [vr e, vi rows, vi P] M (fun M' => mOk M' ∧ FI (fun x => x = e + 6) M M' ∧ Rd9 M' e P 0 rows) := by
  refine k_Re_substitute hO ⟨by omega, by omega⟩ ⟨by omega, by omega⟩ ?_
  suffices HH : ∀ (i : Nat) (M1 : mM), i ≤ rows → mOk M1 → FI (fun x => x = e + 6) M M1 → Rd9 M1 e P i rows → h_Re_substitute_4 G d e rows P ((i : Int) - 1) M1 (fun M' => mOk M' ∧ FI (fun x => x = e + 6) M M' ∧ Rd9 M' e P 0 rows) from HH rows M (Nat.le_refl _) hO FI.refl (fun j h1 h2 => by rw [show j = rows by omega]; exact hd)
  intro i
  induction i with
  | zero =>
    intro M1 h2 o F r
    exact k_Re_substitute_4 o ⟨by omega, by omega⟩ ⟨by omega, by omega⟩ ⟨by omega, by omega⟩ ⟨fun _ => s_su111 hP h hr rows 0 M1 (by omega) (by omega) o F r, fun u => absurd (by omega) u⟩
  | succ i ih =>
    intro M1 h2 o F r
    have k1 := h.fi F
    obtain ⟨e0, ⟨-, -, r2, -⟩, ⟨-, -, k3, -⟩, ⟨-, -, n3, -⟩⟩ := id k1
    have w1 : Wk9 M1 e P (rows * 41) := fun j hj => by rw [F.2.2.2.2.2.2 (e + 3) (show ¬ e + 3 = e + 6 by omega)]; exact hw j hj
    have iv1 : Iv9 M1 e P rows := fun j hj => by rw [F.2.2.2.2.2.2 (e + 4) (show ¬ e + 4 = e + 6 by omega)]; exact hiv j hj
    have wi := w1 (i * 41 + 40) (by omega)
    refine k_Re_substitute_4 o ⟨by omega, by omega⟩ ⟨by omega, by omega⟩ ⟨by omega, by omega⟩ ⟨fun u => absurd u (by omega), fun _ => ?_⟩
    rw [show ((i + 1 : Nat) : Int) - 1 = ((i : Nat) : Int) by omega, r2, n3, show ((i : Nat) : Int) * 41 + 40 = ((i * 41 + 40 : Nat) : Int) by omega, Int.toNat_natCast, show ((i : Int) + 1) = ((i + 1 : Nat) : Int) by omega]
    refine ⟨e0, k3, ⟨by omega, by omega⟩, s_su28 hP k1 hr (by omega) o w1 iv1 r (fun M30 v hv e30 => ?_) rows (i + 1) _ (by omega) (Nat.le_refl _) (by omega) ⟨wi.1, Int.le_of_lt wi.2⟩⟩
    rw [show ((i : Nat) : Int) + (-1) = ((i : Nat) : Int) - 1 by omega]
    refine ih M30 (by omega) (by rw [e30]; exact mOk_UI o ⟨by omega, by omega⟩) (F.trans (by rw [e30]; exact FI.ui rfl)) (fun j h1 h3 => ?_)
    rw [mI_ui _ j e30]
    by_cases c : j = i
    · rw [if_pos ⟨rfl, c⟩]; exact hv
    · rw [if_neg (fun u => c u.2)]; exact r j (by omega) h3
/-- the Residues' places -/
def RsK (L : List Nat) (M : mM) (e : Nat) : Prop := Rk M e ∧ (∀ i, i ≤ 6 → Oc L M (e + i)) ∧ (∀ i, i < 41 → mR M (e + 2) i = e + 9 + 2 * i ∧ e + 9 + 2 * i ∈ L) ∧ e + 7 ∈ L
/-- the numbers of the Residues -/
def Trs (e x : Nat) : Prop := x = e + 7 ∨ ∃ i, i < 41 ∧ x = e + 9 + 2 * i
theorem RsK.tl (h : RsK L M e) : ∀ t, Trs e t → t ∈ L := fun t ht => by
  rcases ht with u | ⟨i, hi, u⟩
  · rw [u]; exact h.2.2.2
  · rw [u]; exact (h.2.2.1 i hi).2
theorem RsK.kd (h : RsK L M e) (hi : i ≤ 6) : mK M (e + i) ≠ 9 ∧ mK M (e + i) ≠ 11 := by
  obtain ⟨⟨k0, -, ⟨k1, k2, k3, k4, k5, k6⟩, -⟩, -⟩ := h
  rcases (show i = 0 ∨ i = 1 ∨ i = 2 ∨ i = 3 ∨ i = 4 ∨ i = 5 ∨ i = 6 by omega) with u | u | u | u | u | u | u <;> rw [u]
  · rw [Nat.add_zero, k0]; decide
  · rw [k1]; decide
  · rw [k2]; decide
  · rw [k3]; decide
  · rw [k4]; decide
  · rw [k5]; decide
  · rw [k6]; decide
/-- other cells under a change of numbers alone -/
theorem NC.oth {T : Nat → Prop} {x : Nat} (h : NC L W T M M') (hx : Oc L M x) : (mK M' x = mK M x ∧ mN M' x = mN M x ∧ mR M' x = mR M x ∧ mI M' x = mI M x) := by
  obtain ⟨-, h2, h3, h4, -⟩ := h
  obtain ⟨a1, a2, a3, a4, a5⟩ := h3.2 x hx.1
  refine ⟨a1, a2, a4 (fun u => hx.2.1 (h2 x u)), a5 ?_⟩
  rintro (u | ⟨t, ht, u⟩)
  · exact hx.2.1 (h2 x u)
  · exact hx.2.2 t (h2 t ht) u.symm
theorem NC.ocx {T : Nat → Prop} {x : Nat} (h : NC L W T M M') (hF : NF L W M) (hx : Oc L M x) : Oc L M' x := by
  refine ⟨Nat.lt_of_lt_of_le hx.1 h.2.2.1.1.1, hx.2.1, fun a ha u => ?_⟩
  by_cases c : T a
  · rcases h.2.2.2.1 a c with q | q
    · exact hx.2.2 a ha (by rw [← q]; exact u)
    · have := hx.1
      omega
  · rw [(h.num hF ha c).1] at u
    exact hx.2.2 a ha u
theorem RsK.nc {T : Nat → Prop} (h : RsK L M e) (k : NC L W T M M') (hF : NF L W M) : RsK L M' e ∧ ∀ i, i ≤ 6 → mI M' (e + i) = mI M (e + i) := by
  obtain ⟨⟨k0, r, ⟨k1, k2, k3, k4, k5, k6⟩, n⟩, o, p, q⟩ := h
  have c := fun i (hi : i ≤ 6) => k.oth (o i hi)
  have c0 := c 0 (by decide)
  rw [Nat.add_zero] at c0
  refine ⟨⟨⟨by rw [c0.1]; exact k0, by rw [c0.2.2.1]; exact r, ?_, ?_⟩, fun i hi => k.ocx hF (o i hi), fun i hi => by rw [(c 2 (by decide)).2.2.1]; exact p i hi, q⟩, fun i hi => (c i hi).2.2.2⟩
  · rw [(c 1 (by decide)).1, (c 2 (by decide)).1, (c 3 (by decide)).1, (c 4 (by decide)).1, (c 5 (by decide)).1, (c 6 (by decide)).1]
    exact ⟨k1, k2, k3, k4, k5, k6⟩
  · rw [(c 1 (by decide)).2.1, (c 2 (by decide)).2.1, (c 3 (by decide)).2.1, (c 4 (by decide)).2.1, (c 5 (by decide)).2.1, (c 6 (by decide)).2.1]
    exact n
end NBL
end
