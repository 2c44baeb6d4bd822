/-! The Residues: elimination, substitution. -/
section NBJ
variable {G : mG} {d e n m i k rows : Nat} {M M0 M' M1 M2 M3 : mM} {P a b x y X Y : Int}
/-- columns that are columns -/
def Co9 (M : mM) (e fl : Nat) : Prop := ∀ c, c < fl → 0 ≤ mI M (e + 5) c ∧ mI M (e + 5) c < 41
def S35 (e x : Nat) : Prop := x = e + 3 ∨ x = e + 5
/-- one row is cleared -/
theorem s_cb105 {k i fl N : Nat} {fa : Int} {Q : mM → Prop} (hP : 0 < P ∧ P < 1073741824) (h : Rk M e) (hk : k < rows) (hi : i < rows) (hr : rows ≤ 40) (hfl : fl ≤ 40) (eN : N = rows * 41) (hf : 0 ≤ fa ∧ fa ≤ P)
    (hQ : ∀ M', mOk M' → FI (S35 e) M M' → Wk9 M' e P N → Co9 M' e fl → h_Re_clearBelow_53 G d e k rows P fl ((i + 1 : Nat) : Int) M' Q) : ∀ (t c : Nat) (M1 : mM), fl ≤ c + t → c ≤ fl → mOk M1 → FI (S35 e) M M1 → Wk9 M1 e P N → Co9 M1 e fl → h_Re_clearBelow_105 G d e k rows P fl i fa c M1 Q := by
  intro t
  induction t with
  | zero =>
    intro c M1 h1 h2 o F w co
    rw [show ((i + 1 : Nat) : Int) = (i : Int) + 1 by omega] at hQ
    exact k_Re_clearBelow_105 o ⟨by omega, by omega⟩ ⟨by omega, by omega⟩ ⟨by omega, by omega⟩ ⟨by omega, by omega⟩ ⟨by omega, by omega⟩ ⟨by omega, by omega⟩ ⟨by omega, by omega⟩ ⟨fun _ => hQ M1 o F w co, fun u => absurd (by omega) u⟩
  | succ t ih =>
    intro c M1 h1 h2 o F w co
    refine k_Re_clearBelow_105 o ⟨by omega, by omega⟩ ⟨by omega, by omega⟩ ⟨by omega, by omega⟩ ⟨by omega, by omega⟩ ⟨by omega, by omega⟩ ⟨by omega, by omega⟩ ⟨by omega, by omega⟩ ⟨fun _ => ?_, fun u => ?_⟩
    · have := hQ M1 o F w co
      rw [show ((i + 1 : Nat) : Int) = (i : Int) + 1 by omega] at this
      exact this
    · have k1 := h.fi F
      obtain ⟨e0, ⟨-, -, r2, -, r4, -⟩, ⟨-, -, k3, -, k5, -⟩, ⟨-, -, n3, -, n5, -⟩⟩ := id k1
      obtain ⟨j, ej⟩ : ∃ j : Nat, mI M1 (e + 5) c = ((j : Nat) : Int) := ⟨(mI M1 (e + 5) c).toNat, by have := co c (by omega); omega⟩
      have jb := co c (by omega)
      rw [ej] at jb
      have w1 := w (i * 41 + j) (by omega)
      have w2 := w (k * 41 + j) (by omega)
      obtain ⟨p1, p2⟩ := pr_b hP.2 hf ⟨w2.1, by omega⟩ ⟨w1.1, by omega⟩
      obtain ⟨t1, t2, t3⟩ := tm_b p1 hP.1
      rw [r2, r4, n3, n5, Int.toNat_natCast, ej, show ((i : Nat) : Int) * 41 + ((j : Nat) : Int) = ((i * 41 + j : Nat) : Int) by omega, show ((k : Nat) : Int) * 41 + ((j : Nat) : Int) = ((k * 41 + j : Nat) : Int) by omega, Int.toNat_natCast, Int.toNat_natCast, t1]
      refine ⟨e0, k5, ⟨by omega, by omega⟩, k3, ⟨by omega, by omega⟩, ⟨by omega, by omega⟩, p2, by omega, ⟨by omega, by omega⟩, ⟨by omega, by omega⟩, fun M64 e64 => ?_⟩
      have f64 : FI (fun x => x = e + 3) M1 M64 := by rw [e64]; exact FI.ui rfl
      rw [show ((c : Int) + 1) = ((c + 1 : Nat) : Int) by omega]
      exact ih (c + 1) M64 (by omega) (by omega) (by rw [e64]; exact mOk_UI o ⟨by omega, by omega⟩) (F.trans (f64.mono (fun _ u => Or.inl u))) (wk_ui w ⟨t2, t3⟩ e64) (fun c' hc => by rw [f64.2.2.2.2.2.2 (e + 5) (show ¬ e + 5 = e + 3 by omega)]; exact co c' hc)
/-- the rows below -/
theorem s_cb53 {k fl N : Nat} (hP : 0 < P ∧ P < 1073741824) (h : Rk M e) (hk : k < rows) (hr : rows ≤ 40) (hfl : fl ≤ 40) (eN : N = rows * 41) (hv : 0 ≤ mI M (e + 4) k ∧ mI M (e + 4) k ≤ P) : ∀ (t i : Nat) (M1 : mM), rows ≤ i + t → i ≤ rows → mOk M1 → FI (S35 e) M M1 → Wk9 M1 e P N → Co9 M1 e fl → h_Re_clearBelow_53 G d e k rows P fl i M1 (fun M' => mOk M' ∧ FI (S35 e) M M' ∧ Wk9 M' e P N) := by
  intro t
  induction t with
  | zero =>
    intro i M1 h1 h2 o F w co
    exact k_Re_clearBelow_53 o ⟨by omega, by omega⟩ ⟨by omega, by omega⟩ ⟨by omega, by omega⟩ ⟨by omega, by omega⟩ ⟨by omega, by omega⟩ ⟨fun _ => ⟨o, F, w⟩, fun u => absurd (by omega) u⟩
  | succ t ih =>
    intro i M1 h1 h2 o F w co
    refine k_Re_clearBelow_53 o ⟨by omega, by omega⟩ ⟨by omega, by omega⟩ ⟨by omega, by omega⟩ ⟨by omega, by omega⟩ ⟨by omega, by omega⟩ ⟨fun _ => ⟨o, F, w⟩, fun u => ?_⟩
    have k1 := h.fi F
    obtain ⟨e0, ⟨-, -, r2, r3, -⟩, ⟨-, -, k3, k4, -⟩, ⟨-, -, n3, n4, -⟩⟩ := id k1
    have i4 : mI M1 (e + 4) = mI M (e + 4) := F.2.2.2.2.2.2 (e + 4) (fun u => by unfold S35 at u; omega)
    have w1 := w (i * 41 + k) (by omega)
    obtain ⟨p1, p2⟩ := pr_b hP.2 ⟨w1.1, Int.le_of_lt w1.2⟩ hv ⟨Int.le_refl 0, by omega⟩
    rw [Int.zero_add] at p1 p2
    obtain ⟨t1, t2, t3⟩ := tm_b p1 hP.1
    rw [r2, r3, n3, n4, i4, show ((i : Nat) : Int) * 41 + ((k : Nat) : Int) = ((i * 41 + k : Nat) : Int) by omega, Int.toNat_natCast, Int.toNat_natCast, t1, show ((i : Int) + 1) = ((i + 1 : Nat) : Int) by omega]
    refine ⟨e0, k3, ⟨by omega, by omega⟩, fun _ => ih (i + 1) M1 (by omega) (by omega) o F w co, fun _ => ⟨k4, ⟨by omega, by omega⟩, p2, by omega, ?_⟩⟩
    exact s_cb105 (M := M1) hP k1 hk (by omega) hr hfl eN ⟨by omega, by omega⟩ (fun M' o' F' w' co' => ih (i + 1) M' (by omega) (by omega) o' (F.trans F') w' co') fl 0 M1 (by omega) (by omega) o FI.refl w co
theorem s_Re_clearBelow {k N : Nat} (hP : 0 < P ∧ P < 1073741824) (h : Rk M e) (hk : k < rows) (hr : rows ≤ 40) (eN : N = rows * 41) (hv : 0 ≤ mI M (e + 4) k ∧ mI M (e + 4) k ≤ P) (hw : Wk9 M e P N) (hO : mOk M) : Cv G y_Re_clearBelow d [vr e, vi k, vi rows, vi P] M (fun M' => mOk M' ∧ FI (S35 e) M M' ∧ Wk9 M' e P N) := by
  refine k_Re_clearBelow hO ⟨by omega, by omega⟩ ⟨by omega, by omega⟩ ⟨by omega, by omega⟩ ?_
  suffices HH : ∀ (t j fl : Nat) (M1 : mM), 41 ≤ j + t → k + 1 ≤ j → j ≤ 41 → fl ≤ j - (k + 1) → mOk M1 → FI (S35 e) M M1 → Wk9 M1 e P N → Co9 M1 e fl → h_Re_clearBelow_8 G d e k rows P fl j M1 (fun M' => mOk M' ∧ FI (S35 e) M M' ∧ Wk9 M' e P N) from by
    rw [show ((k : Int) + 1) = ((k + 1 : Nat) : Int) by omega]
    exact HH 41 (k + 1) 0 M (by omega) (by omega) (by omega) (by omega) hO FI.refl hw (fun c hc => absurd hc (by omega))
  intro t
  induction t with
  | zero =>
    intro j fl M1 h1 h2 h3 h4 o F w co
    refine k_Re_clearBelow_8 o ⟨by omega, by omega⟩ ⟨by omega, by omega⟩ ⟨by omega, by omega⟩ ⟨by omega, by omega⟩ ⟨by omega, by omega⟩ ⟨fun _ => ?_, fun u => absurd (by omega) u⟩
    rw [show ((k : Int) + 1) = ((k + 1 : Nat) : Int) by omega]
    exact s_cb53 hP h hk hr (by omega) eN hv rows (k + 1) M1 (by omega) (by omega) o F w co
  | succ t ih =>
    intro j fl M1 h1 h2 h3 h4 o F w co
    refine k_Re_clearBelow_8 o ⟨by omega, by omega⟩ ⟨by omega, by omega⟩ ⟨by omega, by omega⟩ ⟨by omega, by omega⟩ ⟨by omega, by omega⟩ ⟨fun u => ?_, fun u => ?_⟩
    · rw [show ((k : Int) + 1) = ((k + 1 : Nat) : Int) by omega]
      exact s_cb53 hP h hk hr (by omega) eN hv rows (k + 1) M1 (by omega) (by omega) o F w co
    · have k1 := h.fi F
      obtain ⟨e0, ⟨-, -, r2, -, r4, -⟩, ⟨-, -, k3, -, k5, -⟩, ⟨-, -, n3, -, n5, -⟩⟩ := id k1
      rw [r2, r4, n3, n5, show ((k : Nat) : Int) * 41 + ((j : Nat) : Int) = ((k * 41 + j : Nat) : Int) by omega, Int.toNat_natCast, Int.toNat_natCast, show ((j : Int) + 1) = ((j + 1 : Nat) : Int) by omega]
      refine ⟨e0, k3, ⟨by omega, by omega⟩, fun _ => ⟨k5, by omega, by omega⟩, fun v15 e15 M16 e16 => ?_⟩
      by_cases c : mI M1 (e + 3) (k * 41 + j) = 0
      · rw [if_pos c] at e15 e16
        rw [e15, e16]
        exact ⟨o, ih (j + 1) fl M1 (by omega) (by omega) (by omega) (by omega) o F w co⟩
      · rw [if_neg c] at e15 e16
        have f16 : FI (fun x => x = e + 5) M1 M16 := by rw [e16]; exact FI.ui rfl
        have o16 : mOk M16 := by rw [e16]; exact mOk_UI o ⟨by omega, by omega⟩
        rw [e15, show ((fl : Int) + 1) = ((fl + 1 : Nat) : Int) by omega]
        refine ⟨o16, ih (j + 1) (fl + 1) M16 (by omega) (by omega) (by omega) (by omega) o16 (F.trans (f16.mono (fun _ u => Or.inr u))) (fun i hi => by rw [f16.2.2.2.2.2.2 (e + 3) (show ¬ e + 3 = e + 5 by omega)]; exact w i hi) (fun c' hc => ?_)⟩
        rw [mI_ui _ c' e16]
        by_cases c2 : c' = fl
        · rw [if_pos ⟨rfl, c2⟩]; omega
        · rw [if_neg (fun u => c2 u.2)]; exact co c' (by omega)
end NBJ
