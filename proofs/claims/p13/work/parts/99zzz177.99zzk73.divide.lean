/-! The class's natural numbers: division, the loop. -/
section NAL
variable {G : mG} {d a b q c e Y Z E Cy Cq Ce s n m w K P : Nat} {M M' M1 M2 M3 : mM} {v V A : Int}
/-- the quotient's limbs from t on -/
def qf (M : mM) (Z t P : Nat) : Int := dn (fun j => if t ≤ j then mI M Z j else 0) P
theorem qf_top : qf M Z P P = 0 := dn_z (s := 0) (by omega) (fun j _ h2 => by show (if P ≤ j then _ else _) = _; rw [if_neg (by omega)])
theorem qf_bot : qf M Z 0 P = dn (mI M Z) P := dn_cg P (fun j _ => by show (if 0 ≤ j then _ else _) = _; rw [if_pos (by omega)])
theorem qf_up {t : Nat} {x : Int} (ht : t < P) (u : M' = mUI M Z t x) : qf M' Z t P = qf M Z (t + 1) P + x * 2 ^ (30 * t) := by
  unfold qf
  have h := dn_up (f := fun j => if t + 1 ≤ j then mI M Z j else 0) (g := fun j => if t ≤ j then mI M' Z j else 0) ht (fun j _ hj => by
    show (if t ≤ j then mI M' Z j else 0) = (if t + 1 ≤ j then mI M Z j else 0)
    by_cases c : t ≤ j
    · rw [if_pos c, if_pos (by omega), mI_ui Z j u, if_neg (fun y => hj y.2)]
    · rw [if_neg c, if_neg (by omega)])
  rw [h]
  show _ + ((if t ≤ t then mI M' Z t else 0) - (if t + 1 ≤ t then mI M Z t else 0)) * _ = _
  rw [if_pos (Nat.le_refl _), if_neg (by omega), mI_ui Z t u, if_pos ⟨rfl, rfl⟩, Int.sub_zero]
/-- the value with its window at t -/
theorem dn_win {t : Nat} (h : t + n + 1 ≤ K) (z : ∀ j, t + n + 1 ≤ j → j < K → mI M Y j = 0) : dn (mI M Y) K = dn (mI M Y) t + 2 ^ (30 * t) * wn M Y t (n + 1) := by
  rw [dn_z (s := t + (n + 1)) h (fun j h1 h2 => z j h1 h2), dn_sp]
  rfl
theorem wn_s (M : mM) (Y t n : Nat) : wn M Y t (n + 1) = wn M Y t n + mI M Y (t + n) * 2 ^ (30 * n) := rfl
theorem wn_lo (M : mM) (Y t n : Nat) : wn M Y t (n + 1) = mI M Y t + 1073741824 * wn M Y (t + 1) n := by
  unfold wn
  rw [dn_lo]
  show mI M Y t + 1073741824 * dn (fun j => mI M Y (t + (1 + j))) n = mI M Y t + 1073741824 * dn (fun j => mI M Y (t + 1 + j)) n
  rw [dn_cg n (fun j _ => show mI M Y (t + (1 + j)) = mI M Y (t + 1 + j) by rw [show t + (1 + j) = t + 1 + j by omega])]
/-- what the loop leaves behind -/
def dvQ (M : mM) (a Y Cy q Z Cq : Nat) (sc V A : Int) (M' : mM) : Prop := mOk M' ∧ FI (fun x => (x = a ∨ x = Y) ∨ (x = q ∨ x = Z)) M M' ∧ ∃ sq sa R x, Nt M' q Z Cq sq ∧ Nt M' a Y Cy sa ∧ A = V * dn (mI M' Z) sq + R ∧ (0 ≤ R ∧ R < V) ∧ R = sc * dn (mI M' Y) sa + x ∧ (0 ≤ x ∧ x < sc)
theorem s_dvEnd {sc : Int} (hsc : 0 < sc ∧ sc < 1073741824) (h : Nl M a Y Cy) (h1 : mI M a 1 = ((m : Nat) : Int)) (hK : m + 1 ≤ Cy) (hq : Nl M q Z Cq) (hP : P ≤ Cq) (aq : a ≠ q) (YZ : Y ≠ Z) (o : mOk M1) (F : FI (fun x => x = Y ∨ x = Z) M M1) (L : lim M1 Y (m + 1)) (LZ : lim M1 Z P) (hn : n ≤ m) (z : ∀ j, n ≤ j → j < m + 1 → mI M1 Y j = 0) (hw : wn M1 Y 0 n < V) (hA : dn (mI M1 Y) (m + 1) + V * qf M1 Z 0 P = A) : mK M1 q = 10 ∧ Cv G y_Na_trim d [vr q, vi P] M1 (fun M67 => mOk M67 ∧ (mK M67 a = 10 ∧ Cv G y_Na_trim d [vr a, vi (mI M67 a 1)] M67 (fun M71 => mOk M71 ∧ (mK M71 a = 10 ∧ Ci G y_Na_divideSmall d [vr a, vi sc] M71 (fun x76 M75 => i32 x76 ∧ mOk M75 ∧ dvQ M a Y Cy q Z Cq sc V A M75))))) := by
  have aY : a ≠ Y := h.2.2.2.2.2.1
  have qZ : q ≠ Z := hq.2.2.2.2.2.1
  have aZ : a ≠ Z := fun u => by have h1 := h.1; have h2 := hq.2.2.1; rw [u, h2] at h1; omega
  have qY : q ≠ Y := fun u => by have h1 := hq.1; have h2 := h.2.2.1; rw [u, h2] at h1; omega
  have n1 : ∀ x, x ≠ Y → x ≠ Z → mI M1 x = mI M x := fun x u1 u2 => F.2.2.2.2.2.2 x (fun u => u.elim u1 u2)
  refine ⟨by rw [F.1]; exact hq.1, (s_Na_trim o (hq.fi F) hP LZ).mono (fun M67 k => ?_)⟩
  obtain ⟨o67, F67, -, sq, -, tq, vq⟩ := k
  have F2 := (F.mono (S' := fun x => (x = a ∨ x = Y) ∨ (x = q ∨ x = Z)) (fun _ u => u.elim (fun u => Or.inl (Or.inr u)) (fun u => Or.inr (Or.inr u)))).trans (F67.mono (fun _ u => Or.inr (Or.inl u)))
  have y67 : mI M67 Y = mI M1 Y := F67.2.2.2.2.2.2 Y (fun u => qY u.symm)
  have a67 : mI M67 a 1 = ((m : Nat) : Int) := by rw [F67.2.2.2.2.2.2 a aq, n1 a aY aZ]; exact h1
  rw [a67]
  refine ⟨o67, by rw [F2.1]; exact h.1, (s_Na_trim (n := m) o67 (h.fi F2) (by omega) (fun j hj => by rw [y67]; exact L j (by omega))).mono (fun M71 k => ?_)⟩
  obtain ⟨o71, F71, -, sa, -, ta, va⟩ := k
  have tq71 := tq.fi F71 (fun u => aq u.symm) (fun u => aZ u.symm)
  have F3 := F2.trans (F71.mono (fun _ u => Or.inl (Or.inl u)))
  refine ⟨o71, by rw [F3.1]; exact h.1, (s_Na_divideSmall hsc o71 ta).mono (fun x M75 k => ?_)⟩
  obtain ⟨hx, o75, F75, s', t', ve⟩ := k
  have qn : ¬ (q = a ∨ q = Y) := fun u => u.elim (fun u => aq u.symm) qY
  have Zn : ¬ (Z = a ∨ Z = Y) := fun u => u.elim (fun u => aZ u.symm) (fun u => YZ u.symm)
  have tq75 := tq71.fi F75 qn Zn
  have iZ : mI M75 Z = mI M67 Z := by rw [F75.2.2.2.2.2.2 Z Zn, F71.2.2.2.2.2.2 Z (fun u => aZ u.symm)]
  have z0 : mI M1 Y m = 0 := z m hn (by omega)
  have d1 : dn (mI M1 Y) (m + 1) = dn (mI M1 Y) m := by rw [dn_s, z0, Int.zero_mul, Int.add_zero]
  have d2 : dn (mI M1 Y) (m + 1) = wn M1 Y 0 n := by
    rw [dn_z (s := n) (by omega) z]
    exact dn_cg n (fun j _ => show mI M1 Y j = mI M1 Y (0 + j) by rw [show 0 + j = j by omega])
  have d3 := wn_nn (e := 0) (n := n) L (by omega)
  refine ⟨⟨by omega, by omega⟩, o75, o75, F3.trans (F75.mono (fun _ u => Or.inl u)), sq, s', dn (mI M1 Y) m, x, tq75, t', ?_, ⟨by omega, by omega⟩, ?_, hx⟩
  · rw [iZ, vq, ← d1, ← hA, qf_bot]
    omega
  · rw [← ve, va, y67]
/-- the loop -/
theorem s_dv134 {sc : Int} (hsc : 0 < sc ∧ sc < 1073741824) (h : Nl M a Y Cy) (h1 : mI M a 1 = ((m : Nat) : Int)) (hK : m + 1 ≤ Cy) (hq : Nl M q Z Cq) (hP : P ≤ Cq) (eP : P + n = m + 1) (hn : 2 ≤ n) (P0 : 0 < P) (k : Nt M e E Ce n) (aq : a ≠ q) (YZ : Y ≠ Z) (eY : e ≠ Y ∧ e ≠ Z) (EY : E ≠ Y ∧ E ≠ Z) (top : 1073741824 ≤ 2 * mI M E (n - 1)) (eV : V = dn (mI M E) n) : ∀ (t : Nat) (M1 : mM), t ≤ P → mOk M1 → FI (fun x => x = Y ∨ x = Z) M M1 → lim M1 Y (m + 1) → (∀ j, t ≤ j → j < P → 0 ≤ mI M1 Z j ∧ mI M1 Z j < 1073741824) → (∀ j, t + n ≤ j → j < m + 1 → mI M1 Y j = 0) → wn M1 Y t n < V → dn (mI M1 Y) (m + 1) + V * qf M1 Z t P = A → h_Na_divide_134 G (d + 1) a q e sc P ((t : Int) - 1) M1 (dvQ M a Y Cy q Z Cq sc V A) := by
  have aY : a ≠ Y := h.2.2.2.2.2.1
  have cb := h.2.2.2.2.1.2
  have cq := hq.2.2.2.2.1.2
  intro t
  induction t with
  | zero =>
    intro M1 ht o F L LZ z hw hA
    refine k_Na_divide_134 o ⟨by omega, by omega⟩ ⟨by omega, by omega⟩ ⟨by omega, by omega⟩ ⟨fun _ => ?_, fun y => absurd (by omega) y⟩
    exact s_dvEnd (n := n) hsc h h1 hK hq hP aq YZ o F L (fun j hj => LZ j (by omega) hj) (by omega) (fun j u1 u2 => z j (by omega) u2) hw hA
  | succ t ih =>
    intro M1 ht o F L LZ z hw hA
    have k1 : Nt M1 e E Ce n := k.fi F (fun u => u.elim eY.1 eY.2) (fun u => u.elim EY.1 EY.2)
    have iE : mI M1 E = mI M E := F.2.2.2.2.2.2 E (fun u => u.elim EY.1 EY.2)
    have hU : wn M1 Y t (n + 1) < dn (mI M1 E) n * 1073741824 := by
      rw [wn_lo, iE, ← eV]
      have := L t (by omega)
      omega
    refine k_Na_divide_134 o ⟨by omega, by omega⟩ ⟨by omega, by omega⟩ ⟨by omega, by omega⟩ ⟨fun y => absurd y (by omega), fun _ => ⟨by rw [F.1]; exact hq.1, by rw [F.1]; exact h.1, ?_⟩⟩
    rw [show ((t + 1 : Nat) : Int) - 1 = ((t : Nat) : Int) by omega]
    refine (s_Na_takeMultiple (K := m + 1) o (h.fi F) k1 hn (by omega) hK eY.1 EY.1 L (by rw [iE]; exact top) hU).mono (fun x M80 g => ?_)
    obtain ⟨o80, F80, hx, E80, z80, L80, w80, v80⟩ := g
    rw [iE, ← eV] at w80 v80
    have r1 : mR M1 q 0 = Z := by rw [F.2.2.1]; exact hq.2.1
    rw [r1, F80.1, F80.2.1, F.1, F.2.1, hq.2.2.2.1, Int.toNat_natCast]
    refine ⟨l30i hx, o80, hq.2.2.1, by omega, fun M85 e85 => ?_⟩
    have F85 : FI (fun x => x = Z) M80 M85 := by rw [e85]; exact FI.ui rfl
    have y85 : mI M85 Y = mI M80 Y := F85.2.2.2.2.2.2 Y YZ
    have iZ : mI M80 Z = mI M1 Z := F80.2.2.2.2.2.2 Z (fun u => YZ u.symm)
    have w85 : ∀ t n, wn M85 Y t n = wn M80 Y t n := fun t n => by unfold wn; rw [y85]
    have ww : dn (mI M80 Y) (m + 1) = dn (mI M1 Y) (m + 1) - 2 ^ (30 * t) * (x * V) := by
      rw [dn_win (M := M80) (t := t) (n := n) (by omega) (fun j u1 u2 => by rw [E80 j (Or.inr (by omega))]; exact z j (by omega) u2), dn_win (M := M1) (t := t) (n := n) (by omega) (fun j u1 u2 => z j (by omega) u2), wn_s M80, z80, Int.zero_mul, Int.add_zero, w80, Int.mul_sub, dn_cg t (fun j hj => E80 j (Or.inl hj))]
      omega
    rw [show ((t : Nat) : Int) + (-1) = ((t : Nat) : Int) - 1 by omega]
    refine ih M85 (by omega) (by rw [e85]; exact mOk_UI o80 (l30i hx)) ((F.trans (F80.mono (fun _ u => Or.inl u))).trans (F85.mono (fun _ u => Or.inr u))) (fun j hj => by rw [y85]; exact L80 j hj) (fun j u1 u2 => ?_) (fun j u1 u2 => ?_) (by rw [w85]; exact v80) ?_
    · rw [mI_ui Z j e85]
      by_cases c : j = t
      · rw [if_pos ⟨rfl, c⟩]; exact hx
      · rw [if_neg (fun u => c u.2), iZ]; exact LZ j (by omega) u2
    · rw [y85]
      by_cases c : j = t + n
      · rw [c]; exact z80
      · rw [E80 j (Or.inr (by omega))]; exact z j (by omega) u2
    · have q80 : qf M80 Z (t + 1) P = qf M1 Z (t + 1) P := by unfold qf; rw [iZ]
      rw [y85, ww, qf_up (M' := M85) (by omega) e85, q80, ← hA, Int.mul_add, Int.mul_comm (2 ^ (30 * t)), Int.mul_comm x V, Int.mul_assoc]
      omega
end NAL
