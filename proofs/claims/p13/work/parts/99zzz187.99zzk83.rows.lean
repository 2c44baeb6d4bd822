/-! The Scales: rows of fractions, and what weighing keeps. -/
theorem wg_A {A Q2 sh Fa Q1 P T k : Int} (hP : 0 < P) (hT : 0 < T) (hA0 : 0 ≤ A) (hA : A < k * (P * 1152921504606846976)) (h2 : 0 ≤ Q2) (h2' : Q2 ≤ T) (hs : 0 ≤ sh) (hs' : sh ≤ 1073741824) (hF : 0 ≤ Fa) (hF' : Fa ≤ T) (h1 : 0 ≤ Q1) (h1' : Q1 ≤ P * 1073741824) : A * Q2 + sh * (Fa * Q1) < (k + 1) * (P * T * 1152921504606846976) := by
  have a1 : A * Q2 ≤ A * T := Int.mul_le_mul_of_nonneg_left h2' hA0
  have a2 : A * T < k * (P * 1152921504606846976) * T := Int.mul_lt_mul_of_pos_right hA hT
  have a3 : Fa * Q1 ≤ T * Q1 := Int.mul_le_mul_of_nonneg_right hF' h1
  have a4 : T * Q1 ≤ T * (P * 1073741824) := Int.mul_le_mul_of_nonneg_left h1' (Int.le_of_lt hT)
  have a5 : sh * (Fa * Q1) ≤ 1073741824 * (Fa * Q1) := Int.mul_le_mul_of_nonneg_right hs' (Int.mul_nonneg hF h1)
  have e1 : k * (P * 1152921504606846976) * T = k * (P * T * 1152921504606846976) := by grind
  have e2 : T * (P * 1073741824) = P * T * 1073741824 := by grind
  rw [Int.add_mul, Int.one_mul, ← e1]
  omega
theorem wg_A2 {A sh Fa P T k : Int} (hP : 1 ≤ P) (hT : 1 ≤ T) (hk : 0 ≤ k) (hA : A < k * (P * 1152921504606846976)) (hs : 0 ≤ sh) (hs' : sh ≤ 1073741824) (hF : 0 ≤ Fa) (hF' : Fa ≤ T) : A + sh * Fa < (k + 1) * (P * T * 1152921504606846976) := by
  have a1 : sh * Fa ≤ 1073741824 * Fa := Int.mul_le_mul_of_nonneg_right hs' hF
  have a2 : P * 1 ≤ P * T := Int.mul_le_mul_of_nonneg_left hT (by omega)
  have a3 : 1 * T ≤ P * T := Int.mul_le_mul_of_nonneg_right hP (by omega)
  have a4 : k * (P * 1152921504606846976) ≤ k * (P * T * 1152921504606846976) := Int.mul_le_mul_of_nonneg_left (by omega) hk
  rw [Int.add_mul, Int.one_mul]
  omega
theorem wg_P {A Q2 sh Fa Q1 U V s r : Int} (h2 : 0 ≤ Q2) (h1 : 0 ≤ Q1) (hs : 0 ≤ sh) (hA : A ≤ s * U) (hF : Fa ≤ V) (eU : U = r * Q1) (eV : V = r * Q2) : A * Q2 + sh * (Fa * Q1) ≤ (s + sh) * (U * Q2) := by
  have a1 : A * Q2 ≤ s * U * Q2 := Int.mul_le_mul_of_nonneg_right hA h2
  have a2 : Fa * Q1 ≤ V * Q1 := Int.mul_le_mul_of_nonneg_right hF h1
  have a3 : sh * (Fa * Q1) ≤ sh * (V * Q1) := Int.mul_le_mul_of_nonneg_left a2 hs
  have e : V * Q1 = U * Q2 := by rw [eU, eV]; grind
  rw [e] at a3
  rw [Int.mul_assoc] at a1
  rw [Int.add_mul]
  omega
theorem wg_P2 {A sh Fa U s : Int} (hs : 0 ≤ sh) (hA : A ≤ s * U) (hF : Fa ≤ U) : A + sh * Fa ≤ (s + sh) * U := by
  have a3 : sh * Fa ≤ sh * U := Int.mul_le_mul_of_nonneg_left hF hs
  rw [Int.add_mul]
  omega
theorem wg_U {U Q2 P T : Int} (hT : 0 < T) (h0 : 0 ≤ U) (hU : U < P * 1073741824) (h2' : Q2 ≤ T) : U * Q2 < P * T * 1073741824 := by
  have a1 : U * Q2 ≤ U * T := Int.mul_le_mul_of_nonneg_left h2' h0
  have a2 : U * T < P * 1073741824 * T := Int.mul_lt_mul_of_pos_right hU hT
  have e : P * 1073741824 * T = P * T * 1073741824 := by grind
  omega
section NAV
variable {G : mG} {d b c z n m w S x y B u g a R cn bc i j mu : Nat} {M M0 M' M1 M2 M3 : mM} {L : List Nat} {W : Nat → Nat} {T T' I I' : Nat → Prop} {r r' : Prop} {sh : Int}
/-- a table of fractions: R its rows -/
def Rws (L : List Nat) (M : mM) (a R cn : Nat) : Prop := mK M a = 13 ∧ mR M a 0 = R ∧ mK M R = 35 ∧ cn ≤ mN M R ∧ (Oc L M a ∧ Oc L M R) ∧ ∀ i, i < cn → FrL L M (mR M R i)
/-- the rows' numbers are small -/
def Rsm (M : mM) (R cn S : Nat) : Prop := ∀ i, i < cn → 0 ≤ nv M (mR M R i + 3) ∧ nv M (mR M R i + 3) < 2 ^ (30 * S) ∧ nv M (mR M R i + 1) < 2 ^ (30 * S)
/-- no row is above 1 -/
def Rle (M : mM) (R cn : Nat) : Prop := ∀ i, i < cn → nv M (mR M R i + 1) ≤ nv M (mR M R i + 3) ∧ 0 < nv M (mR M R i + 3)
/-- the game's tables as far as they are read here -/
def GK9 (M : mM) (g : Nat) : Prop := mK M g = 7 ∧ (mR M g 2 = g + 2 ∧ mR M g 4 = g + 4 ∧ mR M g 6 = g + 6 ∧ mR M g 7 = g + 7 ∧ mR M g 8 = g + 8 ∧ mR M g 9 = g + 9) ∧ (∀ i, 1 ≤ i → i ≤ 9 → mK M (g + i) = 30) ∧ (mN M (g + 2) = 512 ∧ mN M (g + 4) = 513 ∧ mN M (g + 6) = 4097 ∧ mN M (g + 7) = 4098 ∧ mN M (g + 8) = 4096 ∧ mN M (g + 9) = 4096)
theorem GK.g9 (h : GK M g) : GK9 M g := by
  obtain ⟨h1, ⟨-, r2, -, r4, -, r6, r7, r8, r9, -⟩, ⟨k1, k2, k3, k4, k5, k6, k7, k8, k9, -⟩, ⟨-, n2, -, n4, -, n6, n7, n8, n9, -⟩⟩ := h
  refine ⟨h1, ⟨r2, r4, r6, r7, r8, r9⟩, fun i hi hi' => ?_, n2, n4, n6, n7, n8, n9⟩
  rcases (show i = 1 ∨ i = 2 ∨ i = 3 ∨ i = 4 ∨ i = 5 ∨ i = 6 ∨ i = 7 ∨ i = 8 ∨ i = 9 by omega) with e | e | e | e | e | e | e | e | e <;> rw [e] <;> assumption
/-- where weighing works, with the tables alone -/
def We (L : List Nat) (W : Nat → Nat) (z w g a R cn : Nat) (M : mM) : Prop := (mOk M ∧ NF L W M ∧ SK L M z ∧ FrL L M w) ∧ (GK9 M g ∧ ∀ i, i ≤ 9 → Oc L M (g + i)) ∧ Rws L M a R cn ∧ ∀ i, i < cn → Dwg z w (mR M R i)
theorem GK9.kd (h : GK9 M g) (hi : i ≤ 9) : mK M (g + i) ≠ 9 ∧ mK M (g + i) ≠ 11 := by
  by_cases e : i = 0
  · rw [e, Nat.add_zero, h.1]; decide
  · rw [h.2.2.1 i (by omega) hi]; decide
theorem Rws.kd (h : Rws L M a R cn) : (mK M a ≠ 9 ∧ mK M a ≠ 11) ∧ (mK M R ≠ 9 ∧ mK M R ≠ 11) := by
  rw [h.1, h.2.2.1]; decide
theorem We.tb (h : We L W z w g a R cn M) (k : NL L W T I r z M M') (hI : ∀ x, I x → mK M x = 11) : GK9 M' g ∧ (∀ i, i ≤ 9 → Oc L M' (g + i)) ∧ (∀ i, i ≤ 9 → mI M' (g + i) = mI M (g + i)) ∧ Rws L M' a R cn ∧ mR M' R = mR M R := by
  obtain ⟨⟨h1, h2, h3, h4⟩, ⟨h5, h6⟩, h7, h8⟩ := h
  have z9 := h3.1.1
  have ox : ∀ x, Oc L M x → mK M x ≠ 9 → mK M x ≠ 11 → mK M' x = mK M x ∧ mN M' x = mN M x ∧ mR M' x = mR M x ∧ mI M' x = mI M x := by
    intro x hx k9 k11
    obtain ⟨a1, a2, a3, a4⟩ := k.oth hx (fun e => by rw [e] at k9; exact k9 z9)
    exact ⟨a1, a2, a3, a4 (fun e => k11 (hI x e))⟩
  have og := fun i (hi : i ≤ 9) => ox (g + i) (h6 i hi) (h5.kd hi).1 (h5.kd hi).2
  obtain ⟨q1, q2, q3, q4, ⟨q5, q6⟩, q7⟩ := id h7
  obtain ⟨⟨ka1, ka2⟩, kb1, kb2⟩ := h7.kd
  have oa := ox a q5 ka1 ka2
  have oR := ox R q6 kb1 kb2
  have g0 := og 0 (by decide)
  rw [Nat.add_zero] at g0
  refine ⟨⟨by rw [g0.1]; exact h5.1, by rw [g0.2.2.1]; exact h5.2.1, fun i hi hi' => by rw [(og i hi').1]; exact h5.2.2.1 i hi hi', ?_⟩, fun i hi => k.oc h2 (h6 i hi), fun i hi => (og i hi).2.2.2, ⟨by rw [oa.1]; exact q1, by rw [oa.2.2.1]; exact q2, by rw [oR.1]; exact q3, by rw [oR.2.1]; exact q4, ⟨k.oc h2 q5, k.oc h2 q6⟩, fun i hi => by rw [oR.2.2.1]; exact k.frl h2 (q7 i hi)⟩, oR.2.2.1⟩
  rw [(og 2 (by decide)).2.1, (og 4 (by decide)).2.1, (og 6 (by decide)).2.1, (og 7 (by decide)).2.1, (og 8 (by decide)).2.1, (og 9 (by decide)).2.1]
  exact h5.2.2.2
theorem We.nl (h : We L W z w g a R cn M) (k : NL L W (Twg z w) (fun x => x = w) False z M M') : We L W z w g a R cn M' ∧ (∀ i, i ≤ 9 → mI M' (g + i) = mI M (g + i)) ∧ mR M' R = mR M R ∧ ∀ i, i < cn → nv M' (mR M R i + 1) = nv M (mR M R i + 1) ∧ nv M' (mR M R i + 3) = nv M (mR M R i + 3) := by
  obtain ⟨⟨h1, h2, h3, h4⟩, ⟨h5, h6⟩, h7, h8⟩ := id h
  obtain ⟨t1, t2, t3, t4, t5⟩ := h.tb k (fun x e => by rw [e]; exact h4.1.1)
  refine ⟨⟨⟨k.ok, k.nf, k.sk h2 h3, k.frl h2 h4⟩, ⟨t1, t2⟩, t4, fun i hi => by rw [t5]; exact h8 i hi⟩, t3, t5, fun i hi => ?_⟩
  have hf := h7.2.2.2.2.2 i hi
  have dw := (h8 i hi).2
  exact ⟨(k.num h2 hf.2.1 dw.1).2.2, (k.num h2 hf.2.2 dw.2.1).2.2⟩
theorem We.ws (h : We L W z w g a R cn M) (hi : i < cn) : Wsc L W z w (mR M R i) M := ⟨h.1.1, h.1.2.1, h.1.2.2.1, h.1.2.2.2, h.2.2.1.2.2.2.2.2 i hi⟩
/-- what weighing leaves behind -/
def wgQ (L : List Nat) (W : Nat → Nat) (z w : Nat) (R cn S : Nat) (mu : Int) (M M' : mM) : Prop := NL L W (Twg z w) (fun x => x = w) False z M M' ∧ (0 ≤ nv M' (w + 3) ∧ nv M' (w + 3) < 2 ^ (30 * (8 * S + 1))) ∧ nv M' (w + 1) < 2 ^ (30 * (8 * S + 3)) ∧ mI M' w 2 = mu ∧ (Rle M R cn → nv M' (w + 1) ≤ mu * nv M' (w + 3) ∧ 0 < nv M' (w + 3))
/-- on the way: j branches are done -/
def wgI (M0 : mM) (R cn : Nat) (w S j : Nat) (sm : Int) (M : mM) : Prop := (0 ≤ nv M (w + 3) ∧ nv M (w + 3) < 2 ^ (30 * (S * j)) * 1073741824) ∧ nv M (w + 1) < ((j : Int) + 1) * (2 ^ (30 * (S * j)) * 1152921504606846976) ∧ (Rle M0 R cn → nv M (w + 1) ≤ sm * nv M (w + 3) ∧ 0 < nv M (w + 3))
theorem wg_skip {sm : Int} (h : wgI M0 R cn w S j sm M) (hs : 0 ≤ sh) (h1 : 0 ≤ nv M (w + 1)) : wgI M0 R cn w S (j + 1) (sm + sh) M := by
  obtain ⟨⟨u0, u1⟩, a1, p⟩ := h
  have e : (2 : Int) ^ (30 * (S * (j + 1))) = 2 ^ (30 * (S * j)) * 2 ^ (30 * S) := by rw [← p30a, Nat.mul_add, Nat.mul_one]
  have t1 : (1 : Int) ≤ 2 ^ (30 * S) := p30p S
  have t2 : (1 : Int) ≤ 2 ^ (30 * (S * j)) := p30p (S * j)
  have := wg_A2 (A := nv M (w + 1)) (sh := 0) (Fa := 0) (P := 2 ^ (30 * (S * j))) (T := 2 ^ (30 * S)) (k := (j : Int) + 1) t2 t1 (by omega) a1 (by omega) (by omega) (by omega) (by omega)
  have t3 := Int.mul_le_mul_of_nonneg_left t1 (show (0 : Int) ≤ 2 ^ (30 * (S * j)) by omega)
  unfold wgI
  rw [e]
  refine ⟨⟨u0, by omega⟩, ?_, fun q => ?_⟩
  · rw [show (((j + 1 : Nat) : Int) + 1) = (j : Int) + 1 + 1 by omega]
    omega
  · obtain ⟨p1, p2⟩ := p q
    have := wg_P2 (Fa := 0) hs p1 (by omega)
    exact ⟨by omega, p2⟩
theorem wg_same {sm Fa : Int} (h : wgI M0 R cn w S j sm M) (hs : 0 ≤ sh ∧ sh < 1073741824) (e1 : nv M' (w + 1) = nv M (w + 1) + sh * Fa) (e3 : nv M' (w + 3) = nv M (w + 3)) (hF : 0 ≤ Fa ∧ Fa < 2 ^ (30 * S)) (hV : Rle M0 R cn → Fa ≤ nv M (w + 3)) : wgI M0 R cn w S (j + 1) (sm + sh) M' := by
  obtain ⟨⟨u0, u1⟩, a1, p⟩ := h
  have e : (2 : Int) ^ (30 * (S * (j + 1))) = 2 ^ (30 * (S * j)) * 2 ^ (30 * S) := by rw [← p30a, Nat.mul_add, Nat.mul_one]
  have t1 : (1 : Int) ≤ 2 ^ (30 * S) := p30p S
  have t2 : (1 : Int) ≤ 2 ^ (30 * (S * j)) := p30p (S * j)
  have := wg_A2 (A := nv M (w + 1)) (sh := sh) (Fa := Fa) (P := 2 ^ (30 * (S * j))) (T := 2 ^ (30 * S)) (k := (j : Int) + 1) t2 t1 (by omega) a1 hs.1 (by omega) hF.1 (by omega)
  have t3 := Int.mul_le_mul_of_nonneg_left t1 (show (0 : Int) ≤ 2 ^ (30 * (S * j)) by omega)
  unfold wgI
  rw [e, e1, e3]
  refine ⟨⟨u0, by omega⟩, ?_, fun q => ⟨wg_P2 hs.1 (p q).1 (hV q), (p q).2⟩⟩
  rw [show (((j + 1 : Nat) : Int) + 1) = (j : Int) + 1 + 1 by omega]
  exact this
theorem wg_diff {sm Fa V Q1 Q2 r : Int} (h : wgI M0 R cn w S j sm M) (hA0 : 0 ≤ nv M (w + 1)) (hs : 0 ≤ sh ∧ sh < 1073741824) (e1 : nv M' (w + 1) = nv M (w + 1) * Q2 + sh * (Fa * Q1)) (e3 : nv M' (w + 3) = nv M (w + 3) * Q2) (eU : nv M (w + 3) = r * Q1) (eV : V = r * Q2) (hr : 0 < r) (hV : 0 ≤ V ∧ V < 2 ^ (30 * S)) (h1 : 0 ≤ Q1) (h2 : 0 ≤ Q2) (hF : 0 ≤ Fa ∧ Fa < 2 ^ (30 * S)) (hle : Rle M0 R cn → Fa ≤ V ∧ 0 < V) : wgI M0 R cn w S (j + 1) (sm + sh) M' := by
  obtain ⟨⟨u0, u1⟩, a1, p⟩ := h
  have e : (2 : Int) ^ (30 * (S * (j + 1))) = 2 ^ (30 * (S * j)) * 2 ^ (30 * S) := by rw [← p30a, Nat.mul_add, Nat.mul_one]
  have t1 : (0 : Int) < 2 ^ (30 * S) := p30p S
  have t2 : (0 : Int) < 2 ^ (30 * (S * j)) := p30p (S * j)
  have q2 : Q2 ≤ V := by rw [eV]; have := Int.mul_le_mul_of_nonneg_right (show 1 ≤ r by omega) h2; omega
  have q1 : Q1 ≤ nv M (w + 3) := by rw [eU]; have := Int.mul_le_mul_of_nonneg_right (show 1 ≤ r by omega) h1; omega
  have q20 : 0 < V → 0 < Q2 := fun vp => Classical.byContradiction (fun u => by
    have : Q2 = 0 := by omega
    rw [this, Int.mul_zero] at eV
    omega)
  have w1 := wg_A (A := nv M (w + 1)) (Q2 := Q2) (sh := sh) (Fa := Fa) (Q1 := Q1) (P := 2 ^ (30 * (S * j))) (T := 2 ^ (30 * S)) (k := (j : Int) + 1) t2 t1 hA0 a1 h2 (by omega) hs.1 (by omega) hF.1 (by omega) h1 (by omega)
  have w3 := wg_U (Q2 := Q2) t1 u0 u1 (by omega)
  unfold wgI
  rw [e, e1, e3]
  refine ⟨⟨Int.mul_nonneg u0 h2, w3⟩, ?_, fun q => ⟨wg_P h2 h1 hs.1 (p q).1 (hle q).1 eU eV, Int.mul_pos (p q).2 (q20 (hle q).2)⟩⟩
  rw [show (((j + 1 : Nat) : Int) + 1) = (j : Int) + 1 + 1 by omega]
  exact w1
end NAV
