section
/-! The Scales: a command is weighed. -/
section NAU
variable {G : mG} {d a b c z n m w f S x B u : Nat} {M M' M1 M2 M3 : mM} {L : List Nat} {W : Nat → Nat} {T T' I I' : Nat → Prop} {r r' : Prop} {sh : Int}
/-- the numbers that weighing changes -/
def Twg (z w x : Nat) : Prop := T4 z x ∨ x = z + 11 ∨ x = z + 14 ∨ x = z + 16 ∨ x = w + 1 ∨ x = w + 3
/-- all is in its place -/
def Wsc (L : List Nat) (W : Nat → Nat) (z w f : Nat) (M : mM) : Prop := mOk M ∧ NF L W M ∧ SK L M z ∧ FrL L M w ∧ FrL L M f
/-- the worth is not the Scales' own scratch, a row is neither -/
def Dwg (z w f : Nat) : Prop := (¬ T4 z (w + 1) ∧ ¬ T4 z (w + 3) ∧ w + 1 ≠ z + 11 ∧ w + 1 ≠ z + 14 ∧ w + 1 ≠ z + 16 ∧ w + 3 ≠ z + 11 ∧ w + 3 ≠ z + 14 ∧ w + 3 ≠ z + 16) ∧ (¬ Twg z w (f + 1) ∧ ¬ Twg z w (f + 3) ∧ f ≠ w)
theorem Wsc.tw (h : Wsc L W z w f M) : ∀ t, Twg z w t → t ∈ L := by
  intro t ht
  obtain ⟨-, -, hS, hw, -⟩ := h
  have k := hS.2.2.2.2.2.1
  rcases ht with u | u | u | u | u | u
  · exact hS.t4 t u
  · rw [u]; exact k.2.2.2.2.2.1
  · rw [u]; exact k.2.2.2.2.2.2.1
  · rw [u]; exact k.2.2.2.2.2.2.2
  · rw [u]; exact hw.2.1
  · rw [u]; exact hw.2.2
theorem Wsc.iw (h : Wsc L W z w f M) : ∀ x, (fun x => x = w) x → x < mZ M ∧ mK M x = 11 := fun x u => by
  rw [u]
  exact ⟨h.2.2.2.1.1.2.2, h.2.2.2.1.1.1⟩
theorem Wsc.nl (h : Wsc L W z w f M) (k : NL L W (Twg z w) (fun _ => False) False z M M') : Wsc L W z w f M' := by
  obtain ⟨h1, h2, h3, h4, h5⟩ := h
  exact ⟨k.ok, k.nf, k.sk h2 h3, k.frl h2 h4, k.frl h2 h5⟩
theorem Wsc.st (h : Wsc L W z w f M) (ha : Twg z w a) (c : NC L W (fun x => x = a) M M') : NL L W (Twg z w) (fun _ => False) False z M M' ∧ Wsc L W z w f M' := by
  have n : NL L W (Twg z w) (fun _ => False) False z M M' := (c.nl (I := fun _ => False) (r := False) noI h.2.2.1.z9).mono h.2.1 (fun t ht => by rw [ht]; exact ha) h.tw (fun _ u => u) noI (fun u => u)
  exact ⟨n, h.nl n⟩
theorem Wsc.st3 (h : Wsc L W z w f M) (ha : Twg z w a ∧ Twg z w b ∧ Twg z w c) (k : NC L W (fun x => x = a ∨ x = b ∨ x = c) M M') : NL L W (Twg z w) (fun _ => False) False z M M' ∧ Wsc L W z w f M' := by
  have n : NL L W (Twg z w) (fun _ => False) False z M M' := (k.nl (I := fun _ => False) (r := False) noI h.2.2.1.z9).mono h.2.1 (fun t ht => by
    rcases ht with u | u | u
    · rw [u]; exact ha.1
    · rw [u]; exact ha.2.1
    · rw [u]; exact ha.2.2) h.tw (fun _ u => u) noI (fun u => u)
  exact ⟨n, h.nl n⟩
/-- references and kinds -/
theorem Wsc.pl (h : Wsc L W z w f M) : (mK M z = 9 ∧ mK M w = 11 ∧ mK M f = 11) ∧ (mR M z 2 = z + 5 ∧ mR M z 3 = z + 7 ∧ mR M z 5 = z + 11 ∧ mR M z 7 = z + 14 ∧ mR M z 8 = z + 16) ∧ (mR M w 0 = w + 1 ∧ mR M w 1 = w + 3) ∧ (mR M f 0 = f + 1 ∧ mR M f 1 = f + 3) ∧ (z + 5 ∈ L ∧ z + 7 ∈ L ∧ z + 11 ∈ L ∧ z + 14 ∈ L ∧ z + 16 ∈ L ∧ w + 1 ∈ L ∧ w + 3 ∈ L ∧ f + 1 ∈ L ∧ f + 3 ∈ L) := by
  obtain ⟨-, -, ⟨k1, ⟨-, -, k2, k3, -, k5, -, k7, k8⟩, -, -, -, ⟨-, -, p1, p2, -, p3, p4, p5⟩, -⟩, ⟨⟨q1, q2, -⟩, q3, q4⟩, ⟨⟨r1, r2, -⟩, r3, r4⟩⟩ := h
  exact ⟨⟨k1.1, q1, r1⟩, ⟨k2, k3, k5, k7, k8⟩, q2, r2, p1, p2, p3, p4, p5, q3, q4, r3, r4⟩
theorem dv_ex {U r Q e : Int} (hr : 0 < r) (hd : r ∣ U) (h : U = r * Q + e) (he : 0 ≤ e ∧ e < r) : U = r * Q := by
  have h1 : r ∣ e := by
    have := Int.dvd_sub hd (Int.dvd_mul_right r Q)
    rw [show U - r * Q = e by omega] at this
    exact this
  have h2 : e = 0 := Classical.byContradiction (fun u => by
    have := Int.le_of_dvd (by omega) h1
    omega)
  omega
theorem qb {U r Q : Int} {u : Nat} (hr : 0 < r) (hQ : 0 ≤ Q) (h : U = r * Q) (hU : U < 2 ^ (30 * u)) : Q < 2 ^ (30 * u) := by
  have := Int.mul_le_mul_of_nonneg_right (show 1 ≤ r by omega) hQ
  omega
theorem pb {x y : Int} {p q : Nat} (hx : 0 ≤ x ∧ x < 2 ^ (30 * p)) (hy : 0 ≤ y ∧ y < 2 ^ (30 * q)) : x * y < 2 ^ (30 * (p + q)) := by
  have h1 : x * y ≤ 2 ^ (30 * p) * y := Int.mul_le_mul_of_nonneg_right (by omega) hy.1
  have h2 : (2 : Int) ^ (30 * p) * y < 2 ^ (30 * p) * 2 ^ (30 * q) := Int.mul_lt_mul_of_pos_left hy.2 (p30p p)
  rw [p30a]
  omega
theorem nez {z i j : Nat} (h : i ≠ j) : z + i ≠ z + j := by omega
theorem Dwg.nx (h : Dwg z w f) : (¬ (w + 1 = z + 14 ∨ w + 1 = z + 5 ∨ w + 1 = z + 7) ∧ ¬ (w + 1 = z + 16 ∨ w + 1 = z + 5 ∨ w + 1 = z + 7)) ∧ (¬ (w + 3 = z + 14 ∨ w + 3 = z + 5 ∨ w + 3 = z + 7) ∧ ¬ (w + 3 = z + 16 ∨ w + 3 = z + 5 ∨ w + 3 = z + 7)) ∧ (¬ (z + 14 = z + 16 ∨ z + 14 = z + 5 ∨ z + 14 = z + 7)) := by
  obtain ⟨⟨h1, h2, -, h4, h5, -, h7, h8⟩, -⟩ := h
  unfold T4 at h1 h2
  exact ⟨⟨by omega, by omega⟩, ⟨by omega, by omega⟩, by omega⟩
theorem r_n {r : Nat} (er : r = z + 1 ∨ r = z + 3) : (r ≠ z + 5 ∧ r ≠ z + 7 ∧ r ≠ z + 14 ∧ r ≠ z + 16) ∧ ¬ (r = z + 14 ∨ r = z + 5 ∨ r = z + 7) ∧ ¬ (r = z + 16 ∨ r = z + 5 ∨ r = z + 7) := by rcases er with e | e <;> subst e <;> omega
/-- room -/
theorem wg_in (hW : ∀ x, Twg z w x → B ≤ W x) (b1 : a + S + 3 ≤ B) (b2 : u + S + 3 ≤ B) (hB : B ≤ 16000) : (u + S ≤ 16000 ∧ W4 W z (u + S)) ∧ (u ≤ W (z + 14) ∧ u + 2 ≤ W (z + 14) ∧ u + 1 ≤ W (z + 5) ∧ u + 1 ≤ W (z + 7)) ∧ (S ≤ W (z + 16) ∧ S + 2 ≤ W (z + 16) ∧ S + 1 ≤ W (z + 5)) ∧ (a + S ≤ W (z + 11) ∧ a + S ≤ W (w + 1) ∧ S + u ≤ W (z + 11) ∧ a + S + 1 ≤ W (w + 1) ∧ S + u + 1 ≤ W (w + 1) ∧ u + S ≤ W (z + 11) ∧ u + S ≤ W (w + 3)) := by
  have W5 := hW (z + 5) (Or.inl (Or.inr (Or.inr (Or.inl rfl))))
  have W7 := hW (z + 7) (Or.inl (Or.inr (Or.inr (Or.inr rfl))))
  have W11 := hW (z + 11) (Or.inr (Or.inl rfl))
  have W14 := hW (z + 14) (Or.inr (Or.inr (Or.inl rfl)))
  have W16 := hW (z + 16) (Or.inr (Or.inr (Or.inr (Or.inl rfl))))
  have Ww1 := hW (w + 1) (Or.inr (Or.inr (Or.inr (Or.inr (Or.inl rfl)))))
  have Ww3 := hW (w + 3) (Or.inr (Or.inr (Or.inr (Or.inr (Or.inr rfl)))))
  have W1 := hW (z + 1) (Or.inl (Or.inl rfl))
  have W3 := hW (z + 3) (Or.inl (Or.inr (Or.inl rfl)))
  unfold W4
  omega
/-- the sum and the product, at the end -/
theorem s_wgD {Q : mM → Prop} {Q1 Q2 A U : Int} (h : Wsc L W z w f M) (dw : Dwg z w f) (hsh : 0 ≤ sh ∧ sh < 1073741824) (hA : A * Q2 < 2 ^ (30 * (a + S))) (U0 : 0 ≤ U) (hU : U < 2 ^ (30 * u)) (X0 : 0 ≤ nv M (f + 1)) (hFa : nv M (f + 1) < 2 ^ (30 * S)) (Q1n : 0 ≤ Q1) (Q1b : Q1 < 2 ^ (30 * u)) (Q2n : 0 ≤ Q2) (Q2b : Q2 < 2 ^ (30 * S)) (A9 : nv M (w + 1) = A * Q2) (U9 : nv M (w + 3) = U) (P9 : nv M (z + 14) = Q1) (Q9 : nv M (z + 16) = Q2) (hW : ∀ x, Twg z w x → B ≤ W x) (b1 : a + S + 3 ≤ B) (b2 : u + S + 3 ≤ B) (hB : B ≤ 16000)
    (hQ : ∀ M', NL L W (Twg z w) (fun _ => False) False z M M' → nv M' (w + 1) = A * Q2 + sh * (nv M (f + 1) * Q1) → nv M' (w + 3) = U * Q2 → Q M') : mK M z = 9 ∧ mK M f = 11 ∧ mK M (mR M z 5) = 10 ∧ Cv G y_Na_putProduct (d + 4) [vr (mR M z 5), vr (mR M f 0), vr (mR M z 7)] M (fun M103 => mOk M103 ∧ (mK M103 w = 11 ∧ mK M103 z = 9 ∧ mK M103 (mR M103 w 0) = 10 ∧ Cv G y_Na_add (d + 4) [vr (mR M103 w 0), vr (mR M103 z 5), vi sh] M103 (fun M109 => mOk M109 ∧ (mK M109 z = 9 ∧ mK M109 w = 11 ∧ mK M109 (mR M109 z 5) = 10 ∧ Cv G y_Na_putProduct (d + 4) [vr (mR M109 z 5), vr (mR M109 w 1), vr (mR M109 z 8)] M109 (fun M115 => mOk M115 ∧ (mK M115 w = 11 ∧ mK M115 z = 9 ∧ mK M115 (mR M115 w 1) = 10 ∧ Cv G y_Na_put1 (d + 4) [vr (mR M115 w 1), vr (mR M115 z 5)] M115 (fun M121 => mOk M121 ∧ (Q M121)))))))) := by
  obtain ⟨⟨d1, d2, d3, d4, d5, d6, d7, d8⟩, d9, d10, d11⟩ := id dw
  obtain ⟨hO, hF, hS, hw, hf⟩ := id h
  obtain ⟨⟨k1, k2, k3⟩, ⟨r2, r3, r5, r7, r8⟩, ⟨w0, w1⟩, ⟨f0, f1⟩, m5, m7, m11, m14, m16, mw1, mw3, mf1, mf3⟩ := h.pl
  have t5 : Twg z w (z + 5) := Or.inl (Or.inr (Or.inr (Or.inl rfl)))
  have t7 : Twg z w (z + 7) := Or.inl (Or.inr (Or.inr (Or.inr rfl)))
  have t11 : Twg z w (z + 11) := Or.inr (Or.inl rfl)
  have t14 : Twg z w (z + 14) := Or.inr (Or.inr (Or.inl rfl))
  have t16 : Twg z w (z + 16) := Or.inr (Or.inr (Or.inr (Or.inl rfl)))
  have tw1 : Twg z w (w + 1) := Or.inr (Or.inr (Or.inr (Or.inr (Or.inl rfl))))
  have tw3 : Twg z w (w + 3) := Or.inr (Or.inr (Or.inr (Or.inr (Or.inr rfl))))
  have nf1 : ∀ x, Twg z w x → f + 1 ≠ x := fun x hx e => d9 (by rw [e]; exact hx)
  have nf3 : ∀ x, Twg z w x → f + 3 ≠ x := fun x hx e => d10 (by rw [e]; exact hx)
  obtain ⟨⟨i16, i4⟩, ⟨i14, i142, i5, i7⟩, ⟨j16, j162, j5⟩, ⟨i11, iw1, j11, iw11, jw11, l11, iw3⟩⟩ := wg_in (a := a) hW b1 b2 hB
  obtain ⟨⟨x1, x2⟩, ⟨x3, x4⟩, x5⟩ := dw.nx
  clear hW b1 b2 hB
  have sfa := hF.szv mf1 hFa
  have s149 : sz M (z + 14) ≤ u := hF.szv m14 (by rw [P9]; exact Q1b)
  have w13 : w + 3 ≠ w + 1 := nez (by decide)
  rw [r5, f0, r7]
  refine ⟨k1, k3, hF.kd m11, (f_putProduct (d := d + 1) hO hF m11 mf1 m14 (fun e => nf1 _ t11 e.symm) (nez (by decide)) (Nat.le_trans (Nat.add_le_add sfa s149) j11)).mono (fun M103 g => ?_)⟩
  obtain ⟨c10, v10⟩ := g
  obtain ⟨N10, H10⟩ := h.st t11 c10
  have F10 := H10.2.1
  obtain ⟨⟨k1, k2, k3⟩, ⟨r2, r3, r5, r7, r8⟩, ⟨w0, w1⟩, ⟨f0, f1⟩, -⟩ := H10.pl
  rw [P9] at v10
  have A10 := (c10.v hF mw1 d3).trans A9
  have Q10 := (c10.v hF m16 (nez (by decide))).trans Q9
  have U10 := (c10.v hF mw3 d6).trans U9
  have b10 := pb (x := nv M (f + 1)) (y := Q1) ⟨X0, hFa⟩ ⟨Q1n, Q1b⟩
  have s11' : sz M103 (z + 11) ≤ S + u := F10.szv m11 (by rw [v10]; exact b10)
  have sA10 : sz M103 (w + 1) ≤ a + S := F10.szv mw1 (by rw [A10]; exact hA)
  rw [w0, r5]
  refine ⟨H10.1, k2, k1, F10.kd mw1, (f_add (d := d + 1) hsh H10.1 F10 mw1 m11 d3 (Nat.le_trans (Nat.add_le_add_right sA10 1) iw11) (Nat.le_trans (Nat.add_le_add_right s11' 1) jw11)).mono (fun M109 g => ?_)⟩
  obtain ⟨c11, v11⟩ := g
  obtain ⟨n11, H11⟩ := H10.st tw1 c11
  have N11 := N10.trans n11
  have F11 := H11.2.1
  obtain ⟨⟨k1, k2, k3⟩, ⟨r2, r3, r5, r7, r8⟩, ⟨w0, w1⟩, ⟨f0, f1⟩, -⟩ := H11.pl
  rw [A10, v10] at v11
  have Q11 := (c11.v F10 m16 (fun e => d5 e.symm)).trans Q10
  have U11 := (c11.v F10 mw3 w13).trans U10
  have sU11 : sz M109 (w + 3) ≤ u := F11.szv mw3 (by rw [U11]; exact hU)
  have s1611 : sz M109 (z + 16) ≤ S := F11.szv m16 (by rw [Q11]; exact Q2b)
  rw [r5, w1, r8]
  refine ⟨H11.1, k1, k2, F11.kd m11, (f_putProduct (d := d + 1) H11.1 F11 m11 mw3 m16 (fun e => d6 e.symm) (nez (by decide)) (Nat.le_trans (Nat.add_le_add sU11 s1611) l11)).mono (fun M115 g => ?_)⟩
  obtain ⟨c12, v12⟩ := g
  obtain ⟨n12, H12⟩ := H11.st t11 c12
  have N12 := N11.trans n12
  have F12 := H12.2.1
  obtain ⟨⟨k1, k2, k3⟩, ⟨r2, r3, r5, r7, r8⟩, ⟨w0, w1⟩, ⟨f0, f1⟩, -⟩ := H12.pl
  rw [U11, Q11] at v12
  have A12 := (c12.v F11 mw1 d3).trans v11
  have b12 := pb (x := U) (y := Q2) ⟨U0, hU⟩ ⟨Q2n, Q2b⟩
  have s1112 : sz M115 (z + 11) ≤ u + S := F12.szv m11 (by rw [v12]; exact b12)
  rw [w1, r5]
  refine ⟨H12.1, k2, k1, F12.kd mw3, (f_put1 (d := d + 3) H12.1 F12 mw3 m11 d6 (Nat.le_trans s1112 iw3)).mono (fun M121 g => ?_)⟩
  obtain ⟨c13, v13⟩ := g
  obtain ⟨n13, H13⟩ := H12.st tw3 c13
  exact ⟨H13.1, hQ M121 (N12.trans n13) ((c13.v F12 mw1 (nez (by decide))).trans A12) (v13.trans v12)⟩
/-- the sum, from the quotients on -/
theorem s_wgC {Q : mM → Prop} {Q1 Q2 A U : Int} (h : Wsc L W z w f M) (dw : Dwg z w f) (hsh : 0 ≤ sh ∧ sh < 1073741824) (A0 : 0 ≤ A) (hA : A < 2 ^ (30 * a)) (U0 : 0 ≤ U) (hU : U < 2 ^ (30 * u)) (X0 : 0 ≤ nv M (f + 1)) (hFa : nv M (f + 1) < 2 ^ (30 * S)) (Q1n : 0 ≤ Q1) (Q1b : Q1 < 2 ^ (30 * u)) (Q2n : 0 ≤ Q2) (Q2b : Q2 < 2 ^ (30 * S)) (A7 : nv M (w + 1) = A) (U7 : nv M (w + 3) = U) (P7 : nv M (z + 14) = Q1) (v7 : nv M (z + 16) = Q2) (hW : ∀ x, Twg z w x → B ≤ W x) (b1 : a + S + 3 ≤ B) (b2 : u + S + 3 ≤ B) (hB : B ≤ 16000)
    (hQ : ∀ M', NL L W (Twg z w) (fun _ => False) False z M M' → nv M' (w + 1) = A * Q2 + sh * (nv M (f + 1) * Q1) → nv M' (w + 3) = U * Q2 → Q M') : mK M z = 9 ∧ mK M w = 11 ∧ mK M (mR M z 5) = 10 ∧ Cv G y_Na_putProduct (d + 4) [vr (mR M z 5), vr (mR M w 0), vr (mR M z 8)] M (fun M91 => mOk M91 ∧ (mK M91 w = 11 ∧ mK M91 z = 9 ∧ mK M91 (mR M91 w 0) = 10 ∧ Cv G y_Na_put1 (d + 4) [vr (mR M91 w 0), vr (mR M91 z 5)] M91 (fun M97 => mOk M97 ∧ (mK M97 z = 9 ∧ mK M97 f = 11 ∧ mK M97 (mR M97 z 5) = 10 ∧ Cv G y_Na_putProduct (d + 4) [vr (mR M97 z 5), vr (mR M97 f 0), vr (mR M97 z 7)] M97 (fun M103 => mOk M103 ∧ (mK M103 w = 11 ∧ mK M103 z = 9 ∧ mK M103 (mR M103 w 0) = 10 ∧ Cv G y_Na_add (d + 4) [vr (mR M103 w 0), vr (mR M103 z 5), vi sh] M103 (fun M109 => mOk M109 ∧ (mK M109 z = 9 ∧ mK M109 w = 11 ∧ mK M109 (mR M109 z 5) = 10 ∧ Cv G y_Na_putProduct (d + 4) [vr (mR M109 z 5), vr (mR M109 w 1), vr (mR M109 z 8)] M109 (fun M115 => mOk M115 ∧ (mK M115 w = 11 ∧ mK M115 z = 9 ∧ mK M115 (mR M115 w 1) = 10 ∧ Cv G y_Na_put1 (d + 4) [vr (mR M115 w 1), vr (mR M115 z 5)] M115 (fun M121 => mOk M121 ∧ (Q M121)))))))))))) := by
  have hW0 := hW
  obtain ⟨⟨d1, d2, d3, d4, d5, d6, d7, d8⟩, d9, d10, d11⟩ := id dw
  obtain ⟨hO, hF, hS, hw, hf⟩ := id h
  obtain ⟨⟨k1, k2, k3⟩, ⟨r2, r3, r5, r7, r8⟩, ⟨w0, w1⟩, ⟨f0, f1⟩, m5, m7, m11, m14, m16, mw1, mw3, mf1, mf3⟩ := h.pl
  have t5 : Twg z w (z + 5) := Or.inl (Or.inr (Or.inr (Or.inl rfl)))
  have t7 : Twg z w (z + 7) := Or.inl (Or.inr (Or.inr (Or.inr rfl)))
  have t11 : Twg z w (z + 11) := Or.inr (Or.inl rfl)
  have t14 : Twg z w (z + 14) := Or.inr (Or.inr (Or.inl rfl))
  have t16 : Twg z w (z + 16) := Or.inr (Or.inr (Or.inr (Or.inl rfl)))
  have tw1 : Twg z w (w + 1) := Or.inr (Or.inr (Or.inr (Or.inr (Or.inl rfl))))
  have tw3 : Twg z w (w + 3) := Or.inr (Or.inr (Or.inr (Or.inr (Or.inr rfl))))
  have nf1 : ∀ x, Twg z w x → f + 1 ≠ x := fun x hx e => d9 (by rw [e]; exact hx)
  have nf3 : ∀ x, Twg z w x → f + 3 ≠ x := fun x hx e => d10 (by rw [e]; exact hx)
  obtain ⟨⟨i16, i4⟩, ⟨i14, i142, i5, i7⟩, ⟨j16, j162, j5⟩, ⟨i11, iw1, j11, iw11, jw11, l11, iw3⟩⟩ := wg_in (a := a) hW b1 b2 hB
  obtain ⟨⟨x1, x2⟩, ⟨x3, x4⟩, x5⟩ := dw.nx
  clear hW
  have sA7 : sz M (w + 1) ≤ a := hF.szv mw1 (by rw [A7]; exact hA)
  have s167 : sz M (z + 16) ≤ S := hF.szv m16 (by rw [v7]; exact Q2b)
  rw [r5, w0, r8]
  refine ⟨k1, k2, hF.kd m11, (f_putProduct (d := d + 1) hO hF m11 mw1 m16 (fun e => d3 e.symm) (nez (by decide)) (Nat.le_trans (Nat.add_le_add sA7 s167) i11)).mono (fun M91 g => ?_)⟩
  obtain ⟨c8, v8⟩ := g
  obtain ⟨N8, H8⟩ := h.st t11 c8
  have F8 := H8.2.1
  obtain ⟨⟨k1, k2, k3⟩, ⟨r2, r3, r5, r7, r8⟩, ⟨w0, w1⟩, ⟨f0, f1⟩, -⟩ := H8.pl
  rw [A7, v7] at v8
  have P8 := (c8.v hF m14 (nez (by decide))).trans P7
  have Q8 := (c8.v hF m16 (nez (by decide))).trans v7
  have U8 := (c8.v hF mw3 d6).trans U7
  have b8 := pb (x := A) (y := Q2) ⟨A0, hA⟩ ⟨Q2n, Q2b⟩
  have s11 : sz M91 (z + 11) ≤ a + S := F8.szv m11 (by rw [v8]; exact b8)
  rw [w0, r5]
  refine ⟨H8.1, k2, k1, F8.kd mw1, (f_put1 (d := d + 3) H8.1 F8 mw1 m11 d3 (Nat.le_trans s11 iw1)).mono (fun M97 g => ?_)⟩
  obtain ⟨c9, v9⟩ := g
  obtain ⟨n9, H9⟩ := H8.st tw1 c9
  have N9 := N8.trans n9
  have X9 := (N9.num hF mf1 d9).2.2
  refine ⟨H9.1, s_wgD (d := d) (Q1 := Q1) (Q2 := Q2) (A := A) (U := U) H9 dw hsh b8 U0 hU (by rw [X9]; exact X0) (by rw [X9]; exact hFa) Q1n Q1b Q2n Q2b (v9.trans v8) ((c9.v F8 mw3 (nez (by decide))).trans U8) ((c9.v F8 m14 (fun e => d4 e.symm)).trans P8) ((c9.v F8 m16 (fun e => d5 e.symm)).trans Q8) hW0 b1 b2 hB (fun M' g1 g2 g3 => ?_)⟩
  rw [X9] at g2
  exact hQ M' (N9.trans g1) g2 g3
/-- the second quotient -/
theorem s_wgB {Q : mM → Prop} {Q1 A U V R : Int} {r : Nat} (h : Wsc L W z w f M) (dw : Dwg z w f) (hsh : 0 ≤ sh ∧ sh < 1073741824) (A0 : 0 ≤ A) (hA : A < 2 ^ (30 * a)) (U0 : 0 ≤ U) (hU : U < 2 ^ (30 * u)) (X0 : 0 ≤ nv M (f + 1)) (hFa : nv M (f + 1) < 2 ^ (30 * S)) (V4 : nv M (f + 3) = V) (hV : V < 2 ^ (30 * S)) (Q1n : 0 ≤ Q1) (Q1b : Q1 < 2 ^ (30 * u)) (A7 : nv M (w + 1) = A) (U7 : nv M (w + 3) = U) (v4 : nv M (z + 14) = Q1) (er : r = z + 1 ∨ r = z + 3) (R4 : nv M r = R) (r0 : 0 < R) (rB : R < 2 ^ (30 * (u + S))) (rd2 : R ∣ V) (hW : ∀ x, Twg z w x → B ≤ W x) (b1 : a + S + 3 ≤ B) (b2 : u + S + 3 ≤ B) (hB : B ≤ 16000)
    (hQ : ∀ M' Q2, NL L W (Twg z w) (fun _ => False) False z M M' → nv M' (w + 1) = A * Q2 + sh * (nv M (f + 1) * Q1) → nv M' (w + 3) = U * Q2 → V = R * Q2 → 0 ≤ Q2 → Q M') : mK M z = 9 ∧ mK M f = 11 ∧ mK M (mR M z 8) = 10 ∧ Cv G y_Na_put1 (d + 4) [vr (mR M z 8), vr (mR M f 1)] M (fun M75 => mOk M75 ∧ (mK M75 z = 9 ∧ mK M75 (mR M75 z 8) = 10 ∧ Cv G y_Na_divide (d + 4) [vr (mR M75 z 8), vr r, vr (mR M75 z 2), vr (mR M75 z 3)] M75 (fun M80 => mOk M80 ∧ (mK M80 z = 9 ∧ mK M80 (mR M80 z 8) = 10 ∧ Cv G y_Na_put1 (d + 4) [vr (mR M80 z 8), vr (mR M80 z 2)] M80 (fun M85 => mOk M85 ∧ (mK M85 z = 9 ∧ mK M85 w = 11 ∧ mK M85 (mR M85 z 5) = 10 ∧ Cv G y_Na_putProduct (d + 4) [vr (mR M85 z 5), vr (mR M85 w 0), vr (mR M85 z 8)] M85 (fun M91 => mOk M91 ∧ (mK M91 w = 11 ∧ mK M91 z = 9 ∧ mK M91 (mR M91 w 0) = 10 ∧ Cv G y_Na_put1 (d + 4) [vr (mR M91 w 0), vr (mR M91 z 5)] M91 (fun M97 => mOk M97 ∧ (mK M97 z = 9 ∧ mK M97 f = 11 ∧ mK M97 (mR M97 z 5) = 10 ∧ Cv G y_Na_putProduct (d + 4) [vr (mR M97 z 5), vr (mR M97 f 0), vr (mR M97 z 7)] M97 (fun M103 => mOk M103 ∧ (mK M103 w = 11 ∧ mK M103 z = 9 ∧ mK M103 (mR M103 w 0) = 10 ∧ Cv G y_Na_add (d + 4) [vr (mR M103 w 0), vr (mR M103 z 5), vi sh] M103 (fun M109 => mOk M109 ∧ (mK M109 z = 9 ∧ mK M109 w = 11 ∧ mK M109 (mR M109 z 5) = 10 ∧ Cv G y_Na_putProduct (d + 4) [vr (mR M109 z 5), vr (mR M109 w 1), vr (mR M109 z 8)] M109 (fun M115 => mOk M115 ∧ (mK M115 w = 11 ∧ mK M115 z = 9 ∧ mK M115 (mR M115 w 1) = 10 ∧ Cv G y_Na_put1 (d + 4) [vr (mR M115 w 1), vr (mR M115 z 5)] M115 (fun M121 => mOk M121 ∧ (Q M121)))))))))))))))))) := by
  have hW0 := hW
  obtain ⟨⟨d1, d2, d3, d4, d5, d6, d7, d8⟩, d9, d10, d11⟩ := id dw
  obtain ⟨hO, hF, hS, hw, hf⟩ := id h
  obtain ⟨⟨k1, k2, k3⟩, ⟨r2, r3, r5, r7, r8⟩, ⟨w0, w1⟩, ⟨f0, f1⟩, m5, m7, m11, m14, m16, mw1, mw3, mf1, mf3⟩ := h.pl
  have t5 : Twg z w (z + 5) := Or.inl (Or.inr (Or.inr (Or.inl rfl)))
  have t7 : Twg z w (z + 7) := Or.inl (Or.inr (Or.inr (Or.inr rfl)))
  have t11 : Twg z w (z + 11) := Or.inr (Or.inl rfl)
  have t14 : Twg z w (z + 14) := Or.inr (Or.inr (Or.inl rfl))
  have t16 : Twg z w (z + 16) := Or.inr (Or.inr (Or.inr (Or.inl rfl)))
  have tw1 : Twg z w (w + 1) := Or.inr (Or.inr (Or.inr (Or.inr (Or.inl rfl))))
  have tw3 : Twg z w (w + 3) := Or.inr (Or.inr (Or.inr (Or.inr (Or.inr rfl))))
  have nf1 : ∀ x, Twg z w x → f + 1 ≠ x := fun x hx e => d9 (by rw [e]; exact hx)
  have nf3 : ∀ x, Twg z w x → f + 3 ≠ x := fun x hx e => d10 (by rw [e]; exact hx)
  obtain ⟨⟨i16, i4⟩, ⟨i14, i142, i5, i7⟩, ⟨j16, j162, j5⟩, ⟨i11, iw1, j11, iw11, jw11, l11, iw3⟩⟩ := wg_in (a := a) hW b1 b2 hB
  obtain ⟨⟨x1, x2⟩, ⟨x3, x4⟩, x5⟩ := dw.nx
  clear hW
  have tr : Twg z w r := Or.inl (er.elim Or.inl (fun e => Or.inr (Or.inl e)))
  have mr : r ∈ L := h.tw r tr
  obtain ⟨⟨rn5, rn7, rn14, rn16⟩, rx, ry⟩ := r_n er
  have svf := hF.szv mf3 (show nv M (f + 3) < 2 ^ (30 * S) by rw [V4]; exact hV)
  rw [r8, f1]
  refine ⟨k1, k3, hF.kd m16, (f_put1 (d := d + 3) hO hF m16 mf3 (fun e => nf3 _ t16 e.symm) (Nat.le_trans svf j16)).mono (fun M75 g => ?_)⟩
  obtain ⟨c5, v5⟩ := g
  obtain ⟨N5, H5⟩ := h.st t16 c5
  have F5 := H5.2.1
  obtain ⟨⟨k1, k2, k3⟩, ⟨r2, r3, r5, r7, r8⟩, ⟨w0, w1⟩, ⟨f0, f1⟩, -⟩ := H5.pl
  have R5 := (c5.v hF mr rn16).trans R4
  have P5 := (c5.v hF m14 (nez (by decide))).trans v4
  rw [V4] at v5
  have s16 : sz M75 (z + 16) ≤ S := F5.szv m16 (by rw [v5]; exact hV)
  have sr5 : sz M75 r ≤ u + S := F5.szv mr (by rw [R5]; exact rB)
  rw [r8, r2, r3]
  refine ⟨H5.1, k1, F5.kd m16, (f_divide (d := d + 1) H5.1 F5 m16 mr m5 m7 (fun e => rn16 e.symm) (nez (by decide)) (nez (by decide)) rn5 rn7 (nez (by decide)) (by rw [R5]; exact r0) (Nat.le_trans (Nat.add_le_add_right s16 2) j162) (Nat.le_trans (Nat.add_le_add_right s16 1) j5) (Nat.le_trans (Nat.add_le_add_right sr5 1) (Nat.le_of_succ_le i4.2.2.2))).mono (fun M80 g => ?_)⟩
  obtain ⟨c6, v6, l6⟩ := g
  obtain ⟨n6, H6⟩ := H5.st3 ⟨t16, t5, t7⟩ c6
  have N6 := N5.trans n6
  have F6 := H6.2.1
  obtain ⟨⟨k1, k2, k3⟩, ⟨r2, r3, r5, r7, r8⟩, ⟨w0, w1⟩, ⟨f0, f1⟩, -⟩ := H6.pl
  rw [v5, R5] at v6
  rw [R5] at l6
  have Q2n := F6.nn0 m5
  have EV := dv_ex r0 rd2 v6 ⟨F6.nn0 m16, l6⟩
  have P6 := ((c6.num F5 m14 x5).2.2.2.2.1).trans P5
  have Q2b := qb r0 Q2n EV hV
  have s5 : sz M80 (z + 5) ≤ S := F6.szv m5 Q2b
  rw [r8, r2]
  refine ⟨H6.1, k1, F6.kd m16, (f_put1 (d := d + 3) H6.1 F6 m16 m5 (nez (by decide)) (Nat.le_trans s5 j16)).mono (fun M85 g => ?_)⟩
  obtain ⟨c7, v7⟩ := g
  obtain ⟨n7, H7⟩ := H6.st t16 c7
  have N7 := N6.trans n7
  have P7 := (c7.v F6 m14 (nez (by decide))).trans P6
  have A7' : nv M85 (w + 1) = A := by
    rw [c7.v F6 mw1 d5, (c6.num F5 mw1 x2).2.2.2.2.1, c5.v hF mw1 d5, A7]
  have U7' : nv M85 (w + 3) = U := by
    rw [c7.v F6 mw3 d8, (c6.num F5 mw3 x4).2.2.2.2.1, c5.v hF mw3 d8, U7]
  have X7 := (N7.num hF mf1 d9).2.2
  refine ⟨H7.1, s_wgC (d := d) (Q2 := nv M80 (z + 5)) H7 dw hsh A0 hA U0 hU (by rw [X7]; exact X0) (by rw [X7]; exact hFa) Q1n Q1b Q2n Q2b A7' U7' P7 v7 hW0 b1 b2 hB (fun M' g1 g2 g3 => ?_)⟩
  rw [X7] at g2
  exact hQ M' (nv M80 (z + 5)) (N7.trans g1) g2 g3 EV Q2n
/-- the sum over two different numbers below -/
theorem s_wgDiff {Q : mM → Prop} (h : Wsc L W z w f M) (dw : Dwg z w f) (hsh : 0 ≤ sh ∧ sh < 1073741824) (UV : 0 < nv M (w + 3) ∨ 0 < nv M (f + 3)) (hA : nv M (w + 1) < 2 ^ (30 * a)) (hU : nv M (w + 3) < 2 ^ (30 * u)) (hV : nv M (f + 3) < 2 ^ (30 * S)) (hFa : nv M (f + 1) < 2 ^ (30 * S)) (hW : ∀ x, Twg z w x → B ≤ W x) (b1 : a + S + 3 ≤ B) (b2 : u + S + 3 ≤ B) (hB : B ≤ 16000)
    (hQ : ∀ M' Q1 Q2 r, NL L W (Twg z w) (fun _ => False) False z M M' → nv M' (w + 1) = nv M (w + 1) * Q2 + sh * (nv M (f + 1) * Q1) → nv M' (w + 3) = nv M (w + 3) * Q2 → nv M (w + 3) = r * Q1 → nv M (f + 3) = r * Q2 → 0 < r → 0 ≤ Q1 → 0 ≤ Q2 → Q M') : mK M w = 11 ∧ mK M f = 11 ∧ mK M z = 9 ∧ Cr G y_Sc_commonDivisor (d + 4) [vr z, vr (mR M w 1), vr (mR M f 1)] M (fun x54 M53 => mOk M53 ∧ (mK M53 z = 9 ∧ mK M53 w = 11 ∧ mK M53 (mR M53 z 7) = 10 ∧ Cv G y_Na_put1 (d + 4) [vr (mR M53 z 7), vr (mR M53 w 1)] M53 (fun M59 => mOk M59 ∧ (mK M59 z = 9 ∧ mK M59 (mR M59 z 7) = 10 ∧ Cv G y_Na_divide (d + 4) [vr (mR M59 z 7), vr x54, vr (mR M59 z 2), vr (mR M59 z 3)] M59 (fun M64 => mOk M64 ∧ (mK M64 z = 9 ∧ mK M64 (mR M64 z 7) = 10 ∧ Cv G y_Na_put1 (d + 4) [vr (mR M64 z 7), vr (mR M64 z 2)] M64 (fun M69 => mOk M69 ∧ (mK M69 z = 9 ∧ mK M69 f = 11 ∧ mK M69 (mR M69 z 8) = 10 ∧ Cv G y_Na_put1 (d + 4) [vr (mR M69 z 8), vr (mR M69 f 1)] M69 (fun M75 => mOk M75 ∧ (mK M75 z = 9 ∧ mK M75 (mR M75 z 8) = 10 ∧ Cv G y_Na_divide (d + 4) [vr (mR M75 z 8), vr x54, vr (mR M75 z 2), vr (mR M75 z 3)] M75 (fun M80 => mOk M80 ∧ (mK M80 z = 9 ∧ mK M80 (mR M80 z 8) = 10 ∧ Cv G y_Na_put1 (d + 4) [vr (mR M80 z 8), vr (mR M80 z 2)] M80 (fun M85 => mOk M85 ∧ (mK M85 z = 9 ∧ mK M85 w = 11 ∧ mK M85 (mR M85 z 5) = 10 ∧ Cv G y_Na_putProduct (d + 4) [vr (mR M85 z 5), vr (mR M85 w 0), vr (mR M85 z 8)] M85 (fun M91 => mOk M91 ∧ (mK M91 w = 11 ∧ mK M91 z = 9 ∧ mK M91 (mR M91 w 0) = 10 ∧ Cv G y_Na_put1 (d + 4) [vr (mR M91 w 0), vr (mR M91 z 5)] M91 (fun M97 => mOk M97 ∧ (mK M97 z = 9 ∧ mK M97 f = 11 ∧ mK M97 (mR M97 z 5) = 10 ∧ Cv G y_Na_putProduct (d + 4) [vr (mR M97 z 5), vr (mR M97 f 0), vr (mR M97 z 7)] M97 (fun M103 => mOk M103 ∧ (mK M103 w = 11 ∧ mK M103 z = 9 ∧ mK M103 (mR M103 w 0) = 10 ∧ Cv G y_Na_add (d + 4) [vr (mR M103 w 0), vr (mR M103 z 5), vi sh] M103 (fun M109 => mOk M109 ∧ (mK M109 z = 9 ∧ mK M109 w = 11 ∧ mK M109 (mR M109 z 5) = 10 ∧ Cv G y_Na_putProduct (d + 4) [vr (mR M109 z 5), vr (mR M109 w 1), vr (mR M109 z 8)] M109 (fun M115 => mOk M115 ∧ (mK M115 w = 11 ∧ mK M115 z = 9 ∧ mK M115 (mR M115 w 1) = 10 ∧ Cv G y_Na_put1 (d + 4) [vr (mR M115 w 1), vr (mR M115 z 5)] M115 (fun M121 => mOk M121 ∧ (Q M121)))))))))))))))))))))))))) := by
  have hW0 := hW
  obtain ⟨⟨d1, d2, d3, d4, d5, d6, d7, d8⟩, d9, d10, d11⟩ := id dw
  obtain ⟨hO, hF, hS, hw, hf⟩ := id h
  obtain ⟨⟨k1, k2, k3⟩, ⟨r2, r3, r5, r7, r8⟩, ⟨w0, w1⟩, ⟨f0, f1⟩, m5, m7, m11, m14, m16, mw1, mw3, mf1, mf3⟩ := h.pl
  have t5 : Twg z w (z + 5) := Or.inl (Or.inr (Or.inr (Or.inl rfl)))
  have t7 : Twg z w (z + 7) := Or.inl (Or.inr (Or.inr (Or.inr rfl)))
  have t11 : Twg z w (z + 11) := Or.inr (Or.inl rfl)
  have t14 : Twg z w (z + 14) := Or.inr (Or.inr (Or.inl rfl))
  have t16 : Twg z w (z + 16) := Or.inr (Or.inr (Or.inr (Or.inl rfl)))
  have tw1 : Twg z w (w + 1) := Or.inr (Or.inr (Or.inr (Or.inr (Or.inl rfl))))
  have tw3 : Twg z w (w + 3) := Or.inr (Or.inr (Or.inr (Or.inr (Or.inr rfl))))
  have nf1 : ∀ x, Twg z w x → f + 1 ≠ x := fun x hx e => d9 (by rw [e]; exact hx)
  have nf3 : ∀ x, Twg z w x → f + 3 ≠ x := fun x hx e => d10 (by rw [e]; exact hx)
  obtain ⟨⟨i16, i4⟩, ⟨i14, i142, i5, i7⟩, ⟨j16, j162, j5⟩, ⟨i11, iw1, j11, iw11, jw11, l11, iw3⟩⟩ := wg_in (a := a) hW b1 b2 hB
  obtain ⟨⟨x1, x2⟩, ⟨x3, x4⟩, x5⟩ := dw.nx
  clear hW
  have suw := hF.szv mw3 hU
  have svf := hF.szv mf3 hV
  rw [w1, f1]
  refine ⟨k2, k3, k1, (f_common (d := d) (S := u + S) hO hF hS mw3 mf3 d2 (fun e => d10 (Or.inl e)) UV (Nat.le_trans suw (Nat.le_add_right _ _)) (Nat.le_trans svf (Nat.le_add_left _ _)) i16 i4).mono (fun r M53 g => ?_)⟩
  obtain ⟨er, N53, r0, rd1, rd2, -⟩ := g
  have N1 : NL L W (Twg z w) (fun _ => False) False z M M53 := N53.mono hF (fun t ht => Or.inl ht) h.tw (fun _ e => e) noI (fun e => e)
  have H1 := h.nl N1
  have tr : Twg z w r := Or.inl (er.elim Or.inl (fun e => Or.inr (Or.inl e)))
  have mr : r ∈ L := h.tw r tr
  obtain ⟨⟨rn5, rn7, rn14, rn16⟩, rx, ry⟩ := r_n er
  obtain ⟨⟨k1, k2, k3⟩, ⟨r2, r3, r5, r7, r8⟩, ⟨w0, w1⟩, ⟨f0, f1⟩, -⟩ := H1.pl
  have A1 := (N53.num hF mw1 d1).2.2
  have U1 := (N53.num hF mw3 d2).2
  have F1 := H1.2.1
  have rB : nv M53 r < 2 ^ (30 * (u + S)) := by
    rcases UV with q | q
    · exact Int.lt_of_le_of_lt (Int.le_of_dvd q rd1) (Int.lt_of_lt_of_le hU (p30m (Nat.le_add_right _ _)))
    · exact Int.lt_of_le_of_lt (Int.le_of_dvd q rd2) (Int.lt_of_lt_of_le hV (p30m (Nat.le_add_left _ _)))
  have sr : sz M53 r ≤ u + S := F1.szv mr rB
  have U0 := hF.nn0 mw3
  rw [r7, w1]
  refine ⟨H1.1, k1, k2, F1.kd m14, (f_put1 (d := d + 3) H1.1 F1 m14 mw3 (fun e => d7 e.symm) (by rw [U1.1]; exact Nat.le_trans suw i14)).mono (fun M59 g => ?_)⟩
  obtain ⟨c2, v2⟩ := g
  obtain ⟨n2, H2⟩ := H1.st t14 c2
  have N2 := N1.trans n2
  have F2 := H2.2.1
  obtain ⟨⟨k1, k2, k3⟩, ⟨r2, r3, r5, r7, r8⟩, ⟨w0, w1⟩, ⟨f0, f1⟩, -⟩ := H2.pl
  have R2 := c2.v F1 mr rn14
  rw [U1.2] at v2
  have s14 : sz M59 (z + 14) ≤ u := F2.szv m14 (by rw [v2]; exact hU)
  have sr2 : sz M59 r ≤ u + S := by rw [(c2.num F1 mr rn14).2.2.2.1]; exact sr
  rw [r7, r2, r3]
  refine ⟨H2.1, k1, F2.kd m14, (f_divide (d := d + 1) H2.1 F2 m14 mr m5 m7 (fun e => rn14 e.symm) (nez (by decide)) (nez (by decide)) rn5 rn7 (nez (by decide)) (by rw [R2]; exact r0) (Nat.le_trans (Nat.add_le_add_right s14 2) i142) (Nat.le_trans (Nat.add_le_add_right s14 1) i5) (Nat.le_trans (Nat.add_le_add_right sr2 1) (Nat.le_of_succ_le i4.2.2.2))).mono (fun M64 g => ?_)⟩
  obtain ⟨c3, v3, l3⟩ := g
  obtain ⟨n3, H3⟩ := H2.st3 ⟨t14, t5, t7⟩ c3
  have N3 := N2.trans n3
  have F3 := H3.2.1
  obtain ⟨⟨k1, k2, k3⟩, ⟨r2, r3, r5, r7, r8⟩, ⟨w0, w1⟩, ⟨f0, f1⟩, -⟩ := H3.pl
  rw [v2, R2] at v3
  rw [R2] at l3
  have Q1n := F3.nn0 m5
  have EU := dv_ex r0 rd1 v3 ⟨F3.nn0 m14, l3⟩
  have R3 := ((c3.num F2 mr rx).2.2.2.2.1).trans R2
  have Q1b := qb r0 Q1n EU hU
  have s5 : sz M64 (z + 5) ≤ u := F3.szv m5 Q1b
  rw [r7, r2]
  refine ⟨H3.1, k1, F3.kd m14, (f_put1 (d := d + 3) H3.1 F3 m14 m5 (nez (by decide)) (Nat.le_trans s5 i14)).mono (fun M69 g => ?_)⟩
  obtain ⟨c4, v4⟩ := g
  obtain ⟨n4, H4⟩ := H3.st t14 c4
  have N4 := N3.trans n4
  have R4 := (c4.v F3 mr rn14).trans R3
  have V4 := (N4.num hF mf3 d10).2.2
  have X4 := (N4.num hF mf1 d9).2.2
  have A4 : nv M69 (w + 1) = nv M (w + 1) := by
    rw [c4.v F3 mw1 d4, (c3.num F2 mw1 x1).2.2.2.2.1, c2.v F1 mw1 d4, A1]
  have U4 : nv M69 (w + 3) = nv M (w + 3) := by
    rw [c4.v F3 mw3 d7, (c3.num F2 mw3 x3).2.2.2.2.1, c2.v F1 mw3 d7, U1.2]
  refine ⟨H4.1, s_wgB (d := d) (Q1 := nv M64 (z + 5)) H4 dw hsh (hF.nn0 mw1) hA U0 hU (by rw [X4]; exact hF.nn0 mf1) (by rw [X4]; exact hFa) V4 hV Q1n Q1b A4 U4 v4 er R4 r0 rB rd2 hW0 b1 b2 hB (fun M' Q2 g1 g2 g3 g4 g5 => ?_)⟩
  rw [X4] at g2
  exact hQ M' (nv M64 (z + 5)) Q2 (nv M53 r) (N4.trans g1) g2 g3 EU g4 r0 Q1n g5
end NAU
end
section
/-! The Scales: rows of fractions, and what weighing keeps. -/
theorem wg_A {A Q2 sh Fa Q1 P T k : Int} (hP : 0 < P) (hT : 0 < T) (hA0 : 0 ≤ A) (hA : A < k * (P * 1152921504606846976)) (h2 : 0 ≤ Q2) (h2' : Q2 ≤ T) (hs : 0 ≤ sh) (hs' : sh ≤ 1073741824) (hF : 0 ≤ Fa) (hF' : Fa ≤ T) (h1 : 0 ≤ Q1) (h1' : Q1 ≤ P * 1073741824) : A * Q2 + sh * (Fa * Q1) < (k + 1) * (P * T * 1152921504606846976) := by
  have a1 : A * Q2 ≤ A * T := Int.mul_le_mul_of_nonneg_left h2' hA0
  have a2 : A * T < k * (P * 1152921504606846976) * T := Int.mul_lt_mul_of_pos_right hA hT
  have a3 : Fa * Q1 ≤ T * Q1 := Int.mul_le_mul_of_nonneg_right hF' h1
  have a4 : T * Q1 ≤ T * (P * 1073741824) := Int.mul_le_mul_of_nonneg_left h1' (Int.le_of_lt hT)
  have a5 : sh * (Fa * Q1) ≤ 1073741824 * (Fa * Q1) := Int.mul_le_mul_of_nonneg_right hs' (Int.mul_nonneg hF h1)
  have e1 : k * (P * 1152921504606846976) * T = k * (P * T * 1152921504606846976) := by grind
  have e2 : T * (P * 1073741824) = P * T * 1073741824 := by grind
  rw [Int.add_mul, Int.one_mul, ← e1]
  omega
theorem wg_A2 {A sh Fa P T k : Int} (hP : 1 ≤ P) (hT : 1 ≤ T) (hk : 0 ≤ k) (hA : A < k * (P * 1152921504606846976)) (hs : 0 ≤ sh) (hs' : sh ≤ 1073741824) (hF : 0 ≤ Fa) (hF' : Fa ≤ T) : A + sh * Fa < (k + 1) * (P * T * 1152921504606846976) := by
  have a1 : sh * Fa ≤ 1073741824 * Fa := Int.mul_le_mul_of_nonneg_right hs' hF
  have a2 : P * 1 ≤ P * T := Int.mul_le_mul_of_nonneg_left hT (by omega)
  have a3 : 1 * T ≤ P * T := Int.mul_le_mul_of_nonneg_right hP (by omega)
  have a4 : k * (P * 1152921504606846976) ≤ k * (P * T * 1152921504606846976) := Int.mul_le_mul_of_nonneg_left (by omega) hk
  rw [Int.add_mul, Int.one_mul]
  omega
theorem wg_P {A Q2 sh Fa Q1 U V s r : Int} (h2 : 0 ≤ Q2) (h1 : 0 ≤ Q1) (hs : 0 ≤ sh) (hA : A ≤ s * U) (hF : Fa ≤ V) (eU : U = r * Q1) (eV : V = r * Q2) : A * Q2 + sh * (Fa * Q1) ≤ (s + sh) * (U * Q2) := by
  have a1 : A * Q2 ≤ s * U * Q2 := Int.mul_le_mul_of_nonneg_right hA h2
  have a2 : Fa * Q1 ≤ V * Q1 := Int.mul_le_mul_of_nonneg_right hF h1
  have a3 : sh * (Fa * Q1) ≤ sh * (V * Q1) := Int.mul_le_mul_of_nonneg_left a2 hs
  have e : V * Q1 = U * Q2 := by rw [eU, eV]; grind
  rw [e] at a3
  rw [Int.mul_assoc] at a1
  rw [Int.add_mul]
  omega
theorem wg_P2 {A sh Fa U s : Int} (hs : 0 ≤ sh) (hA : A ≤ s * U) (hF : Fa ≤ U) : A + sh * Fa ≤ (s + sh) * U := by
  have a3 : sh * Fa ≤ sh * U := Int.mul_le_mul_of_nonneg_left hF hs
  rw [Int.add_mul]
  omega
theorem wg_U {U Q2 P T : Int} (hT : 0 < T) (h0 : 0 ≤ U) (hU : U < P * 1073741824) (h2' : Q2 ≤ T) : U * Q2 < P * T * 1073741824 := by
  have a1 : U * Q2 ≤ U * T := Int.mul_le_mul_of_nonneg_left h2' h0
  have a2 : U * T < P * 1073741824 * T := Int.mul_lt_mul_of_pos_right hU hT
  have e : P * 1073741824 * T = P * T * 1073741824 := by grind
  omega
section NAV
variable {G : mG} {d b c z n m w S x y B u g a R cn bc i j mu : Nat} {M M0 M' M1 M2 M3 : mM} {L : List Nat} {W : Nat → Nat} {T T' I I' : Nat → Prop} {r r' : Prop} {sh : Int}
/-- a table of fractions: R its rows -/
def Rws (L : List Nat) (M : mM) (a R cn : Nat) : Prop := mK M a = 13 ∧ mR M a 0 = R ∧ mK M R = 35 ∧ cn ≤ mN M R ∧ (Oc L M a ∧ Oc L M R) ∧ ∀ i, i < cn → FrL L M (mR M R i)
/-- the rows' numbers are small -/
def Rsm (M : mM) (R cn S : Nat) : Prop := ∀ i, i < cn → 0 ≤ nv M (mR M R i + 3) ∧ nv M (mR M R i + 3) < 2 ^ (30 * S) ∧ nv M (mR M R i + 1) < 2 ^ (30 * S)
/-- no row is above 1 -/
def Rle (M : mM) (R cn : Nat) : Prop := ∀ i, i < cn → nv M (mR M R i + 1) ≤ nv M (mR M R i + 3) ∧ 0 < nv M (mR M R i + 3)
/-- the game's tables as far as they are read here -/
def GK9 (M : mM) (g : Nat) : Prop := mK M g = 7 ∧ (mR M g 2 = g + 2 ∧ mR M g 4 = g + 4 ∧ mR M g 6 = g + 6 ∧ mR M g 7 = g + 7 ∧ mR M g 8 = g + 8 ∧ mR M g 9 = g + 9) ∧ (∀ i, 1 ≤ i → i ≤ 9 → mK M (g + i) = 30) ∧ (mN M (g + 2) = 512 ∧ mN M (g + 4) = 513 ∧ mN M (g + 6) = 4097 ∧ mN M (g + 7) = 4098 ∧ mN M (g + 8) = 4096 ∧ mN M (g + 9) = 4096)
theorem GK.g9 (h : GK M g) : GK9 M g := by
  obtain ⟨h1, ⟨-, r2, -, r4, -, r6, r7, r8, r9, -⟩, ⟨k1, k2, k3, k4, k5, k6, k7, k8, k9, -⟩, ⟨-, n2, -, n4, -, n6, n7, n8, n9, -⟩⟩ := h
  refine ⟨h1, ⟨r2, r4, r6, r7, r8, r9⟩, fun i hi hi' => ?_, n2, n4, n6, n7, n8, n9⟩
  rcases (show i = 1 ∨ i = 2 ∨ i = 3 ∨ i = 4 ∨ i = 5 ∨ i = 6 ∨ i = 7 ∨ i = 8 ∨ i = 9 by omega) with e | e | e | e | e | e | e | e | e <;> rw [e] <;> assumption
/-- where weighing works, with the tables alone -/
def We (L : List Nat) (W : Nat → Nat) (z w g a R cn : Nat) (M : mM) : Prop := (mOk M ∧ NF L W M ∧ SK L M z ∧ FrL L M w) ∧ (GK9 M g ∧ ∀ i, i ≤ 9 → Oc L M (g + i)) ∧ Rws L M a R cn ∧ ∀ i, i < cn → Dwg z w (mR M R i)
theorem GK9.kd (h : GK9 M g) (hi : i ≤ 9) : mK M (g + i) ≠ 9 ∧ mK M (g + i) ≠ 11 := by
  by_cases e : i = 0
  · rw [e, Nat.add_zero, h.1]; decide
  · rw [h.2.2.1 i (by omega) hi]; decide
theorem Rws.kd (h : Rws L M a R cn) : (mK M a ≠ 9 ∧ mK M a ≠ 11) ∧ (mK M R ≠ 9 ∧ mK M R ≠ 11) := by
  rw [h.1, h.2.2.1]; decide
theorem We.tb (h : We L W z w g a R cn M) (k : NL L W T I r z M M') (hI : ∀ x, I x → mK M x = 11) : GK9 M' g ∧ (∀ i, i ≤ 9 → Oc L M' (g + i)) ∧ (∀ i, i ≤ 9 → mI M' (g + i) = mI M (g + i)) ∧ Rws L M' a R cn ∧ mR M' R = mR M R := by
  obtain ⟨⟨h1, h2, h3, h4⟩, ⟨h5, h6⟩, h7, h8⟩ := h
  have z9 := h3.1.1
  have ox : ∀ x, Oc L M x → mK M x ≠ 9 → mK M x ≠ 11 → mK M' x = mK M x ∧ mN M' x = mN M x ∧ mR M' x = mR M x ∧ mI M' x = mI M x := by
    intro x hx k9 k11
    obtain ⟨a1, a2, a3, a4⟩ := k.oth hx (fun e => by rw [e] at k9; exact k9 z9)
    exact ⟨a1, a2, a3, a4 (fun e => k11 (hI x e))⟩
  have og := fun i (hi : i ≤ 9) => ox (g + i) (h6 i hi) (h5.kd hi).1 (h5.kd hi).2
  obtain ⟨q1, q2, q3, q4, ⟨q5, q6⟩, q7⟩ := id h7
  obtain ⟨⟨ka1, ka2⟩, kb1, kb2⟩ := h7.kd
  have oa := ox a q5 ka1 ka2
  have oR := ox R q6 kb1 kb2
  have g0 := og 0 (by decide)
  rw [Nat.add_zero] at g0
  refine ⟨⟨by rw [g0.1]; exact h5.1, by rw [g0.2.2.1]; exact h5.2.1, fun i hi hi' => by rw [(og i hi').1]; exact h5.2.2.1 i hi hi', ?_⟩, fun i hi => k.oc h2 (h6 i hi), fun i hi => (og i hi).2.2.2, ⟨by rw [oa.1]; exact q1, by rw [oa.2.2.1]; exact q2, by rw [oR.1]; exact q3, by rw [oR.2.1]; exact q4, ⟨k.oc h2 q5, k.oc h2 q6⟩, fun i hi => by rw [oR.2.2.1]; exact k.frl h2 (q7 i hi)⟩, oR.2.2.1⟩
  rw [(og 2 (by decide)).2.1, (og 4 (by decide)).2.1, (og 6 (by decide)).2.1, (og 7 (by decide)).2.1, (og 8 (by decide)).2.1, (og 9 (by decide)).2.1]
  exact h5.2.2.2
theorem We.nl (h : We L W z w g a R cn M) (k : NL L W (Twg z w) (fun x => x = w) False z M M') : We L W z w g a R cn M' ∧ (∀ i, i ≤ 9 → mI M' (g + i) = mI M (g + i)) ∧ mR M' R = mR M R ∧ ∀ i, i < cn → nv M' (mR M R i + 1) = nv M (mR M R i + 1) ∧ nv M' (mR M R i + 3) = nv M (mR M R i + 3) := by
  obtain ⟨⟨h1, h2, h3, h4⟩, ⟨h5, h6⟩, h7, h8⟩ := id h
  obtain ⟨t1, t2, t3, t4, t5⟩ := h.tb k (fun x e => by rw [e]; exact h4.1.1)
  refine ⟨⟨⟨k.ok, k.nf, k.sk h2 h3, k.frl h2 h4⟩, ⟨t1, t2⟩, t4, fun i hi => by rw [t5]; exact h8 i hi⟩, t3, t5, fun i hi => ?_⟩
  have hf := h7.2.2.2.2.2 i hi
  have dw := (h8 i hi).2
  exact ⟨(k.num h2 hf.2.1 dw.1).2.2, (k.num h2 hf.2.2 dw.2.1).2.2⟩
theorem We.ws (h : We L W z w g a R cn M) (hi : i < cn) : Wsc L W z w (mR M R i) M := ⟨h.1.1, h.1.2.1, h.1.2.2.1, h.1.2.2.2, h.2.2.1.2.2.2.2.2 i hi⟩
/-- what weighing leaves behind -/
def wgQ (L : List Nat) (W : Nat → Nat) (z w : Nat) (R cn S : Nat) (mu : Int) (M M' : mM) : Prop := NL L W (Twg z w) (fun x => x = w) False z M M' ∧ (0 ≤ nv M' (w + 3) ∧ nv M' (w + 3) < 2 ^ (30 * (8 * S + 1))) ∧ nv M' (w + 1) < 2 ^ (30 * (8 * S + 3)) ∧ mI M' w 2 = mu ∧ (Rle M R cn → nv M' (w + 1) ≤ mu * nv M' (w + 3) ∧ 0 < nv M' (w + 3))
/-- on the way: j branches are done -/
def wgI (M0 : mM) (R cn : Nat) (w S j : Nat) (sm : Int) (M : mM) : Prop := (0 ≤ nv M (w + 3) ∧ nv M (w + 3) < 2 ^ (30 * (S * j)) * 1073741824) ∧ nv M (w + 1) < ((j : Int) + 1) * (2 ^ (30 * (S * j)) * 1152921504606846976) ∧ (Rle M0 R cn → nv M (w + 1) ≤ sm * nv M (w + 3) ∧ 0 < nv M (w + 3))
theorem wg_skip {sm : Int} (h : wgI M0 R cn w S j sm M) (hs : 0 ≤ sh) (h1 : 0 ≤ nv M (w + 1)) : wgI M0 R cn w S (j + 1) (sm + sh) M := by
  obtain ⟨⟨u0, u1⟩, a1, p⟩ := h
  have e : (2 : Int) ^ (30 * (S * (j + 1))) = 2 ^ (30 * (S * j)) * 2 ^ (30 * S) := by rw [← p30a, Nat.mul_add, Nat.mul_one]
  have t1 : (1 : Int) ≤ 2 ^ (30 * S) := p30p S
  have t2 : (1 : Int) ≤ 2 ^ (30 * (S * j)) := p30p (S * j)
  have := wg_A2 (A := nv M (w + 1)) (sh := 0) (Fa := 0) (P := 2 ^ (30 * (S * j))) (T := 2 ^ (30 * S)) (k := (j : Int) + 1) t2 t1 (by omega) a1 (by omega) (by omega) (by omega) (by omega)
  have t3 := Int.mul_le_mul_of_nonneg_left t1 (show (0 : Int) ≤ 2 ^ (30 * (S * j)) by omega)
  unfold wgI
  rw [e]
  refine ⟨⟨u0, by omega⟩, ?_, fun q => ?_⟩
  · rw [show (((j + 1 : Nat) : Int) + 1) = (j : Int) + 1 + 1 by omega]
    omega
  · obtain ⟨p1, p2⟩ := p q
    have := wg_P2 (Fa := 0) hs p1 (by omega)
    exact ⟨by omega, p2⟩
theorem wg_same {sm Fa : Int} (h : wgI M0 R cn w S j sm M) (hs : 0 ≤ sh ∧ sh < 1073741824) (e1 : nv M' (w + 1) = nv M (w + 1) + sh * Fa) (e3 : nv M' (w + 3) = nv M (w + 3)) (hF : 0 ≤ Fa ∧ Fa < 2 ^ (30 * S)) (hV : Rle M0 R cn → Fa ≤ nv M (w + 3)) : wgI M0 R cn w S (j + 1) (sm + sh) M' := by
  obtain ⟨⟨u0, u1⟩, a1, p⟩ := h
  have e : (2 : Int) ^ (30 * (S * (j + 1))) = 2 ^ (30 * (S * j)) * 2 ^ (30 * S) := by rw [← p30a, Nat.mul_add, Nat.mul_one]
  have t1 : (1 : Int) ≤ 2 ^ (30 * S) := p30p S
  have t2 : (1 : Int) ≤ 2 ^ (30 * (S * j)) := p30p (S * j)
  have := wg_A2 (A := nv M (w + 1)) (sh := sh) (Fa := Fa) (P := 2 ^ (30 * (S * j))) (T := 2 ^ (30 * S)) (k := (j : Int) + 1) t2 t1 (by omega) a1 hs.1 (by omega) hF.1 (by omega)
  have t3 := Int.mul_le_mul_of_nonneg_left t1 (show (0 : Int) ≤ 2 ^ (30 * (S * j)) by omega)
  unfold wgI
  rw [e, e1, e3]
  refine ⟨⟨u0, by omega⟩, ?_, fun q => ⟨wg_P2 hs.1 (p q).1 (hV q), (p q).2⟩⟩
  rw [show (((j + 1 : Nat) : Int) + 1) = (j : Int) + 1 + 1 by omega]
  exact this
theorem wg_diff {sm Fa V Q1 Q2 r : Int} (h : wgI M0 R cn w S j sm M) (hA0 : 0 ≤ nv M (w + 1)) (hs : 0 ≤ sh ∧ sh < 1073741824) (e1 : nv M' (w + 1) = nv M (w + 1) * Q2 + sh * (Fa * Q1)) (e3 : nv M' (w + 3) = nv M (w + 3) * Q2) (eU : nv M (w + 3) = r * Q1) (eV : V = r * Q2) (hr : 0 < r) (hV : 0 ≤ V ∧ V < 2 ^ (30 * S)) (h1 : 0 ≤ Q1) (h2 : 0 ≤ Q2) (hF : 0 ≤ Fa ∧ Fa < 2 ^ (30 * S)) (hle : Rle M0 R cn → Fa ≤ V ∧ 0 < V) : wgI M0 R cn w S (j + 1) (sm + sh) M' := by
  obtain ⟨⟨u0, u1⟩, a1, p⟩ := h
  have e : (2 : Int) ^ (30 * (S * (j + 1))) = 2 ^ (30 * (S * j)) * 2 ^ (30 * S) := by rw [← p30a, Nat.mul_add, Nat.mul_one]
  have t1 : (0 : Int) < 2 ^ (30 * S) := p30p S
  have t2 : (0 : Int) < 2 ^ (30 * (S * j)) := p30p (S * j)
  have q2 : Q2 ≤ V := by rw [eV]; have := Int.mul_le_mul_of_nonneg_right (show 1 ≤ r by omega) h2; omega
  have q1 : Q1 ≤ nv M (w + 3) := by rw [eU]; have := Int.mul_le_mul_of_nonneg_right (show 1 ≤ r by omega) h1; omega
  have q20 : 0 < V → 0 < Q2 := fun vp => Classical.byContradiction (fun u => by
    have : Q2 = 0 := by omega
    rw [this, Int.mul_zero] at eV
    omega)
  have w1 := wg_A (A := nv M (w + 1)) (Q2 := Q2) (sh := sh) (Fa := Fa) (Q1 := Q1) (P := 2 ^ (30 * (S * j))) (T := 2 ^ (30 * S)) (k := (j : Int) + 1) t2 t1 hA0 a1 h2 (by omega) hs.1 (by omega) hF.1 (by omega) h1 (by omega)
  have w3 := wg_U (Q2 := Q2) t1 u0 u1 (by omega)
  unfold wgI
  rw [e, e1, e3]
  refine ⟨⟨Int.mul_nonneg u0 h2, w3⟩, ?_, fun q => ⟨wg_P h2 h1 hs.1 (p q).1 (hle q).1 eU eV, Int.mul_pos (p q).2 (q20 (hle q).2)⟩⟩
  rw [show (((j + 1 : Nat) : Int) + 1) = (j : Int) + 1 + 1 by omega]
  exact w1
end NAV
end
section
/-! The Scales: what weighing comes to, as a number. -/
section WVS
variable {M0 M M' : mM} {R g x y c w f n m t j cn bc : Nat} {sh : Int} {v fv' : Rat}
/-- a row's number -/
def rwv (M : mM) (R t : Nat) : Rat := (nv M (mR M R t + 1) : Rat) * (nv M (mR M R t + 3) : Rat)⁻¹
/-- shares times rows -/
def wsv (M : mM) (R g x : Nat) : Nat → Rat
  | 0 => 0
  | n + 1 => wsv M R g x n + (mI M (g + 9) (x + n) : Rat) * rwv M R (mI M (g + 8) (x + n)).toNat
/-- a fraction's number -/
def fq9 (M : mM) (f : Nat) : Rat := (nv M (f + 1) : Rat) * ((mI M f 2 * nv M (f + 3) : Int) : Rat)⁻¹
theorem wsL_snoc {f : Nat → Rat} {b : Nat × Int} : ∀ l : List (Nat × Int), wsL9 f (l ++ [b]) = wsL9 f l + (b.2 : Rat) * f b.1
  | [] => by
    show (b.2 : Rat) * f b.1 + 0 = 0 + (b.2 : Rat) * f b.1
    grind
  | a :: l => by
    have h := wsL_snoc (f := f) (b := b) l
    show (a.2 : Rat) * f a.1 + wsL9 f (l ++ [b]) = ((a.2 : Rat) * f a.1 + wsL9 f l) + (b.2 : Rat) * f b.1
    rw [h]
    grind
theorem wsL_brl : ∀ n, wsL9 (rwv M R) (brl M g x n) = wsv M R g x n
  | 0 => rfl
  | n + 1 => by
    have h := wsL_brl n
    show wsL9 (rwv M R) (brl M g x n ++ [((mI M (g + 8) (x + n)).toNat, mI M (g + 9) (x + n))]) = wsv M R g x n + (mI M (g + 9) (x + n) : Rat) * rwv M R (mI M (g + 8) (x + n)).toNat
    rw [wsL_snoc, h]
theorem cmm_ws (e1 : mI M (g + 7) c = ((x : Nat) : Int)) (e2 : mI M (g + 7) (c + 1) = ((y : Nat) : Int)) : wsL9 (rwv M R) (cmm M g c).2.2 = wsv M R g x (y - x) := by
  show wsL9 (rwv M R) (brl M g (mI M (g + 7) c).toNat ((mI M (g + 7) (c + 1)).toNat - (mI M (g + 7) c).toNat)) = wsv M R g x (y - x)
  rw [e1, e2, Int.toNat_natCast, Int.toNat_natCast]
  exact wsL_brl _
theorem brl_same (e : ∀ i, i ≤ 9 → mI M' (g + i) = mI M (g + i)) : ∀ n, brl M' g x n = brl M g x n
  | 0 => rfl
  | n + 1 => by
    have h := brl_same e n
    show brl M' g x n ++ [((mI M' (g + 8) (x + n)).toNat, mI M' (g + 9) (x + n))] = brl M g x n ++ [((mI M (g + 8) (x + n)).toNat, mI M (g + 9) (x + n))]
    rw [h, e 8 (by decide), e 9 (by decide)]
theorem cmm_same (e : ∀ i, i ≤ 9 → mI M' (g + i) = mI M (g + i)) : cmm M' g c = cmm M g c := by
  unfold cmm
  rw [e 5 (by decide), e 6 (by decide), e 7 (by decide), brl_same e]
theorem cmm_lt (h : cmdG M g cn bc c) : ∀ b, b ∈ (cmm M g c).2.2 → b.1 < cn := by
  obtain ⟨x, y, mu, c1, c2, c3, c4, c5, -⟩ := h
  intro b hb
  have bl : (cmm M g c).2.2 = (List.range (y - x)).map (fun t => ((mI M (g + 8) (x + t)).toNat, mI M (g + 9) (x + t))) := by
    unfold cmm
    rw [c1, c2, Int.toNat_natCast, Int.toNat_natCast, brl_map]
  rw [bl] at hb
  obtain ⟨t, t1, t2⟩ := List.mem_map.mp hb
  have t3 := List.mem_range.mp t1
  have t4 := c5 (x + t) (by omega) (by omega)
  rw [← t2]
  show (mI M (g + 8) (x + t)).toNat < cn
  omega
theorem rwv_mul (h : 0 < nv M (mR M R t + 3)) : (nv M (mR M R t + 1) : Rat) = rwv M R t * (nv M (mR M R t + 3) : Rat) := by
  have e := Rat.inv_mul_cancel _ (ic_ne h)
  unfold rwv
  generalize (nv M (mR M R t + 3) : Rat) = b at *
  generalize (nv M (mR M R t + 1) : Rat) = a at *
  generalize b⁻¹ = c at *
  grind
theorem rwv_cg (eR : mR M' R = mR M R) (e1 : nv M' (mR M R j + 1) = nv M (mR M R j + 1)) (e3 : nv M' (mR M R j + 3) = nv M (mR M R j + 3)) : rwv M' R j = rwv M R j := by
  unfold rwv
  rw [eR, e1, e3]
/-- a fraction crossed -/
theorem rat_cross {A V a b : Int} (hV : 0 < V) (e : a * V = A * b) : (A : Rat) * (V : Rat)⁻¹ * (b : Rat) = (a : Rat) := by
  have e1 : (a : Rat) * (V : Rat) = (A : Rat) * (b : Rat) := by rw [← Rat.intCast_mul, ← Rat.intCast_mul, e]
  have e2 := Rat.mul_inv_cancel _ (ic_ne hV)
  generalize (V : Rat)⁻¹ = i at *
  generalize (V : Rat) = V at *
  generalize (A : Rat) = A at *
  generalize (a : Rat) = a at *
  generalize (b : Rat) = b at *
  have e3 : A * i * b = a * (V * i) := by grind
  rw [e3, e2]
  grind
theorem fq_mul (h : 0 < mI M f 2 * nv M (f + 3)) : fq9 M f * ((mI M f 2 * nv M (f + 3) : Int) : Rat) = (nv M (f + 1) : Rat) := by
  unfold fq9
  exact rat_cross h rfl
/-- a worth on its way -/
def wgV (M0 : mM) (R cn w : Nat) (v : Rat) (M : mM) : Prop := Rle M0 R cn → (nv M (w + 1) : Rat) = v * (nv M (w + 3) : Rat)
theorem wv_skip {Fa V : Int} (h : wgV M0 R cn w v M) (e : Rle M0 R cn → (Fa : Rat) = fv' * (V : Rat)) (hF : Fa = 0) (hV : Rle M0 R cn → 0 < V) : wgV M0 R cn w (v + (sh : Rat) * fv') M := fun q => by
  have e1 := e q
  have e2 := Rat.mul_inv_cancel _ (ic_ne (hV q))
  have e3 : ((0 : Int) : Rat) = 0 := rfl
  rw [hF, e3] at e1
  have e4 : fv' = 0 := by
    generalize (V : Rat)⁻¹ = i at *
    generalize (V : Rat) = V at *
    have e5 : fv' * (V * i) = fv' * V * i := by grind
    rw [e2, ← e1] at e5
    grind
  rw [h q, e4]
  grind
theorem wv_same {Fa : Int} (h : wgV M0 R cn w v M) (e1 : nv M' (w + 1) = nv M (w + 1) + sh * Fa) (e3 : nv M' (w + 3) = nv M (w + 3)) (e : Rle M0 R cn → (Fa : Rat) = fv' * (nv M (w + 3) : Rat)) : wgV M0 R cn w (v + (sh : Rat) * fv') M' := fun q => by
  rw [e1, e3, Rat.intCast_add, Rat.intCast_mul, h q, e q]
  grind
theorem wv_diff {Fa V Q1 Q2 r : Int} (h : wgV M0 R cn w v M) (e1 : nv M' (w + 1) = nv M (w + 1) * Q2 + sh * (Fa * Q1)) (e3 : nv M' (w + 3) = nv M (w + 3) * Q2) (eU : nv M (w + 3) = r * Q1) (eV : V = r * Q2) (e : Rle M0 R cn → (Fa : Rat) = fv' * (V : Rat)) : wgV M0 R cn w (v + (sh : Rat) * fv') M' := fun q => by
  have h1 : (nv M' (w + 1) : Rat) = (nv M (w + 1) : Rat) * (Q2 : Rat) + (sh : Rat) * ((Fa : Rat) * (Q1 : Rat)) := by rw [e1, Rat.intCast_add, Rat.intCast_mul, Rat.intCast_mul, Rat.intCast_mul]
  have h3 : (nv M' (w + 3) : Rat) = (nv M (w + 3) : Rat) * (Q2 : Rat) := by rw [e3, Rat.intCast_mul]
  have hU : (nv M (w + 3) : Rat) = (r : Rat) * (Q1 : Rat) := by rw [eU, Rat.intCast_mul]
  have hV : (V : Rat) = (r : Rat) * (Q2 : Rat) := by rw [eV, Rat.intCast_mul]
  rw [h1, h3, h q, e q, hU, hV]
  grind
/-- a worth that was weighed, as a number -/
def BsV (M0 : mM) (R cn : Nat) (M : mM) (b : Nat) (v : Rat) : Prop := Rle M0 R cn → fq9 M b = v
theorem BsV.cg {b : Nat} (h : BsV M0 R cn M b v) (e1 : nv M' (b + 1) = nv M (b + 1)) (e3 : nv M' (b + 3) = nv M (b + 3)) (e2 : mI M' b = mI M b) : BsV M0 R cn M' b v := fun q => by
  have := h q
  unfold fq9 at this ⊢
  rw [e1, e3, e2]
  exact this
theorem wv_bs {mu : Int} (h : wgV M0 R cn w v M) (hm : 0 < mu) (tt : mI M w 2 = mu) (hU : Rle M0 R cn → 0 < nv M (w + 3)) : BsV M0 R cn M w (v * (mu : Rat)⁻¹) := fun q => by
  have e1 := Rat.mul_inv_cancel _ (ic_ne (hU q))
  have e2 := Rat.mul_inv_cancel _ (ic_ne hm)
  have e3 := Rat.mul_inv_cancel _ (ic_ne (Int.mul_pos hm (hU q)))
  unfold fq9
  rw [tt, h q]
  rw [Rat.intCast_mul] at e3 ⊢
  generalize ((mu : Rat) * (nv M (w + 3) : Rat))⁻¹ = k at *
  generalize (mu : Rat)⁻¹ = i at *
  generalize (nv M (w + 3) : Rat)⁻¹ = l at *
  generalize (nv M (w + 3) : Rat) = U at *
  generalize (mu : Rat) = m at *
  have e4 : v * U * k * (m * i) = v * i * (m * U * k) := by grind
  rw [e2, e3] at e4
  grind
/-- two numbers compared -/
def orR (p q : Rat) (x : Int) : Prop := (x = 0 ∧ p = q) ∨ (x = 1 ∧ q < p) ∨ (x = -1 ∧ p < q)
theorem orQ_mul {a b V x : Int} (hV : 0 < V) (h : orQ a b x) : orQ (a * V) (b * V) x := by
  rcases h with ⟨x0, e⟩ | ⟨x0, e⟩ | ⟨x0, e⟩
  · exact Or.inl ⟨x0, by rw [e]⟩
  · exact Or.inr (Or.inl ⟨x0, Int.mul_lt_mul_of_pos_right e hV⟩)
  · exact Or.inr (Or.inr ⟨x0, Int.mul_lt_mul_of_pos_right e hV⟩)
theorem or_rat {p q : Rat} {A B X Y x : Int} (hX : 0 < X) (hY : 0 < Y) (e1 : p * (X : Rat) = (A : Rat)) (e2 : q * (Y : Rat) = (B : Rat)) (o : orQ (A * Y) (B * X) x) : orR p q x := by
  have q1 : (0 : Rat) < (X : Rat) := Rat.intCast_pos.2 hX
  have q2 : (0 : Rat) < (Y : Rat) := Rat.intCast_pos.2 hY
  have hp := Rat.mul_pos q1 q2
  have c1 : ((A * Y : Int) : Rat) = p * ((X : Rat) * (Y : Rat)) := by rw [Rat.intCast_mul, ← e1]; grind
  have c2 : ((B * X : Int) : Rat) = q * ((X : Rat) * (Y : Rat)) := by rw [Rat.intCast_mul, ← e2]; grind
  clear e1 e2 q1 q2
  generalize (X : Rat) * (Y : Rat) = P at *
  have lt : ∀ {u w : Rat}, u * P < w * P → u < w := fun {u w} h => by
    refine Classical.byContradiction (fun n => ?_)
    have a := Rat.mul_nonneg (a := u - w) (b := P) (by grind) (Rat.le_of_lt hp)
    grind
  rcases o with ⟨x0, e⟩ | ⟨x0, e⟩ | ⟨x0, e⟩
  · refine Or.inl ⟨x0, ?_⟩
    have h' : ((A * Y : Int) : Rat) = ((B * X : Int) : Rat) := by rw [e]
    rw [c1, c2] at h'
    have i := Rat.mul_inv_cancel P (by grind)
    have e' : p * P * P⁻¹ = q * P * P⁻¹ := by rw [h']
    grind
  · refine Or.inr (Or.inl ⟨x0, lt ?_⟩)
    rw [← c1, ← c2]
    exact ic_lt.2 e
  · refine Or.inr (Or.inr ⟨x0, lt ?_⟩)
    rw [← c1, ← c2]
    exact ic_lt.2 e
end WVS
end
section
/-! The Scales: a command is weighed, the whole. -/
section NAW
variable {G : mG} {d b c z n m w S x y B u g a R cn bc i j mu : Nat} {M M0 M' M1 M2 M3 : mM} {L : List Nat} {W : Nat → Nat} {T T' I I' : Nat → Prop} {r r' : Prop} {sh : Int}
theorem wg_bits {v : Int} (h : v < 2 ^ (30 * (S * j)) * 1073741824) : v < 2 ^ (30 * (S * j + 1)) := by rw [p30]; exact h
theorem wg_bits3 {v : Int} (hj : j ≤ 8) (h : v < ((j : Int) + 1) * (2 ^ (30 * (S * j)) * 1152921504606846976)) : v < 2 ^ (30 * (S * j + 3)) := by
  rw [show S * j + 3 = S * j + 1 + 1 + 1 by omega, p30, p30, p30]
  have h1 := p30p (S * j)
  have h2 := Int.mul_le_mul_of_nonneg_right (show (j : Int) + 1 ≤ 1073741824 by omega) (show 0 ≤ 2 ^ (30 * (S * j)) * 1152921504606846976 by omega)
  omega
theorem wg_w {B S j : Nat} (hj : j < 8) (hB : 8 * S + 6 ≤ B) : S * j + 3 + S + 3 ≤ B ∧ S * j + 1 + S + 3 ≤ B := by
  have h1 : S * j + S = S * (j + 1) := by rw [Nat.mul_add, Nat.mul_one]
  have h2 : S * (j + 1) ≤ S * 8 := Nat.mul_le_mul_left _ (by omega)
  omega
theorem wg_ws {n : Nat} (h : ∀ i, x ≤ i → i < x + n → 1 ≤ mI M (g + 9) i) : 0 ≤ wsm M g x n := by
  induction n with
  | zero => exact Int.le_refl _
  | succ n ih =>
    show 0 ≤ wsm M g x n + mI M (g + 9) (x + n)
    have h1 := ih (fun i a b => h i a (by omega))
    have h2 := h (x + n) (by omega) (by omega)
    omega
/-- one branch -/
theorem s_wg_one {Q : mM → Prop} {sm : Int} {t : Nat} (hE : We L W z w g a R cn M) (hI : wgI M0 R cn w S j sm M) (hj : j < 8) (ht : t < cn) (hrs : Rsm M R cn S) (hle : Rle M0 R cn → Rle M R cn) (hW : ∀ x, Twg z w x → B ≤ W x) (b1 : 8 * S + 6 ≤ B) (hB : B ≤ 16000) (hsh : 0 ≤ sh ∧ sh < 1073741824) {v9 f9 : Rat} (hv9 : wgV M0 R cn w v9 M) (hf9 : Rle M0 R cn → (nv M (mR M R t + 1) : Rat) = f9 * (nv M (mR M R t + 3) : Rat))
    (hQ : ∀ M', NL L W (Twg z w) (fun _ => False) False z M M' → wgI M0 R cn w S (j + 1) (sm + sh) M' → wgV M0 R cn w (v9 + (sh : Rat) * f9) M' → Q M') (f : Nat) (ef : mR M R t = f) : mK M f = 11 ∧ mK M (mR M f 0) = 10 ∧ ((mI M (mR M f 0) 1 = 0) → Q M) ∧ (¬ (mI M (mR M f 0) 1 = 0) → (mK M w = 11 ∧ Ci G y_Na_order (d + 4) [vr (mR M w 1), vr (mR M f 1)] M (fun x40 M39 => i32 x40 ∧ mOk M39 ∧ (((x40 = 0) → (mK M39 w = 11 ∧ mK M39 f = 11 ∧ mK M39 (mR M39 w 0) = 10 ∧ Cv G y_Na_add (d + 4) [vr (mR M39 w 0), vr (mR M39 f 0), vi sh] M39 (fun M47 => mOk M47 ∧ Q M47))) ∧ (¬ (x40 = 0) → (mK M39 w = 11 ∧ mK M39 f = 11 ∧ mK M39 z = 9 ∧ Cr G y_Sc_commonDivisor (d + 4) [vr z, vr (mR M39 w 1), vr (mR M39 f 1)] M39 (fun x54 M53 => mOk M53 ∧ (mK M53 z = 9 ∧ mK M53 w = 11 ∧ mK M53 (mR M53 z 7) = 10 ∧ Cv G y_Na_put1 (d + 4) [vr (mR M53 z 7), vr (mR M53 w 1)] M53 (fun M59 => mOk M59 ∧ (mK M59 z = 9 ∧ mK M59 (mR M59 z 7) = 10 ∧ Cv G y_Na_divide (d + 4) [vr (mR M59 z 7), vr x54, vr (mR M59 z 2), vr (mR M59 z 3)] M59 (fun M64 => mOk M64 ∧ (mK M64 z = 9 ∧ mK M64 (mR M64 z 7) = 10 ∧ Cv G y_Na_put1 (d + 4) [vr (mR M64 z 7), vr (mR M64 z 2)] M64 (fun M69 => mOk M69 ∧ (mK M69 z = 9 ∧ mK M69 f = 11 ∧ mK M69 (mR M69 z 8) = 10 ∧ Cv G y_Na_put1 (d + 4) [vr (mR M69 z 8), vr (mR M69 f 1)] M69 (fun M75 => mOk M75 ∧ (mK M75 z = 9 ∧ mK M75 (mR M75 z 8) = 10 ∧ Cv G y_Na_divide (d + 4) [vr (mR M75 z 8), vr x54, vr (mR M75 z 2), vr (mR M75 z 3)] M75 (fun M80 => mOk M80 ∧ (mK M80 z = 9 ∧ mK M80 (mR M80 z 8) = 10 ∧ Cv G y_Na_put1 (d + 4) [vr (mR M80 z 8), vr (mR M80 z 2)] M80 (fun M85 => mOk M85 ∧ (mK M85 z = 9 ∧ mK M85 w = 11 ∧ mK M85 (mR M85 z 5) = 10 ∧ Cv G y_Na_putProduct (d + 4) [vr (mR M85 z 5), vr (mR M85 w 0), vr (mR M85 z 8)] M85 (fun M91 => mOk M91 ∧ (mK M91 w = 11 ∧ mK M91 z = 9 ∧ mK M91 (mR M91 w 0) = 10 ∧ Cv G y_Na_put1 (d + 4) [vr (mR M91 w 0), vr (mR M91 z 5)] M91 (fun M97 => mOk M97 ∧ (mK M97 z = 9 ∧ mK M97 f = 11 ∧ mK M97 (mR M97 z 5) = 10 ∧ Cv G y_Na_putProduct (d + 4) [vr (mR M97 z 5), vr (mR M97 f 0), vr (mR M97 z 7)] M97 (fun M103 => mOk M103 ∧ (mK M103 w = 11 ∧ mK M103 z = 9 ∧ mK M103 (mR M103 w 0) = 10 ∧ Cv G y_Na_add (d + 4) [vr (mR M103 w 0), vr (mR M103 z 5), vi sh] M103 (fun M109 => mOk M109 ∧ (mK M109 z = 9 ∧ mK M109 w = 11 ∧ mK M109 (mR M109 z 5) = 10 ∧ Cv G y_Na_putProduct (d + 4) [vr (mR M109 z 5), vr (mR M109 w 1), vr (mR M109 z 8)] M109 (fun M115 => mOk M115 ∧ (mK M115 w = 11 ∧ mK M115 z = 9 ∧ mK M115 (mR M115 w 1) = 10 ∧ Cv G y_Na_put1 (d + 4) [vr (mR M115 w 1), vr (mR M115 z 5)] M115 (fun M121 => mOk M121 ∧ (Q M121)))))))))))))))))))))))))))))))) := by
  have hw := hE.ws ht
  have dw := hE.2.2.2 t ht
  obtain ⟨rs1, rs2, rs3⟩ := hrs t ht
  have rle : Rle M0 R cn → nv M (f + 1) ≤ nv M (f + 3) ∧ 0 < nv M (f + 3) := fun q => by
    have := hle q t ht
    rw [ef] at this
    exact this
  rw [ef] at hw dw rs1 rs2 rs3 hf9
  obtain ⟨hO, hF, hS, hfw, hff⟩ := id hw
  obtain ⟨⟨k1, k2, k3⟩, -, ⟨w0, w1⟩, ⟨f0, f1⟩, -, -, -, -, -, mw1, mw3, mf1, mf3⟩ := hw.pl
  have A0 := hF.nn0 mw1
  have X0 := hF.nn0 mf1
  obtain ⟨bb1, bb2⟩ := wg_w hj b1
  have hA := wg_bits3 (by omega) hI.2.1
  have hU := wg_bits hI.1.2
  have nw : w + 1 ≠ f + 1 := fun e => dw.2.1 (Or.inr (Or.inr (Or.inr (Or.inr (Or.inl e.symm)))))
  rw [f0, w1, f1, (hF.nt mf1).2.1]
  refine ⟨k3, hF.kd mf1, fun y0 => hQ M (NL.refl hO hF hw.tw noI hS.z9) (wg_skip hI hsh.1 A0) (wv_skip hv9 hf9 ((hF.sz0 mf1).1 (by omega)) (fun q => (rle q).2)), fun _ => ⟨k2, (f_order hO hF mw3 mf3).mono (fun x40 M39 q => ?_)⟩⟩
  obtain ⟨e39, ox⟩ := q
  rw [e39, w0, f0]
  refine ⟨by unfold orQ at ox; exact ⟨by omega, by omega⟩, hO, fun y => ⟨k2, k3, hF.kd mw1, ?_⟩, fun y => ?_⟩
  · have eq : nv M (w + 3) = nv M (f + 3) := by
      rcases ox with u | u | u
      · exact u.2
      · exact absurd y (by rw [u.1]; decide)
      · exact absurd y (by rw [u.1]; decide)
    have sA := hF.szv mw1 hA
    have sF := hF.szv mf1 rs3
    have wW := hW (w + 1) (Or.inr (Or.inr (Or.inr (Or.inr (Or.inl rfl)))))
    refine (f_add (d := d + 1) hsh hO hF mw1 mf1 nw (by omega) (by omega)).mono (fun M47 k => ?_)
    obtain ⟨c, v⟩ := k
    obtain ⟨n1, H1⟩ := hw.st (Or.inr (Or.inr (Or.inr (Or.inr (Or.inl rfl))))) c
    exact ⟨c.ok, hQ M47 n1 (wg_same hI hsh v (c.v hF mw3 (nez (by decide))) ⟨X0, rs3⟩ (fun q => by rw [eq]; exact (rle q).1)) (wv_same hv9 v (c.v hF mw3 (nez (by decide))) (fun q => by rw [eq]; exact hf9 q))⟩
  · have uv : 0 < nv M (w + 3) ∨ 0 < nv M (f + 3) := by
      have n1 := hI.1.1
      unfold orQ at ox
      omega
    refine s_wgDiff (d := d) hw dw hsh uv hA hU rs2 rs3 hW bb1 bb2 hB (fun M' Q1 Q2 r n1 g1 g2 g3 g4 g5 g6 g7 => hQ M' n1 (wg_diff hI A0 hsh g1 g2 g3 g4 g5 ⟨rs1, rs2⟩ g6 g7 ⟨X0, rs3⟩ rle) (wv_diff hv9 g1 g2 g3 g4 hf9))
/-- the loop over the branches -/
theorem s_wg25 (hE0 : We L W z w g a R cn M0) (hrs0 : Rsm M0 R cn S) (hW : ∀ x, Twg z w x → B ≤ W x) (b1 : 8 * S + 6 ≤ B) (hB : B ≤ 16000) (hc : c < 4096) (hcn : cn ≤ 512) (e7 : mI M0 (g + 7) (c + 1) = ((y : Nat) : Int)) (hxy : x ≤ y ∧ y ≤ x + 8 ∧ y ≤ 4096) (hbr : ∀ i, x ≤ i → i < y → 0 ≤ mI M0 (g + 8) i ∧ mI M0 (g + 8) i < cn ∧ 1 ≤ mI M0 (g + 9) i ∧ mI M0 (g + 9) i < 1073741824) {mu : Int} (emu : wsm M0 g x (y - x) = mu) {t0 : Int} {Qw : mM → Prop} (Hm : ∀ M', NL L W (Twg z w) (fun x => x = w) False z M0 M' → mI M' w 2 = t0 → wgI M0 R cn w S (y - x) mu M' → wgV M0 R cn w (wsv M0 R g x (y - x)) M' → Qw M') : ∀ (t i : Nat) (M : mM), y ≤ i + t → x ≤ i → i ≤ y → NL L W (Twg z w) (fun x => x = w) False z M0 M → mI M w 2 = t0 → wgI M0 R cn w S (i - x) (wsm M0 g x (i - x)) M → wgV M0 R cn w (wsv M0 R g x (i - x)) M → h_Sc_weigh_25 G (d + 4) z g c a w i M Qw := by
  intro t
  induction t with
  | zero =>
    intro i M h1 h2 h3 hN ht hI hv9
    obtain ⟨hE, e9, eR, -⟩ := hE0.nl hN
    have ei : i = y := by omega
    subst ei
    rw [emu] at hI
    obtain ⟨-, ⟨⟨g1, ⟨-, -, -, r7, -⟩, k, ⟨-, -, -, n7, -⟩⟩, -⟩, -⟩ := hE
    refine k_Sc_weigh_25 hN.ok ⟨by omega, by omega⟩ ⟨by omega, by omega⟩ ?_
    rw [r7, n7, show Int.toNat ((c : Int) + 1) = c + 1 by omega, e9 7 (by decide), e7]
    exact ⟨g1, k 7 (by decide) (by decide), ⟨by omega, by omega⟩, fun _ => Hm M hN ht hI hv9, fun u => absurd (Int.le_refl _) u⟩
  | succ t ih =>
    intro i M h1 h2 h3 hN ht hI hv9
    by_cases ei : i = y
    · exact ih i M (by omega) h2 h3 hN ht hI hv9
    obtain ⟨hE, e9, eR, vals⟩ := hE0.nl hN
    obtain ⟨b8, b8', b9, b9'⟩ := hbr i h2 (by omega)
    obtain ⟨⟨hO, hF, hS, hfw⟩, ⟨⟨g1, ⟨-, -, -, r7, r8, r9⟩, k, ⟨-, -, -, n7, n8, n9⟩⟩, -⟩, ⟨q1, q2, q3, q4, -⟩, -⟩ := id hE
    obtain ⟨to, eto⟩ : ∃ to : Nat, mI M0 (g + 8) i = ((to : Nat) : Int) := ⟨(mI M0 (g + 8) i).toNat, by omega⟩
    refine k_Sc_weigh_25 hN.ok ⟨by omega, by omega⟩ ⟨by omega, by omega⟩ ?_
    rw [r7, n7, show Int.toNat ((c : Int) + 1) = c + 1 by omega, e9 7 (by decide), e7, r8, n8, q2, r9, n9, Int.toNat_natCast, e9 8 (by decide), e9 9 (by decide), eto, Int.toNat_natCast]
    refine ⟨g1, k 7 (by decide) (by decide), ⟨by omega, by omega⟩, fun u => absurd u (by omega), fun _ => ⟨q1, k 8 (by decide) (by decide), ⟨by omega, by omega⟩, q3, ⟨by omega, by omega⟩, k 9 (by decide) (by decide), ⟨by omega, by omega⟩, ?_⟩⟩
    have hrs : Rsm M R cn S := fun i hi => by
      rw [eR, (vals i hi).1, (vals i hi).2]
      exact hrs0 i hi
    have hle : Rle M0 R cn → Rle M R cn := fun q i hi => by
      rw [eR, (vals i hi).1, (vals i hi).2]
      exact q i hi
    refine s_wg_one (d := d) (Q := fun M' => h_Sc_weigh_291 G (d + 4) z g c a w i M' Qw) hE hI (by omega) (show to < cn by omega) hrs hle hW b1 hB ⟨by omega, b9'⟩ hv9 (f9 := rwv M0 R to) (fun q => by
      rw [eR, (vals to (by omega)).1, (vals to (by omega)).2]
      exact rwv_mul (q to (by omega)).2) (fun M' n1 h1' hv' => ?_) _ rfl
    refine k_Sc_weigh_291 n1.ok ⟨by omega, by omega⟩ ⟨by omega, by omega⟩ ?_
    rw [show ((i : Int) + 1) = ((i + 1 : Nat) : Int) by omega]
    have e1 : i + 1 - x = (i - x) + 1 := by omega
    refine ih (i + 1) M' (by omega) (by omega) (by omega) (hN.trans (n1.mono hF (fun _ e => e) (hE.ws (show to < cn by omega)).tw (fun _ e => e.elim) (hE.ws (show to < cn by omega)).iw (fun e => e))) ?_ ?_ ?_
    · rw [(n1.frp hF hfw.1).2 (fun e => e)]; exact ht
    · rw [e1]
      show wgI M0 R cn w S (i - x + 1) (wsm M0 g x (i - x) + mI M0 (g + 9) (x + (i - x))) M'
      rw [show x + (i - x) = i by omega]
      exact h1'
    · rw [e1]
      show wgV M0 R cn w (wsv M0 R g x (i - x) + (mI M0 (g + 9) (x + (i - x)) : Rat) * rwv M0 R (mI M0 (g + 8) (x + (i - x))).toNat) M'
      rw [show x + (i - x) = i by omega, eto, Int.toNat_natCast]
      exact hv'
theorem wg_end {sm : Int} (hN : NL L W (Twg z w) (fun x => x = w) False z M0 M) (ht : mI M w 2 = sm) (hj : j ≤ 8) (hI : wgI M0 R cn w S j sm M) : wgQ L W z w R cn S sm M0 M := by
  have e : S * j ≤ 8 * S := by rw [Nat.mul_comm 8 S]; exact Nat.mul_le_mul_left _ hj
  refine ⟨hN, ⟨hI.1.1, Int.lt_of_lt_of_le (wg_bits hI.1.2) (p30m (by omega))⟩, Int.lt_of_lt_of_le (wg_bits3 hj hI.2.1) (p30m (by omega)), ht, hI.2.2⟩
/-- a command is weighed -/
theorem f_weighX (hE : We L W z w g a R cn M) (hrs : Rsm M R cn S) (hW : ∀ x, Twg z w x → B ≤ W x) (b1 : 8 * S + 6 ≤ B) (hB : B ≤ 16000) (hc : c < 4096) (hcn : cn ≤ 512) (hbc : bc ≤ 4096) (hcm : cmdG M g cn bc c) : ∃ mu : Nat, (1 ≤ mu ∧ mu < 1000000000) ∧ (cmm M g c).2.1 = ((mu : Nat) : Int) ∧ Cv G y_Sc_weigh (d + 5) [vr z, vr g, vi c, vr a, vr w] M (fun M' => wgQ L W z w R cn S mu M M' ∧ wgV M R cn w (wsL9 (rwv M R) (cmm M g c).2.2) M') := by
  obtain ⟨x, y, mu, h1, h2, ⟨h3, h3'⟩, h4, h5, h6, h7, h8, h9, -⟩ := hcm
  refine ⟨mu, ⟨h7, h8⟩, h6, ?_⟩
  rw [cmm_ws h1 h2]
  obtain ⟨⟨hO, hF, hS, hfw⟩, ⟨hG, hgo⟩, hR, hD⟩ := id hE
  refine k_Sc_weigh hO ⟨by omega, by omega⟩ ⟨hfw.1.1, (f_Fr_put0 (d := d + 3) ⟨by decide, by decide⟩ hO hF hfw hS.z9).mono (fun M2 k => ?_)⟩
  obtain ⟨n0, v1, v3, t2⟩ := k
  have htw : ∀ t, Twg z w t → t ∈ L := by
    intro t ht
    rcases ht with u | u | u | u | u | u
    · exact hS.t4 t u
    · rw [u]; exact hS.2.2.2.2.2.1.2.2.2.2.2.1
    · rw [u]; exact hS.2.2.2.2.2.1.2.2.2.2.2.2.1
    · rw [u]; exact hS.2.2.2.2.2.1.2.2.2.2.2.2.2
    · rw [u]; exact hfw.2.1
    · rw [u]; exact hfw.2.2
  have n2 : NL L W (Twg z w) (fun x => x = w) False z M M2 := n0.mono hF (fun t ht => ht.elim (fun e => Or.inr (Or.inr (Or.inr (Or.inr (Or.inl e))))) (fun e => Or.inr (Or.inr (Or.inr (Or.inr (Or.inr e)))))) htw (fun _ e => e) (fun x e => by rw [e]; exact ⟨hfw.1.2.2, hfw.1.1⟩) (fun e => e)
  obtain ⟨hE2, e9, eR, vals⟩ := hE.nl n2
  obtain ⟨⟨hO2, hF2, hS2, hfw2⟩, ⟨⟨g1, ⟨-, -, r6, r7, -⟩, kk, ⟨-, -, n6, n7, -⟩⟩, hgo2⟩, -⟩ := id hE2
  rw [r6, n6, e9 6 (by decide), Int.toNat_natCast, h6]
  refine ⟨n2.ok, g1, kk 6 (by decide) (by decide), ⟨by omega, by omega⟩, hfw2.1.1, fun M9 e9' => ?_⟩
  obtain ⟨n3, t3, v9⟩ := nl_times (T := Twg z w) (I := fun x => x = w) (r := False) (z := z) n2.ok hF2 hfw2 hS2.z9 ⟨by omega, by omega⟩ e9' htw rfl (fun x e => by rw [e]; exact ⟨hfw2.1.2.2, hfw2.1.1⟩)
  have n9 := n2.trans n3
  obtain ⟨hE9, f9, -, -⟩ := hE.nl n9
  obtain ⟨-, ⟨⟨g1', ⟨-, -, -, r7', -⟩, kk', ⟨-, -, -, n7', -⟩⟩, -⟩, -⟩ := id hE9
  rw [r7', n7', f9 7 (by decide), h1]
  have wl : ∀ i, x ≤ i → i < y → mI M (g + 9) i < 1073741824 := fun i p q => by
    have := wsm_le (M := M) (g := g) (x := x) (n := y - x) (fun i p q => (h5 i p (by omega)).2.2) (y - x) (Nat.le_refl _) i p (by omega)
    rw [h9] at this
    omega
  refine ⟨kk' 7 (by decide) (by decide), ⟨by omega, by omega⟩, ?_⟩
  refine s_wg25 (d := d) (t0 := ((mu : Nat) : Int)) hE hrs hW b1 hB hc hcn h2 ⟨by omega, h3', by omega⟩ (fun i p q => ⟨(h5 i p q).1, (h5 i p q).2.1, (h5 i p q).2.2, wl i p q⟩) h9 (fun M' g2 g3 g4 g5 => ⟨wg_end g2 g3 (by omega) g4, g5⟩) (y - x) x M9 (by omega) (Nat.le_refl _) (by omega) n9 t3 ?_ ?_
  rotate_left
  · rw [Nat.sub_self]
    intro _
    show (nv M9 (w + 1) : Rat) = 0 * (nv M9 (w + 3) : Rat)
    rw [v9 _ hfw.2.1, v1]
    have z0 : ((0 : Int) : Rat) = 0 := rfl
    rw [z0]
    grind
  rw [Nat.sub_self]
  have e0 : (2 : Int) ^ (30 * (S * 0)) = 1 := by rw [Nat.mul_zero]; decide
  refine ⟨⟨by rw [v9 _ hfw.2.2, v3]; decide, by rw [v9 _ hfw.2.2, v3, e0]; decide⟩, by rw [v9 _ hfw.2.1, v1, e0]; decide, fun _ => ?_⟩
  rw [v9 _ hfw.2.1, v1, v9 _ hfw.2.2, v3]
  exact ⟨(by decide : (0 : Int) ≤ 0 * 1), by decide⟩
theorem f_weigh (hE : We L W z w g a R cn M) (hrs : Rsm M R cn S) (hW : ∀ x, Twg z w x → B ≤ W x) (b1 : 8 * S + 6 ≤ B) (hB : B ≤ 16000) (hc : c < 4096) (hcn : cn ≤ 512) (hbc : bc ≤ 4096) (hcm : cmdG M g cn bc c) : ∃ mu : Nat, (1 ≤ mu ∧ mu < 1000000000) ∧ Cv G y_Sc_weigh (d + 5) [vr z, vr g, vi c, vr a, vr w] M (wgQ L W z w R cn S mu M) := by
  obtain ⟨mu, h1, -, h2⟩ := f_weighX (G := G) (d := d) hE hrs hW b1 hB hc hcn hbc hcm
  exact ⟨mu, h1, h2.mono (fun M' q => q.1)⟩
end NAW
end
section
/-! The Scales: two fractions are compared; a fraction is brought to least terms. -/
section NAX
variable {G : mG} {d b c z n m w S x y B u g a R cn f f' s : Nat} {M M0 M' M1 M2 M3 : mM} {L : List Nat} {W : Nat → Nat} {T T' I I' : Nat → Prop} {r r' : Prop} {sh : Int}
def Tor (z x : Nat) : Prop := x = z + 9 ∨ x = z + 11
/-- what comparing works with -/
def Ors (L : List Nat) (W : Nat → Nat) (z f f' : Nat) (M : mM) : Prop := mOk M ∧ NF L W M ∧ SK L M z ∧ FrL L M f ∧ FrL L M f'
theorem Ors.nl (h : Ors L W z f f' M) (k : NL L W (Tor z) (fun _ => False) False z M M') : Ors L W z f f' M' := by
  obtain ⟨h1, h2, h3, h4, h5⟩ := h
  exact ⟨k.ok, k.nf, k.sk h2 h3, k.frl h2 h4, k.frl h2 h5⟩
theorem Ors.tor (h : Ors L W z f f' M) : ∀ t, Tor z t → t ∈ L := fun t ht => by
  have k := h.2.2.1.2.2.2.2.2.1
  rcases ht with e | e
  · rw [e]; exact k.2.2.2.2.1
  · rw [e]; exact k.2.2.2.2.2.1
theorem Ors.st (h : Ors L W z f f' M) (ha : Tor z a) (c : NC L W (fun x => x = a) M M') : NL L W (Tor z) (fun _ => False) False z M M' ∧ Ors L W z f f' M' := by
  have n : NL L W (Tor z) (fun _ => False) False z M M' := (c.nl (I := fun _ => False) (r := False) noI h.2.2.1.z9).mono h.2.1 (fun t ht => by rw [ht]; exact ha) h.tor (fun _ u => u) noI (fun u => u)
  exact ⟨n, h.nl n⟩
theorem Ors.pl (h : Ors L W z f f' M) : (mK M z = 9 ∧ mK M f = 11 ∧ mK M f' = 11) ∧ (mR M z 4 = z + 9 ∧ mR M z 5 = z + 11) ∧ ((mR M f 0 = f + 1 ∧ mR M f 1 = f + 3) ∧ (mR M f' 0 = f' + 1 ∧ mR M f' 1 = f' + 3)) ∧ (z + 9 ∈ L ∧ z + 11 ∈ L ∧ f + 1 ∈ L ∧ f + 3 ∈ L ∧ f' + 1 ∈ L ∧ f' + 3 ∈ L) := by
  obtain ⟨-, -, ⟨k1, ⟨-, -, -, -, k4, k5, -⟩, -, -, -, ⟨-, -, -, -, p1, p2, -⟩, -⟩, ⟨⟨q1, q2, -⟩, q3, q4⟩, ⟨⟨r1, r2, -⟩, r3, r4⟩⟩ := h
  exact ⟨⟨k1.1, q1, r1⟩, ⟨k4, k5⟩, ⟨q2, r2⟩, p1, p2, q3, q4, r3, r4⟩
/-- numbers of at most s limbs, small factors -/
def Osz (M : mM) (f s : Nat) : Prop := sz M (f + 1) ≤ s ∧ sz M (f + 3) ≤ s ∧ (1 ≤ mI M f 2 ∧ mI M f 2 < 1073741824)
theorem mul_sz {v t : Int} (hv : 0 ≤ v ∧ v < 2 ^ (30 * s)) (ht : 1 ≤ t ∧ t < 1073741824) : 0 ≤ t * v ∧ t * v < 2 ^ (30 * (s + 1)) := by
  rw [p30, Int.mul_comm]
  have h1 : v * t ≤ v * 1073741824 := Int.mul_le_mul_of_nonneg_left (by omega) hv.1
  have h2 := Int.mul_nonneg hv.1 (show 0 ≤ t by omega)
  omega
/-- from the two products on -/
theorem s_orEnd (h : Ors L W z f f' M) (t1 : 1 ≤ mI M f' 2 ∧ mI M f' 2 < 1073741824) (t2 : 1 ≤ mI M f 2 ∧ mI M f 2 < 1073741824) (s1 : sz M (z + 9) + 1 ≤ W (z + 9)) (s2 : sz M (z + 11) + 1 ≤ W (z + 11)) : mK M z = 9 ∧ mK M f' = 11 ∧ mK M (mR M z 4) = 10 ∧ Cv G y_Na_multiply (d + 4) [vr (mR M z 4), vi (mI M f' 2)] M (fun M26 => mOk M26 ∧ (mK M26 z = 9 ∧ mK M26 f = 11 ∧ mK M26 (mR M26 z 5) = 10 ∧ Cv G y_Na_multiply (d + 4) [vr (mR M26 z 5), vi (mI M26 f 2)] M26 (fun M32 => mOk M32 ∧ (mK M32 z = 9 ∧ Ci G y_Na_order (d + 4) [vr (mR M32 z 4), vr (mR M32 z 5)] M32 (fun x37 M36 => i32 x37 ∧ mOk M36 ∧ (NL L W (Tor z) (fun _ => False) False z M M36 ∧ (x37 = -1 ∨ x37 = 0 ∨ x37 = 1) ∧ orQ (mI M f' 2 * nv M (z + 9)) (mI M f 2 * nv M (z + 11)) x37)))))) := by
  obtain ⟨⟨k1, k2, k3⟩, ⟨r4, r5⟩, -, m9, m11, mf1, mf3, mg1, mg3⟩ := h.pl
  rw [r4]
  refine ⟨k1, k3, h.2.1.kd m9, (f_multiply (d := d + 2) t1 h.1 h.2.1 m9 s1).mono (fun M26 k => ?_)⟩
  obtain ⟨c1, v1⟩ := k
  obtain ⟨n1, H1⟩ := h.st (Or.inl rfl) c1
  obtain ⟨⟨k1, k2, k3⟩, ⟨r4, r5⟩, -⟩ := H1.pl
  have e2 : mI M26 f = mI M f := (n1.frp h.2.1 h.2.2.2.1.1).2 (fun e => e)
  have z11 := (c1.num h.2.1 m11 (nez (by decide))).2.2.2.1
  have z11v := (c1.num h.2.1 m11 (nez (by decide))).2.2.2.2.1
  rw [r5, e2]
  refine ⟨H1.1, k1, k2, H1.2.1.kd m11, (f_multiply (d := d + 2) t2 H1.1 H1.2.1 m11 (by rw [z11]; exact s2)).mono (fun M32 k => ?_)⟩
  obtain ⟨c2, v2⟩ := k
  obtain ⟨n2, H2⟩ := H1.st (Or.inr rfl) c2
  obtain ⟨⟨k1, k2, k3⟩, ⟨r4, r5⟩, -⟩ := H2.pl
  rw [r4, r5]
  refine ⟨H2.1, k1, (f_order (d := d + 4) H2.1 H2.2.1 m9 m11).mono (fun x M36 k => ?_)⟩
  obtain ⟨e, ox⟩ := k
  rw [e]
  have xx : x = -1 ∨ x = 0 ∨ x = 1 := by unfold orQ at ox; omega
  rw [c2.v H1.2.1 m9 (nez (by decide)), v1, v2, z11v] at ox
  exact ⟨by rcases xx with e | e | e <;> rw [e] <;> exact ⟨by decide, by decide⟩, H2.1, n1.trans n2, xx, ox⟩
/-- two fractions are compared -/
theorem f_Sc_orderX (h : Ors L W z f f' M) (o1 : Osz M f s) (o2 : Osz M f' s) (nf : ¬ Tor z (f + 1) ∧ ¬ Tor z (f + 3)) (nf' : ¬ Tor z (f' + 1) ∧ ¬ Tor z (f' + 3)) (w9 : 2 * s + 1 ≤ W (z + 9)) (w11 : 2 * s + 1 ≤ W (z + 11)) : Ci G y_Sc_order (d + 5) [vr z, vr f, vr f'] M (fun x M' => NL L W (Tor z) (fun _ => False) False z M M' ∧ (x = -1 ∨ x = 0 ∨ x = 1) ∧ (0 < nv M (f + 3) → 0 < nv M (f' + 3) → orR (fq9 M f) (fq9 M f') x)) := by
  obtain ⟨⟨k1, k2, k3⟩, ⟨r4, r5⟩, ⟨⟨f0, f1⟩, g0, g1⟩, m9, m11, mf1, mf3, mg1, mg3⟩ := h.pl
  obtain ⟨a1, a2, a3⟩ := o1
  obtain ⟨b1, b2, b3⟩ := o2
  have e9f1 : z + 9 ≠ f + 1 := fun e => nf.1 (Or.inl e.symm)
  have e11f3 : z + 11 ≠ f + 3 := fun e => nf.2 (Or.inr e.symm)
  have e9g3 : z + 9 ≠ f' + 3 := fun e => nf'.2 (Or.inl e.symm)
  have e11g1 : z + 11 ≠ f' + 1 := fun e => nf'.1 (Or.inr e.symm)
  have hF := h.2.1
  have fin : ∀ {x : Int}, orQ (nv M (f + 1) * (mI M f' 2 * nv M (f' + 3))) (nv M (f' + 1) * (mI M f 2 * nv M (f + 3))) x → 0 < nv M (f + 3) → 0 < nv M (f' + 3) → orR (fq9 M f) (fq9 M f') x := fun o d1 d2 => by
    have p1 := Int.mul_pos (show 0 < mI M f 2 by omega) d1
    have p2 := Int.mul_pos (show 0 < mI M f' 2 by omega) d2
    exact or_rat p1 p2 (fq_mul p1) (fq_mul p2) o
  refine k_Sc_order h.1 ?_
  rw [f1, g1]
  refine ⟨k2, k3, (f_order (d := d + 4) h.1 hF mf3 mg3).mono (fun x4 M3 k => ?_)⟩
  obtain ⟨e3, ox⟩ := k
  rw [e3, r4]
  refine ⟨by unfold orQ at ox; exact ⟨by omega, by omega⟩, h.1, fun x0 => ⟨k1, k2, hF.kd m9, ?_⟩, fun _ => ⟨k1, k2, k3, hF.kd m9, ?_⟩⟩
  · rw [f0]
    refine (f_put1 (d := d + 3) h.1 hF m9 mf1 e9f1 (by omega)).mono (fun M14 k => ?_)
    obtain ⟨c1, v1⟩ := k
    obtain ⟨n1, H1⟩ := h.st (Or.inl rfl) c1
    obtain ⟨⟨k1, k2, k3⟩, ⟨r4, r5⟩, ⟨⟨f0, f1⟩, g0, g1⟩, -⟩ := H1.pl
    have s9 : sz M14 (z + 9) ≤ s := H1.2.1.szv m9 (by rw [v1]; exact Int.lt_of_lt_of_le (hF.vlt mf1) (p30m a1))
    have sg := (n1.num hF mg1 nf'.1).2
    rw [r5, g0]
    refine ⟨H1.1, k1, k3, H1.2.1.kd m11, (f_put1 (d := d + 3) H1.1 H1.2.1 m11 mg1 e11g1 (by omega)).mono (fun M20 k => ?_)⟩
    obtain ⟨c2, v2⟩ := k
    obtain ⟨n2, H2⟩ := H1.st (Or.inr rfl) c2
    have N2 := n1.trans n2
    have s11 : sz M20 (z + 11) ≤ s := H2.2.1.szv m11 (by rw [v2, sg.2]; exact Int.lt_of_lt_of_le (hF.vlt mg1) (p30m b1))
    have s9' := (c2.num H1.2.1 m9 (nez (by decide))).2.2.2.1
    have ef := (N2.frp hF h.2.2.2.1.1).2 (fun e => e)
    have eg := (N2.frp hF h.2.2.2.2.1).2 (fun e => e)
    obtain ⟨q1, q2, q3, q4⟩ := s_orEnd (G := G) (d := d) H2 (by rw [eg]; exact b3) (by rw [ef]; exact a3) (by omega) (by omega)
    exact ⟨H2.1, q1, q2, q3, q4.mono (fun M26 ⟨p1, p2, p3, p4, p5⟩ => ⟨p1, p2, p3, p4, p5.mono (fun M32 ⟨p6, p7, p8⟩ => ⟨p6, p7, p8.mono (fun x M36 ⟨p9, p10, p11, p12, p13⟩ => ⟨p9, p10, N2.trans p11, p12, fun d1 d2 => fin (by
      have ed : nv M (f' + 3) = nv M (f + 3) := by
        unfold orQ at ox
        omega
      rw [eg, ef, v2, sg.2, c2.v H1.2.1 m9 (nez (by decide)), v1] at p13
      have o := orQ_mul d1 p13
      rw [ed]
      rw [show nv M (f + 1) * (mI M f' 2 * nv M (f + 3)) = mI M f' 2 * nv M (f + 1) * nv M (f + 3) by grind, show nv M (f' + 1) * (mI M f 2 * nv M (f + 3)) = mI M f 2 * nv M (f' + 1) * nv M (f + 3) by grind]
      exact o) d1 d2⟩)⟩)⟩)⟩
  · rw [f0, g1]
    refine (f_putProduct (d := d + 1) h.1 hF m9 mf1 mg3 e9f1 e9g3 (by omega)).mono (fun M14 k => ?_)
    obtain ⟨c1, v1⟩ := k
    obtain ⟨n1, H1⟩ := h.st (Or.inl rfl) c1
    obtain ⟨⟨k1, k2, k3⟩, ⟨r4, r5⟩, ⟨⟨f0, f1⟩, g0, g1⟩, -⟩ := H1.pl
    have s9 : sz M14 (z + 9) ≤ s + s := H1.2.1.szv m9 (by rw [v1]; exact pb ⟨hF.nn0 mf1, Int.lt_of_lt_of_le (hF.vlt mf1) (p30m a1)⟩ ⟨hF.nn0 mg3, Int.lt_of_lt_of_le (hF.vlt mg3) (p30m b2)⟩)
    have sg := (n1.num hF mg1 nf'.1).2
    have sf := (n1.num hF mf3 nf.2).2
    rw [r5, g0, f1]
    refine ⟨H1.1, k1, k3, k2, H1.2.1.kd m11, (f_putProduct (d := d + 1) H1.1 H1.2.1 m11 mg1 mf3 e11g1 e11f3 (by omega)).mono (fun M20 k => ?_)⟩
    obtain ⟨c2, v2⟩ := k
    obtain ⟨n2, H2⟩ := H1.st (Or.inr rfl) c2
    have N2 := n1.trans n2
    have s11 : sz M20 (z + 11) ≤ s + s := H2.2.1.szv m11 (by rw [v2, sg.2, sf.2]; exact pb ⟨hF.nn0 mg1, Int.lt_of_lt_of_le (hF.vlt mg1) (p30m b1)⟩ ⟨hF.nn0 mf3, Int.lt_of_lt_of_le (hF.vlt mf3) (p30m a2)⟩)
    have s9' := (c2.num H1.2.1 m9 (nez (by decide))).2.2.2.1
    have ef := (N2.frp hF h.2.2.2.1.1).2 (fun e => e)
    have eg := (N2.frp hF h.2.2.2.2.1).2 (fun e => e)
    obtain ⟨q1, q2, q3, q4⟩ := s_orEnd (G := G) (d := d) H2 (by rw [eg]; exact b3) (by rw [ef]; exact a3) (by omega) (by omega)
    exact ⟨H2.1, q1, q2, q3, q4.mono (fun M26 ⟨p1, p2, p3, p4, p5⟩ => ⟨p1, p2, p3, p4, p5.mono (fun M32 ⟨p6, p7, p8⟩ => ⟨p6, p7, p8.mono (fun x M36 ⟨p9, p10, p11, p12, p13⟩ => ⟨p9, p10, N2.trans p11, p12, fun d1 d2 => fin (by
      rw [eg, ef, v2, sg.2, sf.2, c2.v H1.2.1 m9 (nez (by decide)), v1] at p13
      rw [show nv M (f + 1) * (mI M f' 2 * nv M (f' + 3)) = mI M f' 2 * (nv M (f + 1) * nv M (f' + 3)) by grind, show nv M (f' + 1) * (mI M f 2 * nv M (f + 3)) = mI M f 2 * (nv M (f' + 1) * nv M (f + 3)) by grind]
      exact p13) d1 d2⟩)⟩)⟩)⟩
theorem f_Sc_order (h : Ors L W z f f' M) (o1 : Osz M f s) (o2 : Osz M f' s) (nf : ¬ Tor z (f + 1) ∧ ¬ Tor z (f + 3)) (nf' : ¬ Tor z (f' + 1) ∧ ¬ Tor z (f' + 3)) (w9 : 2 * s + 1 ≤ W (z + 9)) (w11 : 2 * s + 1 ≤ W (z + 11)) : Ci G y_Sc_order (d + 5) [vr z, vr f, vr f'] M (fun x M' => NL L W (Tor z) (fun _ => False) False z M M' ∧ (x = -1 ∨ x = 0 ∨ x = 1)) := (f_Sc_orderX h o1 o2 nf nf' w9 w11).mono (fun x M' k => ⟨k.1, k.2.1⟩)
end NAX
end
section
/-! The Scales: least terms, fitting, whole parts. -/
section NAY
variable {G : mG} {d b c z n m w S x y B u g a R cn f s : Nat} {M M0 M' M1 M2 M3 : mM} {L : List Nat} {W : Nat → Nat} {T T' I I' : Nat → Prop} {sh t : Int}
def Tre (z f x : Nat) : Prop := T4 z x ∨ x = f + 1 ∨ x = f + 3
def Rds (L : List Nat) (W : Nat → Nat) (z f : Nat) (M : mM) : Prop := mOk M ∧ NF L W M ∧ SK L M z ∧ FrL L M f
theorem Rds.tre (h : Rds L W z f M) : ∀ t, Tre z f t → t ∈ L := fun t ht => by
  rcases ht with e | e | e
  · exact h.2.2.1.t4 t e
  · rw [e]; exact h.2.2.2.2.1
  · rw [e]; exact h.2.2.2.2.2
theorem Rds.iw (h : Rds L W z f M) : ∀ x, (fun x => x = f) x → x < mZ M ∧ mK M x = 11 := fun x u => by
  rw [u]
  exact ⟨h.2.2.2.1.2.2, h.2.2.2.1.1⟩
theorem Rds.nl (h : Rds L W z f M) (k : NL L W (Tre z f) (fun x => x = f) False z M M') : Rds L W z f M' := ⟨k.ok, k.nf, k.sk h.2.1 h.2.2.1, k.frl h.2.1 h.2.2.2⟩
theorem Rds.st (h : Rds L W z f M) (ha : Tre z f a) (c : NC L W (fun x => x = a) M M') : NL L W (Tre z f) (fun x => x = f) False z M M' ∧ Rds L W z f M' := by
  have n : NL L W (Tre z f) (fun x => x = f) False z M M' := (c.nl (I := fun x => x = f) (r := False) h.iw h.2.2.1.z9).mono h.2.1 (fun t ht => by rw [ht]; exact ha) h.tre (fun _ u => u) h.iw (fun u => u)
  exact ⟨n, h.nl n⟩
theorem Rds.st3 (h : Rds L W z f M) (ha : Tre z f a ∧ Tre z f b ∧ Tre z f c) (k : NC L W (fun x => x = a ∨ x = b ∨ x = c) M M') : NL L W (Tre z f) (fun x => x = f) False z M M' ∧ Rds L W z f M' := by
  have n : NL L W (Tre z f) (fun x => x = f) False z M M' := (k.nl (I := fun x => x = f) (r := False) h.iw h.2.2.1.z9).mono h.2.1 (fun t ht => by
    rcases ht with u | u | u
    · rw [u]; exact ha.1
    · rw [u]; exact ha.2.1
    · rw [u]; exact ha.2.2) h.tre (fun _ u => u) h.iw (fun u => u)
  exact ⟨n, h.nl n⟩
theorem Rds.pl (h : Rds L W z f M) : (mK M z = 9 ∧ mK M f = 11) ∧ (mR M z 2 = z + 5 ∧ mR M z 3 = z + 7) ∧ (mR M f 0 = f + 1 ∧ mR M f 1 = f + 3) ∧ (z + 5 ∈ L ∧ z + 7 ∈ L ∧ f + 1 ∈ L ∧ f + 3 ∈ L) := by
  obtain ⟨-, -, ⟨k1, ⟨-, -, k2, k3, -⟩, -, -, -, ⟨-, -, p1, p2, -⟩, -⟩, ⟨⟨q1, q2, -⟩, q3, q4⟩⟩ := h
  exact ⟨⟨k1.1, q1⟩, ⟨k2, k3⟩, q2, p1, p2, q3, q4⟩
/-- both numbers are divided -/
theorem s_rdDiv {Q : mM → Prop} {r : Nat} {A V q : Int} (h : Rds L W z f M) (er : r = z + 1 ∨ r = z + 3) (nf : ¬ T4 z (f + 1) ∧ ¬ T4 z (f + 3)) (hA : nv M (f + 1) = A) (hV : nv M (f + 3) = V) (hq : nv M r = q) (q0 : 0 < q) (d1 : q ∣ A) (d2 : q ∣ V) (A0 : 0 < A) (s1 : sz M (f + 1) + 2 ≤ s) (s2 : sz M (f + 3) + 2 ≤ s) (w1 : s ≤ W (f + 1)) (w3 : s ≤ W (f + 3)) (w5 : s ≤ W (z + 5)) (w7 : s ≤ W (z + 7))
    (hQ : ∀ M' Q1 Q2, NL L W (Tre z f) (fun x => x = f) False z M M' → mI M' f 2 = mI M f 2 → nv M' (f + 1) = Q1 → nv M' (f + 3) = Q2 → A = q * Q1 → V = q * Q2 → 0 ≤ Q1 → 0 ≤ Q2 → Q M') : mK M f = 11 ∧ mK M z = 9 ∧ mK M (mR M f 0) = 10 ∧ Cv G y_Na_divide (d + 4) [vr (mR M f 0), vr r, vr (mR M z 2), vr (mR M z 3)] M (fun M32 => mOk M32 ∧ (mK M32 f = 11 ∧ mK M32 z = 9 ∧ mK M32 (mR M32 f 0) = 10 ∧ Cv G y_Na_put1 (d + 4) [vr (mR M32 f 0), vr (mR M32 z 2)] M32 (fun M38 => mOk M38 ∧ (mK M38 f = 11 ∧ mK M38 z = 9 ∧ mK M38 (mR M38 f 1) = 10 ∧ Cv G y_Na_divide (d + 4) [vr (mR M38 f 1), vr r, vr (mR M38 z 2), vr (mR M38 z 3)] M38 (fun M44 => mOk M44 ∧ (mK M44 f = 11 ∧ mK M44 z = 9 ∧ mK M44 (mR M44 f 1) = 10 ∧ Cv G y_Na_put1 (d + 4) [vr (mR M44 f 1), vr (mR M44 z 2)] M44 (fun M50 => mOk M50 ∧ (Q M50)))))))) := by
  obtain ⟨⟨k1, k2⟩, ⟨r2, r3⟩, ⟨f0, f1⟩, m5, m7, mf1, mf3⟩ := h.pl
  obtain ⟨⟨rn5, rn7, -, -⟩, -⟩ := r_n er
  have tr : T4 z r := er.elim Or.inl (fun e => Or.inr (Or.inl e))
  have mr : r ∈ L := h.2.2.1.t4 r tr
  have rf1 : r ≠ f + 1 := fun e => nf.1 (by rw [← e]; exact tr)
  have rf3 : r ≠ f + 3 := fun e => nf.2 (by rw [← e]; exact tr)
  have t5 : Tre z f (z + 5) := Or.inl (Or.inr (Or.inr (Or.inl rfl)))
  have t7 : Tre z f (z + 7) := Or.inl (Or.inr (Or.inr (Or.inr rfl)))
  have f15 : f + 1 ≠ z + 5 := fun e => nf.1 (Or.inr (Or.inr (Or.inl e)))
  have f17 : f + 1 ≠ z + 7 := fun e => nf.1 (Or.inr (Or.inr (Or.inr e)))
  have f35 : f + 3 ≠ z + 5 := fun e => nf.2 (Or.inr (Or.inr (Or.inl e)))
  have f37 : f + 3 ≠ z + 7 := fun e => nf.2 (Or.inr (Or.inr (Or.inr e)))
  have f13 : f + 3 ≠ f + 1 := nez (by decide)
  have hF := h.2.1
  have qV := Int.le_of_dvd A0 d1
  have sr : sz M r ≤ sz M (f + 1) := hF.szm hF mr mf1 (by rw [hq, hA]; exact qV)
  rw [f0, r2, r3]
  refine ⟨k2, k1, hF.kd mf1, (f_divide (d := d + 1) h.1 hF mf1 mr m5 m7 (fun e => rf1 e.symm) f15 f17 rn5 rn7 (nez (by decide)) (by rw [hq]; exact q0) (by omega) (by omega) (by omega)).mono (fun M32 g => ?_)⟩
  obtain ⟨c1, v1, l1⟩ := g
  obtain ⟨n1, H1⟩ := h.st3 ⟨Or.inr (Or.inl rfl), t5, t7⟩ c1
  have F1 := H1.2.1
  rw [hA, hq] at v1
  rw [hq] at l1
  have Q1n := F1.nn0 m5
  have EA := dv_ex q0 d1 v1 ⟨F1.nn0 mf1, l1⟩
  have R1 := ((c1.num hF mr (fun e => e.elim rf1 (fun e => e.elim rn5 rn7))).2.2.2.2.1).trans hq
  have N3 := (c1.num hF mf3 (fun e => e.elim f13 (fun e => e.elim f35 f37))).2.2.2
  have sq1 : sz M32 (z + 5) ≤ sz M (f + 1) := F1.szm hF m5 mf1 (by
    rw [hA, EA]
    have := Int.mul_le_mul_of_nonneg_right (show 1 ≤ q by omega) Q1n
    omega)
  obtain ⟨⟨k1, k2⟩, ⟨r2, r3⟩, ⟨f0, f1⟩, -⟩ := H1.pl
  rw [f0, r2]
  refine ⟨H1.1, k2, k1, F1.kd mf1, (f_put1 (d := d + 3) H1.1 F1 mf1 m5 f15 (by omega)).mono (fun M38 g => ?_)⟩
  obtain ⟨c2, v2⟩ := g
  obtain ⟨n2, H2⟩ := H1.st (Or.inr (Or.inl rfl)) c2
  have F2 := H2.2.1
  have R2 := (c2.v F1 mr rf1).trans R1
  have V2 := (c2.num F1 mf3 f13).2.2.2
  have V2' := (V2.2.1.trans N3.2.1).trans hV
  have sr2 : sz M38 r ≤ sz M (f + 1) := F2.szm hF mr mf1 (by rw [R2, hA]; exact qV)
  obtain ⟨⟨k1, k2⟩, ⟨r2, r3⟩, ⟨f0, f1⟩, -⟩ := H2.pl
  rw [f1, r2, r3]
  refine ⟨H2.1, k2, k1, F2.kd mf3, (f_divide (d := d + 1) H2.1 F2 mf3 mr m5 m7 (fun e => rf3 e.symm) f35 f37 rn5 rn7 (nez (by decide)) (by rw [R2]; exact q0) (by omega) (by omega) (by omega)).mono (fun M44 g => ?_)⟩
  obtain ⟨c3, v3, l3⟩ := g
  obtain ⟨n3, H3⟩ := H2.st3 ⟨Or.inr (Or.inr rfl), t5, t7⟩ c3
  have F3 := H3.2.1
  rw [V2', R2] at v3
  rw [R2] at l3
  have Q2n := F3.nn0 m5
  have EV := dv_ex q0 d2 v3 ⟨F3.nn0 mf3, l3⟩
  have A3 := ((c3.num F2 mf1 (fun e => e.elim (fun e => f13 e.symm) (fun e => e.elim f15 f17))).2.2.2.2.1).trans v2
  have sq2 : sz M44 (z + 5) ≤ sz M38 (f + 3) := F3.szm F2 m5 mf3 (by
    rw [V2', EV]
    have := Int.mul_le_mul_of_nonneg_right (show 1 ≤ q by omega) Q2n
    omega)
  obtain ⟨⟨k1, k2⟩, ⟨r2, r3⟩, ⟨f0, f1⟩, -⟩ := H3.pl
  rw [f1, r2]
  refine ⟨H3.1, k2, k1, F3.kd mf3, (f_put1 (d := d + 3) H3.1 F3 mf3 m5 f35 (by omega)).mono (fun M50 g => ?_)⟩
  obtain ⟨c4, v4⟩ := g
  obtain ⟨n4, H4⟩ := H3.st (Or.inr (Or.inr rfl)) c4
  have ti : ∀ {M M' : mM} {T : Nat → Prop}, FrL L M f → NF L W M → z < mZ M ∧ mK M z = 9 → NC L W T M M' → mI M' f = mI M f := fun hf hF hz c => ((c.nl (I := fun _ => False) (r := False) noI hz).frp hF hf.1).2 (fun e => e)
  refine ⟨H4.1, hQ M50 (nv M32 (z + 5)) (nv M44 (z + 5)) (((n1.trans n2).trans n3).trans n4) ?_ ((c4.v F3 mf1 (fun e => f13 e.symm)).trans A3) v4 EA EV Q1n Q2n⟩
  rw [ti H3.2.2.2 F3 H3.2.2.1.z9 c4, ti H2.2.2.2 F2 H2.2.2.1.z9 c3, ti H1.2.2.2 F1 H1.2.2.1.z9 c2, ti h.2.2.2 hF h.2.2.1.z9 c1]
/-- what least terms leave behind -/
def rdQ2 (L : List Nat) (W : Nat → Nat) (z f : Nat) (t A V : Int) (M M' : mM) : Prop := NL L W (Tre z f) (fun x => x = f) False z M M' ∧ mI M' f 2 = 1 ∧ (0 < V → 0 < nv M' (f + 3)) ∧ nv M' (f + 1) ≤ A ∧ (0 < V → nv M' (f + 3) ≤ t * V) ∧ (A ≤ t * V → nv M' (f + 1) ≤ nv M' (f + 3)) ∧ (nv M' (f + 1) * (t * V) = A * nv M' (f + 3) ∧ (0 < V → Int.gcd (nv M' (f + 1)) (nv M' (f + 3)) = 1))
/-- what is left over when the greatest divisor is gone -/
theorem gcd_left {A V q Q1 Q2 : Int} (q0 : 0 < q) (e1 : A = q * Q1) (e2 : V = q * Q2) (gr : ∀ g : Int, g ∣ A → g ∣ V → g ∣ q) : Int.gcd Q1 Q2 = 1 := by
  have d1 : q * (Int.gcd Q1 Q2 : Int) ∣ A := by rw [e1]; exact Int.mul_dvd_mul (Int.dvd_refl q) (Int.gcd_dvd_left ..)
  have d2 : q * (Int.gcd Q1 Q2 : Int) ∣ V := by rw [e2]; exact Int.mul_dvd_mul (Int.dvd_refl q) (Int.gcd_dvd_right ..)
  obtain ⟨c, hc⟩ := gr _ d1 d2
  have h1 : q * 1 = q * ((Int.gcd Q1 Q2 : Int) * c) := by rw [Int.mul_one, ← Int.mul_assoc]; exact hc
  have h2 : 1 = (Int.gcd Q1 Q2 : Int) * c := Int.eq_of_mul_eq_mul_left (by omega) h1
  have h3 : (Int.gcd Q1 Q2 : Int) ∣ 1 := ⟨c, h2⟩
  have h4 := Int.le_of_dvd (by decide) h3
  have h5 : (Int.gcd Q1 Q2 : Int) ≠ 0 := fun z => by rw [z, Int.zero_mul] at h2; exact absurd h2 (by decide)
  omega
theorem f_reduce (h : Rds L W z f M) (nf : ¬ T4 z (f + 1) ∧ ¬ T4 z (f + 3)) (ht : mI M f 2 = t) (t1 : 1 ≤ t ∧ t < 1073741824) (s1 : sz M (f + 1) ≤ s) (s3 : sz M (f + 3) ≤ s) (hs : s ≤ 15000) (hW : ∀ x, Tre z f x → s + 3 ≤ W x) : Cv G y_Sc_reduce (d + 5) [vr z, vr f] M (rdQ2 L W z f t (nv M (f + 1)) (nv M (f + 3)) M) := by
  obtain ⟨⟨k1, k2⟩, ⟨r2, r3⟩, ⟨f0, f1⟩, m5, m7, mf1, mf3⟩ := h.pl
  have hF := h.2.1
  have w1 := hW _ (Or.inr (Or.inl rfl))
  have w3 := hW _ (Or.inr (Or.inr rfl))
  have f13 : f + 3 ≠ f + 1 := nez (by decide)
  have A0 := hF.nn0 mf1
  refine k_Sc_reduce h.1 ?_
  rw [f1, ht]
  refine ⟨k2, hF.kd mf3, (f_multiply (d := d + 2) t1 h.1 hF mf3 (by omega)).mono (fun M3 k => ?_)⟩
  obtain ⟨c1, v1⟩ := k
  obtain ⟨n1, H1⟩ := h.st (Or.inr (Or.inr rfl)) c1
  have a1 := (c1.num hF mf1 (fun e => f13 e.symm)).2.2.2
  refine ⟨c1.ok, H1.2.2.2.1.1, fun M7 e7 => ?_⟩
  obtain ⟨n2, t2, vv⟩ := nl_times (T := Tre z f) (I := fun x => x = f) (r := False) (z := z) c1.ok H1.2.1 H1.2.2.2 H1.2.2.1.z9 ⟨by decide, by decide⟩ e7 h.tre rfl H1.iw
  have H2 := H1.nl n2
  have N2 := n1.trans n2
  have F2 := H2.2.1
  have A2 : nv M7 (f + 1) = nv M (f + 1) := by rw [vv _ mf1, a1.2.1]
  have V2 : nv M7 (f + 3) = t * nv M (f + 3) := by rw [vv _ mf3, v1]
  have Vn := hF.nn0 mf3
  have Vp : 0 < nv M (f + 3) → 0 < t * nv M (f + 3) := fun V0 => Int.mul_pos (by omega) V0
  obtain ⟨⟨k1, k2⟩, ⟨r2, r3⟩, ⟨f0, f1⟩, -⟩ := H2.pl
  rw [f0, f1, (F2.nt mf1).2.1]
  refine ⟨F2.kd mf1, fun y => ⟨F2.kd mf3, (f_put0 (d := d + 4) ⟨by decide, by decide⟩ H2.1 F2 mf3).mono (fun M13 k => ?_)⟩, fun y => ⟨k1, ?_⟩⟩
  · obtain ⟨c3, v3⟩ := k
    obtain ⟨n3, H3⟩ := H2.st (Or.inr (Or.inr rfl)) c3
    have z0 : nv M7 (f + 1) = 0 := (F2.sz0 mf1).1 (by omega)
    have z1 := (c3.v F2 mf1 (fun e => f13 e.symm)).trans z0
    have ti : mI M13 f = mI M7 f := ((c3.nl (I := fun _ => False) (r := False) noI H2.2.2.1.z9).frp F2 H2.2.2.2.1).2 (fun e => e)
    exact ⟨c3.ok, N2.trans n3, by rw [ti]; exact t2, fun _ => by rw [v3]; decide, by rw [z1]; exact A0, fun V0 => by rw [v3]; exact Vp V0, fun _ => by rw [z1, v3]; decide, by rw [z1, ← A2, z0, Int.zero_mul, Int.zero_mul], fun _ => by rw [z1, v3]; decide⟩
  · have Ap : 0 < nv M (f + 1) := Classical.byContradiction (fun u => y (by
      have := (F2.sz0 mf1).2 (by rw [A2]; omega)
      omega))
    have sv : sz M7 (f + 3) ≤ s + 1 := F2.szv mf3 (by rw [V2]; exact (mul_sz ⟨Vn, Int.lt_of_lt_of_le (hF.vlt mf3) (p30m s3)⟩ t1).2)
    have sa : sz M7 (f + 1) ≤ s := F2.szv mf1 (by rw [A2]; exact Int.lt_of_lt_of_le (hF.vlt mf1) (p30m s1))
    have h1 := hW (z + 1) (Or.inl (Or.inl rfl))
    have h3 := hW (z + 3) (Or.inl (Or.inr (Or.inl rfl)))
    have h5 := hW (z + 5) (Or.inl (Or.inr (Or.inr (Or.inl rfl))))
    have h7 := hW (z + 7) (Or.inl (Or.inr (Or.inr (Or.inr rfl))))
    refine (f_common (d := d) (S := s + 1) H2.1 F2 H2.2.2.1 mf1 mf3 nf.1 nf.2 (Or.inl (by rw [A2]; exact Ap)) (by omega) sv (by omega) ⟨h1, h3, h5, h7⟩).mono (fun r M17 k => ?_)
    obtain ⟨er, N17, q0, d1, d2, gr⟩ := k
    have n3 : NL L W (Tre z f) (fun x => x = f) False z M7 M17 := N17.mono F2 (fun t ht => Or.inl ht) h.tre (fun _ e => e.elim) H2.iw (fun e => e)
    have H3 := H2.nl n3
    have A3 := (N17.num F2 mf1 nf.1).2
    have V3 := (N17.num F2 mf3 nf.2).2
    have t3 : mI M17 f 2 = 1 := by rw [(N17.frp F2 H2.2.2.2.1).2 (fun e => e)]; exact t2
    have mr : r ∈ L := h.2.2.1.t4 r (er.elim Or.inl (fun e => Or.inr (Or.inl e)))
    rw [A2] at A3 d1
    rw [V2] at V3 d2
    rw [A2, V2] at gr
    refine ⟨H3.1, H3.2.1.kd mr, (s_Na_isOne (d := d + 4) H3.1 (H3.2.1.nt mr)).mono (fun x22 M21 k => ?_)⟩
    obtain ⟨e21, x01, x1v⟩ := k
    rw [e21]
    refine ⟨m_b32 x01, H3.1, fun _ => ?_, fun x1 => ?_⟩
    · exact s_rdDiv (d := d) (s := s + 3) H3 er nf A3.2 V3.2 rfl q0 d1 d2 Ap (by omega) (by omega) w1 w3 h5 h7 (fun M' Q1 Q2 g1 g2 g3 g4 g5 g6 g7 g8 => by
        have hq : 1 ≤ nv M17 r := q0
        have m1 := Int.mul_le_mul_of_nonneg_right hq g7
        have m2 := Int.mul_le_mul_of_nonneg_right hq g8
        have Q2p : 0 < nv M (f + 3) → 0 < Q2 := fun V0 => Classical.byContradiction (fun u => by
          have V1 := Vp V0
          have : Q2 = 0 := by omega
          rw [this, Int.mul_zero] at g6
          omega)
        refine ⟨(N2.trans n3).trans g1, by rw [g2]; exact t3, fun V0 => by rw [g4]; exact Q2p V0, by rw [g3]; omega, fun _ => by rw [g4]; omega, fun le => ?_, by rw [g3, g4, g6, g5]; grind, fun _ => by rw [g3, g4]; exact gcd_left q0 g5 g6 gr⟩
        rw [g3, g4]
        rw [g5, g6] at le
        exact Int.le_of_mul_le_mul_left le q0)
    · exact ⟨N2.trans n3, t3, fun V0 => by rw [V3.2]; exact Vp V0, by rw [A3.2]; exact Int.le_refl _, fun _ => by rw [V3.2]; exact Int.le_refl _, fun le => by rw [A3.2, V3.2]; exact le, by rw [A3.2, V3.2], fun _ => by
        have q1 : nv M17 r = 1 := x1v x1
        rw [q1] at gr
        rw [A3.2, V3.2]
        exact gcd_left (q := 1) (by decide) (Int.one_mul _).symm (Int.one_mul _).symm gr⟩
end NAY
end
section
/-! The Scales: fitting, whole parts, picking. -/
section NAZ
variable {G : mG} {d b c z n m w S x y B u g a R cn f s : Nat} {M M0 M' M1 M2 M3 : mM} {L : List Nat} {W : Nat → Nat} {T T' I I' : Nat → Prop} {sh t : Int}
/-- what fitting leaves behind -/
def ftQ (L : List Nat) (W : Nat → Nat) (z f : Nat) (t A V : Int) (M : mM) (x : Int) (M' : mM) : Prop := NL L W (Tre z f) (fun x => x = f) False z M M' ∧ mI M' f 2 = 1 ∧ (0 < V → 0 < nv M' (f + 3)) ∧ (x = 0 ∨ x = 1) ∧ (x ≠ 0 → nv M' (f + 3) < 2 ^ 480) ∧ (A ≤ t * V → nv M' (f + 1) ≤ nv M' (f + 3)) ∧ (0 < V → nv M' (f + 1) * (t * V) = A * nv M' (f + 3) ∧ (x = 0 → ¬ ft9 ((A : Rat) * ((t * V : Int) : Rat)⁻¹)))
theorem s_ft74 {A V : Int} (h : Rds L W z f M) (N : NL L W (Tre z f) (fun x => x = f) False z M0 M) (t2 : mI M f 2 = 1) (V0 : 0 < V → 0 < nv M (f + 3)) (le : A ≤ t * V → nv M (f + 1) ≤ nv M (f + 3)) (ex : 0 < V → nv M (f + 1) * (t * V) = A * nv M (f + 3) ∧ (2 ^ 480 ≤ nv M (f + 3) → ¬ ft9 ((A : Rat) * ((t * V : Int) : Rat)⁻¹))) : h_Sc_fits_74 G (d + 1) f M (ftQ L W z f t A V M0) := by
  obtain ⟨⟨k1, k2⟩, -, ⟨f0, f1⟩, -, -, mf1, mf3⟩ := h.pl
  refine k_Sc_fits_74 h.1 ?_
  rw [f1]
  refine ⟨k2, h.2.1.kd mf3, (s_Na_bits (d := d) h.1 (h.2.1.nt mf3)).mono (fun x M37 k => ?_)⟩
  obtain ⟨e, n, en, n1, n2, n3, n4⟩ := k
  have cb := h.2.1.cb mf3
  have sc := h.2.1.sc mf3
  have n2' : nv M (f + 3) < 2 ^ n := n2
  rw [e]
  refine ⟨⟨by omega, by omega⟩, h.1, fun v41 e41 => ⟨N, t2, V0, ?_, fun v0 => ?_, le, fun vp => ⟨(ex vp).1, fun v0 => (ex vp).2 ?_⟩⟩⟩
  · rw [e41]; split <;> omega
  · by_cases c : 480 < x
    · rw [if_pos c] at e41; exact absurd e41 v0
    · exact Int.lt_of_lt_of_le n2' (p2m (by omega))
  · by_cases c : 480 < x
    · have s0 : 0 < sz M (f + 3) := Classical.byContradiction (fun z => by
        have := n4 (by omega)
        omega)
      have n3' : 2 ^ (n - 1) ≤ nv M (f + 3) := (n3 s0).2
      exact Int.le_trans (p2m (by omega)) n3'
    · rw [if_neg c, v0] at e41
      exact absurd e41 (by decide)
theorem f_fits (h : Rds L W z f M) (nf : ¬ T4 z (f + 1) ∧ ¬ T4 z (f + 3)) (ht : mI M f 2 = t) (t1 : 1 ≤ t ∧ t < 1073741824) (s1 : sz M (f + 1) ≤ s) (s3 : sz M (f + 3) ≤ s) (hs : s ≤ 14000) (hW : ∀ x, Tre z f x → s + 4 ≤ W x) : Ci G y_Sc_fits (d + 6) [vr z, vr f] M (ftQ L W z f t (nv M (f + 1)) (nv M (f + 3)) M) := by
  obtain ⟨⟨k1, k2⟩, ⟨r2, r3⟩, ⟨f0, f1⟩, m5, m7, mf1, mf3⟩ := h.pl
  have hF := h.2.1
  have w3 := hW _ (Or.inr (Or.inr rfl))
  have f13 : f + 3 ≠ f + 1 := nez (by decide)
  have A0 := hF.nn0 mf1
  refine k_Sc_fits h.1 ?_
  rw [f1, ht]
  refine ⟨k2, hF.kd mf3, (f_multiply (d := d + 3) t1 h.1 hF mf3 (by omega)).mono (fun M3 k => ?_)⟩
  obtain ⟨c1, v1⟩ := k
  obtain ⟨n1, H1⟩ := h.st (Or.inr (Or.inr rfl)) c1
  have a1 := (c1.num hF mf1 (fun e => f13 e.symm)).2.2.2
  refine ⟨c1.ok, H1.2.2.2.1.1, fun M7 e7 => ?_⟩
  obtain ⟨n2, t2, vv⟩ := nl_times (T := Tre z f) (I := fun x => x = f) (r := False) (z := z) c1.ok H1.2.1 H1.2.2.2 H1.2.2.1.z9 ⟨by decide, by decide⟩ e7 h.tre rfl H1.iw
  have H2 := H1.nl n2
  have N2 := n1.trans n2
  have F2 := H2.2.1
  have A2 : nv M7 (f + 1) = nv M (f + 1) := by rw [vv _ mf1, a1.2.1]
  have V2 : nv M7 (f + 3) = t * nv M (f + 3) := by rw [vv _ mf3, v1]
  have Vn := hF.nn0 mf3
  have Vp : 0 < nv M (f + 3) → 0 < t * nv M (f + 3) := fun V0 => Int.mul_pos (by omega) V0
  have sv : sz M7 (f + 3) ≤ s + 1 := F2.szv mf3 (by rw [V2]; exact (mul_sz ⟨Vn, Int.lt_of_lt_of_le (hF.vlt mf3) (p30m s3)⟩ t1).2)
  have sa : sz M7 (f + 1) ≤ s := F2.szv mf1 (by rw [A2]; exact Int.lt_of_lt_of_le (hF.vlt mf1) (p30m s1))
  obtain ⟨⟨k1, k2⟩, ⟨r2, r3⟩, ⟨f0, f1⟩, -⟩ := H2.pl
  have pt : ∀ {M8 : mM} {v : Int}, (v = 0 ∨ v = 1) → v * (t * nv M (f + 3)) = nv M (f + 1) → (NL L W (T2 f) (fun x => x = f) False z M7 M8 ∧ nv M8 (f + 1) = v ∧ nv M8 (f + 3) = 1 ∧ mI M8 f 2 = 1) → mOk M8 ∧ h_Sc_fits_74 G (d + 5) f M8 (ftQ L W z f t (nv M (f + 1)) (nv M (f + 3)) M) := by
    intro M8 v hv hA k
    obtain ⟨n3, p1, p3, p2⟩ := k
    have n3' : NL L W (Tre z f) (fun x => x = f) False z M7 M8 := n3.mono F2 (fun t ht => Or.inr ht) h.tre (fun _ e => e) H2.iw (fun e => e)
    exact ⟨n3.ok, s_ft74 (d := d + 4) (H2.nl n3') (N2.trans n3') p2 (fun _ => by rw [p3]; decide) (fun _ => by rw [p1, p3]; omega) (fun _ => ⟨by rw [p1, p3, Int.mul_one]; exact hA, fun u => by rw [p3] at u; exact absurd u (by decide +kernel)⟩)⟩
  rw [f0, f1, (F2.nt mf1).2.1]
  refine ⟨F2.kd mf1, fun y => (f_Fr_put0 (d := d + 4) ⟨by decide, by decide⟩ H2.1 F2 H2.2.2.2 H2.2.2.1.z9).mono (fun M12 k => pt (Or.inl rfl) (by rw [Int.zero_mul, ← A2]; exact ((F2.sz0 mf1).1 (by omega)).symm) k), fun y => (f_order (d := d + 5) H2.1 F2 mf1 mf3).mono (fun x16 M15 k => ?_)⟩
  obtain ⟨e15, ox⟩ := k
  rw [e15, f1]
  refine ⟨by unfold orQ at ox; exact ⟨by omega, by omega⟩, H2.1, fun y => ⟨k2, (f_Fr_put0 (d := d + 4) ⟨by decide, by decide⟩ H2.1 F2 H2.2.2.2 H2.2.2.1.z9).mono (fun M21 k => pt (Or.inr rfl) (by
    rw [A2, V2] at ox
    unfold orQ at ox
    rw [Int.one_mul]
    omega) k)⟩, fun y => ⟨k2, F2.kd mf3, (s_Na_bits (d := d + 4) H2.1 (F2.nt mf3)).mono (fun x27 M26 k => ?_)⟩⟩
  obtain ⟨e26, nb, en, nb1, nb2, -⟩ := k
  have nb2' : nv M7 (f + 3) < 2 ^ nb := nb2
  have cb := F2.cb mf3
  have sc := F2.sc mf3
  rw [e26]
  refine ⟨⟨by omega, by omega⟩, H2.1, fun le9 => s_ft74 (d := d + 4) H2 N2 t2 (fun V0 => by rw [V2]; exact Vp V0) (fun le => by rw [A2, V2]; exact le) (fun _ => ⟨by rw [A2, V2], fun u => by
    have := Int.lt_of_lt_of_le nb2' (p2m (show nb ≤ 480 by omega))
    omega⟩), fun _ => ⟨k1, (f_reduce (d := d) (s := s + 1) (t := 1) H2 nf t2 ⟨by decide, by decide⟩ (by omega) sv (by omega) (fun x hx => by have := hW x hx; omega)).mono (fun M32 k => ?_)⟩⟩
  obtain ⟨n4, p1, p2, p3, p4, p5, p6, p7⟩ := k
  refine ⟨n4.ok, s_ft74 (d := d + 4) (H2.nl n4) (N2.trans n4) p1 (fun V0 => p2 (by rw [V2]; exact Vp V0)) (fun le => p5 (by rw [A2, V2, Int.one_mul]; exact le)) (fun V0 => ?_)⟩
  have V0' : 0 < nv M7 (f + 3) := by rw [V2]; exact Vp V0
  have p7' := p7 V0'
  have p2' := p2 V0'
  rw [Int.one_mul, A2, V2] at p6
  exact ⟨p6, fun u => nft_of (rat_cross (Vp V0) p6) (n4.nf.nn0 mf1) p2' p7' (Or.inr u)⟩
/-- how often a divisor is in a number -/
theorem f_wholePart (hO : mOk M) (hF : NF L W M) (hS : SK L M z) (ha : a ∈ L) (hb : b ∈ L) (ab : a ≠ b) (na : ¬ T4 z a) (nb : ¬ T4 z b) (b0 : 0 < nv M b) (wa : sz M a + 2 ≤ W a) (w5 : sz M a + 1 ≤ W (z + 5)) (w7 : sz M b + 1 ≤ W (z + 7)) : Ci G y_Sc_wholePart (d + 4) [vr z, vr a, vr b] M (fun x M' => NC L W (fun x => x = a ∨ x = z + 5 ∨ x = z + 7) M M' ∧ nv M' a < nv M b ∧ 0 ≤ x ∧ x < 1073741824 ∧ nv M a = nv M b * nv M' (z + 5) + nv M' a ∧ (nv M' (z + 5) < 1073741824 → x = nv M' (z + 5))) := by
  obtain ⟨⟨k1, k1'⟩, ⟨-, -, r2, r3, -⟩, -, -, -, ⟨-, -, m5, m7, -⟩, -⟩ := id hS
  have a5 : a ≠ z + 5 := fun e => na (Or.inr (Or.inr (Or.inl e)))
  have a7 : a ≠ z + 7 := fun e => na (Or.inr (Or.inr (Or.inr e)))
  have b5 : b ≠ z + 5 := fun e => nb (Or.inr (Or.inr (Or.inl e)))
  have b7 : b ≠ z + 7 := fun e => nb (Or.inr (Or.inr (Or.inr e)))
  refine k_Sc_wholePart hO ?_
  rw [r2, r3]
  refine ⟨k1, hF.kd ha, (f_divide (d := d) hO hF ha hb m5 m7 ab a5 a7 b5 b7 (nez (by decide)) b0 wa w5 w7).mono (fun M3 k => ?_)⟩
  obtain ⟨c, v, l⟩ := k
  have hF3 := c.nf
  have hS3 := (c.nl (I := fun _ => False) (r := False) noI hS.z9).sk hF hS
  obtain ⟨⟨j1, -⟩, ⟨-, -, j2, -⟩, -⟩ := id hS3
  have t5 := hF3.nt m5
  have q := t5.1.2.2.2.2.1.1
  have cc : mN M3 (mR M3 (z + 5) 0) = cp M3 (z + 5) := rfl
  have q0 := hF3.nn0 m5
  rw [j2, t5.2.1, cc]
  refine ⟨c.ok, j1, hF3.kd m5, fun _ => ⟨hF3.ka m5, ⟨by omega, by omega⟩⟩, fun v11 e11 => ?_⟩
  by_cases u : sz M3 (z + 5) = 0
  · rw [if_pos (by omega)] at e11
    rw [e11]
    exact ⟨c, l, by decide, by decide, v, fun _ => ((hF3.sz0 m5).1 u).symm⟩
  · rw [if_neg (by omega)] at e11
    have lb := t5.2.2.2.1 0 (by omega)
    rw [e11]
    refine ⟨c, l, lb.1, lb.2, v, fun lt => ?_⟩
    have s1 : sz M3 (z + 5) ≤ 1 := hF3.szv m5 (by rw [show (2 : Int) ^ (30 * 1) = 1073741824 by decide]; exact lt)
    unfold nv
    rw [show sz M3 (z + 5) = 1 by omega]
    show _ = 0 + mI M3 (mR M3 (z + 5) 0) 0 * 2 ^ (30 * 0)
    rw [show (2 : Int) ^ (30 * 0) = 1 by decide]
    omega
end NAZ
end
