section
/-! The Scales: a command is weighed. -/
section NAU
variable {G : mG} {d a b c z n m w f S x B u : Nat} {M M' M1 M2 M3 : mM} {L : List Nat} {W : Nat → Nat} {T T' I I' : Nat → Prop} {r r' : Prop} {sh : Int}
/-- the numbers that weighing changes -/
def Twg (z w x : Nat) : Prop := T4 z x ∨ x = z + 11 ∨ x = z + 14 ∨ x = z + 16 ∨ x = w + 1 ∨ x = w + 3
/-- all is in its place -/
def Wsc (L : List Nat) (W : Nat → Nat) (z w f : Nat) (M : mM) : Prop := mOk M ∧ NF L W M ∧ SK L M z ∧ FrL L M w ∧ FrL L M f
/-- the worth is not the Scales' own scratch, a row is neither -/
def Dwg (z w f : Nat) : Prop := (¬ T4 z (w + 1) ∧ ¬ T4 z (w + 3) ∧ w + 1 ≠ z + 11 ∧ w + 1 ≠ z + 14 ∧ w + 1 ≠ z + 16 ∧ w + 3 ≠ z + 11 ∧ w + 3 ≠ z + 14 ∧ w + 3 ≠ z + 16) ∧ (¬ Twg z w (f + 1) ∧ ¬ Twg z w (f + 3) ∧ f ≠ w)
theorem Wsc.tw (h : Wsc L W z w f M) : ∀ t, Twg z w t → t ∈ L := by
  intro t ht
  obtain ⟨-, -, hS, hw, -⟩ := h
  have k := hS.2.2.2.2.2.1
  rcases ht with u | u | u | u | u | u
  · exact hS.t4 t u
  · rw [u]; exact k.2.2.2.2.2.1
  · rw [u]; exact k.2.2.2.2.2.2.1
  · rw [u]; exact k.2.2.2.2.2.2.2
  · rw [u]; exact hw.2.1
  · rw [u]; exact hw.2.2
theorem Wsc.iw (h : Wsc L W z w f M) : ∀ x, (fun x => x = w) x → x < mZ M ∧ mK M x = 11 := fun x u => by
  rw [u]
  exact ⟨h.2.2.2.1.1.2.2, h.2.2.2.1.1.1⟩
theorem Wsc.nl (h : Wsc L W z w f M) (k : NL L W (Twg z w) (fun _ => False) False z M M') : Wsc L W z w f M' := by
  obtain ⟨h1, h2, h3, h4, h5⟩ := h
  exact ⟨k.ok, k.nf, k.sk h2 h3, k.frl h2 h4, k.frl h2 h5⟩
theorem Wsc.st (h : Wsc L W z w f M) (ha : Twg z w a) (c : NC L W (fun x => x = a) M M') : NL L W (Twg z w) (fun _ => False) False z M M' ∧ Wsc L W z w f M' := by
  have n : NL L W (Twg z w) (fun _ => False) False z M M' := (c.nl (I := fun _ => False) (r := False) noI h.2.2.1.z9).mono h.2.1 (fun t ht => by rw [ht]; exact ha) h.tw (fun _ u => u) noI (fun u => u)
  exact ⟨n, h.nl n⟩
theorem Wsc.st3 (h : Wsc L W z w f M) (ha : Twg z w a ∧ Twg z w b ∧ Twg z w c) (k : NC L W (fun x => x = a ∨ x = b ∨ x = c) M M') : NL L W (Twg z w) (fun _ => False) False z M M' ∧ Wsc L W z w f M' := by
  have n : NL L W (Twg z w) (fun _ => False) False z M M' := (k.nl (I := fun _ => False) (r := False) noI h.2.2.1.z9).mono h.2.1 (fun t ht => by
    rcases ht with u | u | u
    · rw [u]; exact ha.1
    · rw [u]; exact ha.2.1
    · rw [u]; exact ha.2.2) h.tw (fun _ u => u) noI (fun u => u)
  exact ⟨n, h.nl n⟩
/-- references and kinds -/
theorem Wsc.pl (h : Wsc L W z w f M) : (mK M z = 9 ∧ mK M w = 11 ∧ mK M f = 11) ∧ (mR M z 2 = z + 5 ∧ mR M z 3 = z + 7 ∧ mR M z 5 = z + 11 ∧ mR M z 7 = z + 14 ∧ mR M z 8 = z + 16) ∧ (mR M w 0 = w + 1 ∧ mR M w 1 = w + 3) ∧ (mR M f 0 = f + 1 ∧ mR M f 1 = f + 3) ∧ (z + 5 ∈ L ∧ z + 7 ∈ L ∧ z + 11 ∈ L ∧ z + 14 ∈ L ∧ z + 16 ∈ L ∧ w + 1 ∈ L ∧ w + 3 ∈ L ∧ f + 1 ∈ L ∧ f + 3 ∈ L) := by
  obtain ⟨-, -, ⟨k1, ⟨-, -, k2, k3, -, k5, -, k7, k8⟩, -, -, -, ⟨-, -, p1, p2, -, p3, p4, p5⟩, -⟩, ⟨⟨q1, q2, -⟩, q3, q4⟩, ⟨⟨r1, r2, -⟩, r3, r4⟩⟩ := h
  exact ⟨⟨k1.1, q1, r1⟩, ⟨k2, k3, k5, k7, k8⟩, q2, r2, p1, p2, p3, p4, p5, q3, q4, r3, r4⟩
theorem dv_ex {U r Q e : Int} (hr : 0 < r) (hd : r ∣ U) (h : U = r * Q + e) (he : 0 ≤ e ∧ e < r) : U = r * Q := by
  have h1 : r ∣ e := by
    have := Int.dvd_sub hd (Int.dvd_mul_right r Q)
    rw [show U - r * Q = e by omega] at this
    exact this
  have h2 : e = 0 := Classical.byContradiction (fun u => by
    have := Int.le_of_dvd (by omega) h1
    omega)
  omega
theorem qb {U r Q : Int} {u : Nat} (hr : 0 < r) (hQ : 0 ≤ Q) (h : U = r * Q) (hU : U < 2 ^ (30 * u)) : Q < 2 ^ (30 * u) := by
  have := Int.mul_le_mul_of_nonneg_right (show 1 ≤ r by omega) hQ
  omega
theorem pb {x y : Int} {p q : Nat} (hx : 0 ≤ x ∧ x < 2 ^ (30 * p)) (hy : 0 ≤ y ∧ y < 2 ^ (30 * q)) : x * y < 2 ^ (30 * (p + q)) := by
  have h1 : x * y ≤ 2 ^ (30 * p) * y := Int.mul_le_mul_of_nonneg_right (by omega) hy.1
  have h2 : (2 : Int) ^ (30 * p) * y < 2 ^ (30 * p) * 2 ^ (30 * q) := Int.mul_lt_mul_of_pos_left hy.2 (p30p p)
  rw [p30a]
  omega
theorem nez {z i j : Nat} (h : i ≠ j) : z + i ≠ z + j := by omega
theorem Dwg.nx (h : Dwg z w f) : (¬ (w + 1 = z + 14 ∨ w + 1 = z + 5 ∨ w + 1 = z + 7) ∧ ¬ (w + 1 = z + 16 ∨ w + 1 = z + 5 ∨ w + 1 = z + 7)) ∧ (¬ (w + 3 = z + 14 ∨ w + 3 = z + 5 ∨ w + 3 = z + 7) ∧ ¬ (w + 3 = z + 16 ∨ w + 3 = z + 5 ∨ w + 3 = z + 7)) ∧ (¬ (z + 14 = z + 16 ∨ z + 14 = z + 5 ∨ z + 14 = z + 7)) := by
  obtain ⟨⟨h1, h2, -, h4, h5, -, h7, h8⟩, -⟩ := h
  unfold T4 at h1 h2
  exact ⟨⟨by omega, by omega⟩, ⟨by omega, by omega⟩, by omega⟩
theorem r_n {r : Nat} (er : r = z + 1 ∨ r = z + 3) : (r ≠ z + 5 ∧ r ≠ z + 7 ∧ r ≠ z + 14 ∧ r ≠ z + 16) ∧ ¬ (r = z + 14 ∨ r = z + 5 ∨ r = z + 7) ∧ ¬ (r = z + 16 ∨ r = z + 5 ∨ r = z + 7) := by rcases er with e | e <;> subst e <;> omega
/-- room -/
theorem wg_in (hW : ∀ x, Twg z w x → B ≤ W x) (b1 : a + S + 3 ≤ B) (b2 : u + S + 3 ≤ B) (hB : B ≤ 16000) : (u + S ≤ 16000 ∧ W4 W z (u + S)) ∧ (u ≤ W (z + 14) ∧ u + 2 ≤ W (z + 14) ∧ u + 1 ≤ W (z + 5) ∧ u + 1 ≤ W (z + 7)) ∧ (S ≤ W (z + 16) ∧ S + 2 ≤ W (z + 16) ∧ S + 1 ≤ W (z + 5)) ∧ (a + S ≤ W (z + 11) ∧ a + S ≤ W (w + 1) ∧ S + u ≤ W (z + 11) ∧ a + S + 1 ≤ W (w + 1) ∧ S + u + 1 ≤ W (w + 1) ∧ u + S ≤ W (z + 11) ∧ u + S ≤ W (w + 3)) := by
  have W5 := hW (z + 5) (Or.inl (Or.inr (Or.inr (Or.inl rfl))))
  have W7 := hW (z + 7) (Or.inl (Or.inr (Or.inr (Or.inr rfl))))
  have W11 := hW (z + 11) (Or.inr (Or.inl rfl))
  have W14 := hW (z + 14) (Or.inr (Or.inr (Or.inl rfl)))
  have W16 := hW (z + 16) (Or.inr (Or.inr (Or.inr (Or.inl rfl))))
  have Ww1 := hW (w + 1) (Or.inr (Or.inr (Or.inr (Or.inr (Or.inl rfl)))))
  have Ww3 := hW (w + 3) (Or.inr (Or.inr (Or.inr (Or.inr (Or.inr rfl)))))
  have W1 := hW (z + 1) (Or.inl (Or.inl rfl))
  have W3 := hW (z + 3) (Or.inl (Or.inr (Or.inl rfl)))
  unfold W4
  omega
/-- the sum and the product, at the end -/
theorem s_wgD {Q : mM → Prop} {Q1 Q2 A U : Int} (h : Wsc L W z w f M) (dw : Dwg z w f) (hsh : 0 ≤ sh ∧ sh < 1073741824) (hA : A * Q2 < 2 ^ (30 * (a + S))) (U0 : 0 ≤ U) (hU : U < 2 ^ (30 * u)) (X0 : 0 ≤ nv M (f + 1)) (hFa : nv M (f + 1) < 2 ^ (30 * S)) (Q1n : 0 ≤ Q1) (Q1b : Q1 < 2 ^ (30 * u)) (Q2n : 0 ≤ Q2) (Q2b : Q2 < 2 ^ (30 * S)) (A9 : nv M (w + 1) = A * Q2) (U9 : nv M (w + 3) = U) (P9 : nv M (z + 14) = Q1) (Q9 : nv M (z + 16) = Q2) (hW : ∀ x, Twg z w x → B ≤ W x) (b1 : a + S + 3 ≤ B) (b2 : u + S + 3 ≤ B) (hB : B ≤ 16000)
    (hQ : ∀ M', NL L W (Twg z w) (fun _ => False) False z M M' → nv M' (w + 1) = A * Q2 + sh * (nv M (f + 1) * Q1) → nv M' (w + 3) = U * Q2 → Q M') : mK M z = 9 ∧ mK M f = 11 ∧ mK M (mR M z 5) = 10 ∧ Cv G y_Na_putProduct (d + 4) [vr (mR M z 5), vr (mR M f 0), vr (mR M z 7)] M (fun M103 => mOk M103 ∧ (mK M103 w = 11 ∧ mK M103 z = 9 ∧ mK M103 (mR M103 w 0) = 10 ∧ Cv G y_Na_add (d + 4) [vr (mR M103 w 0), vr (mR M103 z 5), vi sh] M103 (fun M109 => mOk M109 ∧ (mK M109 z = 9 ∧ mK M109 w = 11 ∧ mK M109 (mR M109 z 5) = 10 ∧ Cv G y_Na_putProduct (d + 4) [vr (mR M109 z 5), vr (mR M109 w 1), vr (mR M109 z 8)] M109 (fun M115 => mOk M115 ∧ (mK M115 w = 11 ∧ mK M115 z = 9 ∧ mK M115 (mR M115 w 1) = 10 ∧ Cv G y_Na_put1 (d + 4) [vr (mR M115 w 1), vr (mR M115 z 5)] M115 (fun M121 => mOk M121 ∧ (Q M121)))))))) := by
  obtain ⟨⟨d1, d2, d3, d4, d5, d6, d7, d8⟩, d9, d10, d11⟩ := id dw
  obtain ⟨hO, hF, hS, hw, hf⟩ := id h
  obtain ⟨⟨k1, k2, k3⟩, ⟨r2, r3, r5, r7, r8⟩, ⟨w0, w1⟩, ⟨f0, f1⟩, m5, m7, m11, m14, m16, mw1, mw3, mf1, mf3⟩ := h.pl
  have t5 : Twg z w (z + 5) := Or.inl (Or.inr (Or.inr (Or.inl rfl)))
  have t7 : Twg z w (z + 7) := Or.inl (Or.inr (Or.inr (Or.inr rfl)))
  have t11 : Twg z w (z + 11) := Or.inr (Or.inl rfl)
  have t14 : Twg z w (z + 14) := Or.inr (Or.inr (Or.inl rfl))
  have t16 : Twg z w (z + 16) := Or.inr (Or.inr (Or.inr (Or.inl rfl)))
  have tw1 : Twg z w (w + 1) := Or.inr (Or.inr (Or.inr (Or.inr (Or.inl rfl))))
  have tw3 : Twg z w (w + 3) := Or.inr (Or.inr (Or.inr (Or.inr (Or.inr rfl))))
  have nf1 : ∀ x, Twg z w x → f + 1 ≠ x := fun x hx e => d9 (by rw [e]; exact hx)
  have nf3 : ∀ x, Twg z w x → f + 3 ≠ x := fun x hx e => d10 (by rw [e]; exact hx)
  obtain ⟨⟨i16, i4⟩, ⟨i14, i142, i5, i7⟩, ⟨j16, j162, j5⟩, ⟨i11, iw1, j11, iw11, jw11, l11, iw3⟩⟩ := wg_in (a := a) hW b1 b2 hB
  obtain ⟨⟨x1, x2⟩, ⟨x3, x4⟩, x5⟩ := dw.nx
  clear hW b1 b2 hB
  have sfa := hF.szv mf1 hFa
  have s149 : sz M (z + 14) ≤ u := hF.szv m14 (by rw [P9]; exact Q1b)
  have w13 : w + 3 ≠ w + 1 := nez (by decide)
  rw [r5, f0, r7]
  refine ⟨k1, k3, hF.kd m11, (f_putProduct (d := d + 1) hO hF m11 mf1 m14 (fun e => nf1 _ t11 e.symm) (nez (by decide)) (Nat.le_trans (Nat.add_le_add sfa s149) j11)).mono (fun M103 g => ?_)⟩
  obtain ⟨c10, v10⟩ := g
  obtain ⟨N10, H10⟩ := h.st t11 c10
  have F10 := H10.2.1
  obtain ⟨⟨k1, k2, k3⟩, ⟨r2, r3, r5, r7, r8⟩, ⟨w0, w1⟩, ⟨f0, f1⟩, -⟩ := H10.pl
  rw [P9] at v10
  have A10 := (c10.v hF mw1 d3).trans A9
  have Q10 := (c10.v hF m16 (nez (by decide))).trans Q9
  have U10 := (c10.v hF mw3 d6).trans U9
  have b10 := pb (x := nv M (f + 1)) (y := Q1) ⟨X0, hFa⟩ ⟨Q1n, Q1b⟩
  have s11' : sz M103 (z + 11) ≤ S + u := F10.szv m11 (by rw [v10]; exact b10)
  have sA10 : sz M103 (w + 1) ≤ a + S := F10.szv mw1 (by rw [A10]; exact hA)
  rw [w0, r5]
  refine ⟨H10.1, k2, k1, F10.kd mw1, (f_add (d := d + 1) hsh H10.1 F10 mw1 m11 d3 (Nat.le_trans (Nat.add_le_add_right sA10 1) iw11) (Nat.le_trans (Nat.add_le_add_right s11' 1) jw11)).mono (fun M109 g => ?_)⟩
  obtain ⟨c11, v11⟩ := g
  obtain ⟨n11, H11⟩ := H10.st tw1 c11
  have N11 := N10.trans n11
  have F11 := H11.2.1
  obtain ⟨⟨k1, k2, k3⟩, ⟨r2, r3, r5, r7, r8⟩, ⟨w0, w1⟩, ⟨f0, f1⟩, -⟩ := H11.pl
  rw [A10, v10] at v11
  have Q11 := (c11.v F10 m16 (fun e => d5 e.symm)).trans Q10
  have U11 := (c11.v F10 mw3 w13).trans U10
  have sU11 : sz M109 (w + 3) ≤ u := F11.szv mw3 (by rw [U11]; exact hU)
  have s1611 : sz M109 (z + 16) ≤ S := F11.szv m16 (by rw [Q11]; exact Q2b)
  rw [r5, w1, r8]
  refine ⟨H11.1, k1, k2, F11.kd m11, (f_putProduct (d := d + 1) H11.1 F11 m11 mw3 m16 (fun e => d6 e.symm) (nez (by decide)) (Nat.le_trans (Nat.add_le_add sU11 s1611) l11)).mono (fun M115 g => ?_)⟩
  obtain ⟨c12, v12⟩ := g
  obtain ⟨n12, H12⟩ := H11.st t11 c12
  have N12 := N11.trans n12
  have F12 := H12.2.1
  obtain ⟨⟨k1, k2, k3⟩, ⟨r2, r3, r5, r7, r8⟩, ⟨w0, w1⟩, ⟨f0, f1⟩, -⟩ := H12.pl
  rw [U11, Q11] at v12
  have A12 := (c12.v F11 mw1 d3).trans v11
  have b12 := pb (x := U) (y := Q2) ⟨U0, hU⟩ ⟨Q2n, Q2b⟩
  have s1112 : sz M115 (z + 11) ≤ u + S := F12.szv m11 (by rw [v12]; exact b12)
  rw [w1, r5]
  refine ⟨H12.1, k2, k1, F12.kd mw3, (f_put1 (d := d + 3) H12.1 F12 mw3 m11 d6 (Nat.le_trans s1112 iw3)).mono (fun M121 g => ?_)⟩
  obtain ⟨c13, v13⟩ := g
  obtain ⟨n13, H13⟩ := H12.st tw3 c13
  exact ⟨H13.1, hQ M121 (N12.trans n13) ((c13.v F12 mw1 (nez (by decide))).trans A12) (v13.trans v12)⟩
/-- the sum, from the quotients on -/
theorem s_wgC {Q : mM → Prop} {Q1 Q2 A U : Int} (h : Wsc L W z w f M) (dw : Dwg z w f) (hsh : 0 ≤ sh ∧ sh < 1073741824) (A0 : 0 ≤ A) (hA : A < 2 ^ (30 * a)) (U0 : 0 ≤ U) (hU : U < 2 ^ (30 * u)) (X0 : 0 ≤ nv M (f + 1)) (hFa : nv M (f + 1) < 2 ^ (30 * S)) (Q1n : 0 ≤ Q1) (Q1b : Q1 < 2 ^ (30 * u)) (Q2n : 0 ≤ Q2) (Q2b : Q2 < 2 ^ (30 * S)) (A7 : nv M (w + 1) = A) (U7 : nv M (w + 3) = U) (P7 : nv M (z + 14) = Q1) (v7 : nv M (z + 16) = Q2) (hW : ∀ x, Twg z w x → B ≤ W x) (b1 : a + S + 3 ≤ B) (b2 : u + S + 3 ≤ B) (hB : B ≤ 16000)
    (hQ : ∀ M', NL L W (Twg z w) (fun _ => False) False z M M' → nv M' (w + 1) = A * Q2 + sh * (nv M (f + 1) * Q1) → nv M' (w + 3) = U * Q2 → Q M') : mK M z = 9 ∧ mK M w = 11 ∧ mK M (mR M z 5) = 10 ∧ Cv G y_Na_putProduct (d + 4) [vr (mR M z 5), vr (mR M w 0), vr (mR M z 8)] M (fun M91 => mOk M91 ∧ (mK M91 w = 11 ∧ mK M91 z = 9 ∧ mK M91 (mR M91 w 0) = 10 ∧ Cv G y_Na_put1 (d + 4) [vr (mR M91 w 0), vr (mR M91 z 5)] M91 (fun M97 => mOk M97 ∧ (mK M97 z = 9 ∧ mK M97 f = 11 ∧ mK M97 (mR M97 z 5) = 10 ∧ Cv G y_Na_putProduct (d + 4) [vr (mR M97 z 5), vr (mR M97 f 0), vr (mR M97 z 7)] M97 (fun M103 => mOk M103 ∧ (mK M103 w = 11 ∧ mK M103 z = 9 ∧ mK M103 (mR M103 w 0) = 10 ∧ Cv G y_Na_add (d + 4) [vr (mR M103 w 0), vr (mR M103 z 5), vi sh] M103 (fun M109 => mOk M109 ∧ (mK M109 z = 9 ∧ mK M109 w = 11 ∧ mK M109 (mR M109 z 5) = 10 ∧ Cv G y_Na_putProduct (d + 4) [vr (mR M109 z 5), vr (mR M109 w 1), vr (mR M109 z 8)] M109 (fun M115 => mOk M115 ∧ (mK M115 w = 11 ∧ mK M115 z = 9 ∧ mK M115 (mR M115 w 1) = 10 ∧ Cv G y_Na_put1 (d + 4) [vr (mR M115 w 1), vr (mR M115 z 5)] M115 (fun M121 => mOk M121 ∧ (Q M121)))))))))))) := by
  have hW0 := hW
  obtain ⟨⟨d1, d2, d3, d4, d5, d6, d7, d8⟩, d9, d10, d11⟩ := id dw
  obtain ⟨hO, hF, hS, hw, hf⟩ := id h
  obtain ⟨⟨k1, k2, k3⟩, ⟨r2, r3, r5, r7, r8⟩, ⟨w0, w1⟩, ⟨f0, f1⟩, m5, m7, m11, m14, m16, mw1, mw3, mf1, mf3⟩ := h.pl
  have t5 : Twg z w (z + 5) := Or.inl (Or.inr (Or.inr (Or.inl rfl)))
  have t7 : Twg z w (z + 7) := Or.inl (Or.inr (Or.inr (Or.inr rfl)))
  have t11 : Twg z w (z + 11) := Or.inr (Or.inl rfl)
  have t14 : Twg z w (z + 14) := Or.inr (Or.inr (Or.inl rfl))
  have t16 : Twg z w (z + 16) := Or.inr (Or.inr (Or.inr (Or.inl rfl)))
  have tw1 : Twg z w (w + 1) := Or.inr (Or.inr (Or.inr (Or.inr (Or.inl rfl))))
  have tw3 : Twg z w (w + 3) := Or.inr (Or.inr (Or.inr (Or.inr (Or.inr rfl))))
  have nf1 : ∀ x, Twg z w x → f + 1 ≠ x := fun x hx e => d9 (by rw [e]; exact hx)
  have nf3 : ∀ x, Twg z w x → f + 3 ≠ x := fun x hx e => d10 (by rw [e]; exact hx)
  obtain ⟨⟨i16, i4⟩, ⟨i14, i142, i5, i7⟩, ⟨j16, j162, j5⟩, ⟨i11, iw1, j11, iw11, jw11, l11, iw3⟩⟩ := wg_in (a := a) hW b1 b2 hB
  obtain ⟨⟨x1, x2⟩, ⟨x3, x4⟩, x5⟩ := dw.nx
  clear hW
  have sA7 : sz M (w + 1) ≤ a := hF.szv mw1 (by rw [A7]; exact hA)
  have s167 : sz M (z + 16) ≤ S := hF.szv m16 (by rw [v7]; exact Q2b)
  rw [r5, w0, r8]
  refine ⟨k1, k2, hF.kd m11, (f_putProduct (d := d + 1) hO hF m11 mw1 m16 (fun e => d3 e.symm) (nez (by decide)) (Nat.le_trans (Nat.add_le_add sA7 s167) i11)).mono (fun M91 g => ?_)⟩
  obtain ⟨c8, v8⟩ := g
  obtain ⟨N8, H8⟩ := h.st t11 c8
  have F8 := H8.2.1
  obtain ⟨⟨k1, k2, k3⟩, ⟨r2, r3, r5, r7, r8⟩, ⟨w0, w1⟩, ⟨f0, f1⟩, -⟩ := H8.pl
  rw [A7, v7] at v8
  have P8 := (c8.v hF m14 (nez (by decide))).trans P7
  have Q8 := (c8.v hF m16 (nez (by decide))).trans v7
  have U8 := (c8.v hF mw3 d6).trans U7
  have b8 := pb (x := A) (y := Q2) ⟨A0, hA⟩ ⟨Q2n, Q2b⟩
  have s11 : sz M91 (z + 11) ≤ a + S := F8.szv m11 (by rw [v8]; exact b8)
  rw [w0, r5]
  refine ⟨H8.1, k2, k1, F8.kd mw1, (f_put1 (d := d + 3) H8.1 F8 mw1 m11 d3 (Nat.le_trans s11 iw1)).mono (fun M97 g => ?_)⟩
  obtain ⟨c9, v9⟩ := g
  obtain ⟨n9, H9⟩ := H8.st tw1 c9
  have N9 := N8.trans n9
  have X9 := (N9.num hF mf1 d9).2.2
  refine ⟨H9.1, s_wgD (d := d) (Q1 := Q1) (Q2 := Q2) (A := A) (U := U) H9 dw hsh b8 U0 hU (by rw [X9]; exact X0) (by rw [X9]; exact hFa) Q1n Q1b Q2n Q2b (v9.trans v8) ((c9.v F8 mw3 (nez (by decide))).trans U8) ((c9.v F8 m14 (fun e => d4 e.symm)).trans P8) ((c9.v F8 m16 (fun e => d5 e.symm)).trans Q8) hW0 b1 b2 hB (fun M' g1 g2 g3 => ?_)⟩
  rw [X9] at g2
  exact hQ M' (N9.trans g1) g2 g3
/-- the second quotient -/
theorem s_wgB {Q : mM → Prop} {Q1 A U V R : Int} {r : Nat} (h : Wsc L W z w f M) (dw : Dwg z w f) (hsh : 0 ≤ sh ∧ sh < 1073741824) (A0 : 0 ≤ A) (hA : A < 2 ^ (30 * a)) (U0 : 0 ≤ U) (hU : U < 2 ^ (30 * u)) (X0 : 0 ≤ nv M (f + 1)) (hFa : nv M (f + 1) < 2 ^ (30 * S)) (V4 : nv M (f + 3) = V) (hV : V < 2 ^ (30 * S)) (Q1n : 0 ≤ Q1) (Q1b : Q1 < 2 ^ (30 * u)) (A7 : nv M (w + 1) = A) (U7 : nv M (w + 3) = U) (v4 : nv M (z + 14) = Q1) (er : r = z + 1 ∨ r = z + 3) (R4 : nv M r = R) (r0 : 0 < R) (rB : R < 2 ^ (30 * (u + S))) (rd2 : R ∣ V) (hW : ∀ x, Twg z w x → B ≤ W x) (b1 : a + S + 3 ≤ B) (b2 : u + S + 3 ≤ B) (hB : B ≤ 16000)
    (hQ : ∀ M' Q2, NL L W (Twg z w) (fun _ => False) False z M M' → nv M' (w + 1) = A * Q2 + sh * (nv M (f + 1) * Q1) → nv M' (w + 3) = U * Q2 → V = R * Q2 → 0 ≤ Q2 → Q M') : mK M z = 9 ∧ mK M f = 11 ∧ mK M (mR M z 8) = 10 ∧ Cv G y_Na_put1 (d + 4) [vr (mR M z 8), vr (mR M f 1)] M (fun M75 => mOk M75 ∧ (mK M75 z = 9 ∧ mK M75 (mR M75 z 8) = 10 ∧ Cv G y_Na_divide (d + 4) [vr (mR M75 z 8), vr r, vr (mR M75 z 2), vr (mR M75 z 3)] M75 (fun M80 => mOk M80 ∧ (mK M80 z = 9 ∧ mK M80 (mR M80 z 8) = 10 ∧ Cv G y_Na_put1 (d + 4) [vr (mR M80 z 8), vr (mR M80 z 2)] M80 (fun M85 => mOk M85 ∧ (mK M85 z = 9 ∧ mK M85 w = 11 ∧ mK M85 (mR M85 z 5) = 10 ∧ Cv G y_Na_putProduct (d + 4) [vr (mR M85 z 5), vr (mR M85 w 0), vr (mR M85 z 8)] M85 (fun M91 => mOk M91 ∧ (mK M91 w = 11 ∧ mK M91 z = 9 ∧ mK M91 (mR M91 w 0) = 10 ∧ Cv G y_Na_put1 (d + 4) [vr (mR M91 w 0), vr (mR M91 z 5)] M91 (fun M97 => mOk M97 ∧ (mK M97 z = 9 ∧ mK M97 f = 11 ∧ mK M97 (mR M97 z 5) = 10 ∧ Cv G y_Na_putProduct (d + 4) [vr (mR M97 z 5), vr (mR M97 f 0), vr (mR M97 z 7)] M97 (fun M103 => mOk M103 ∧ (mK M103 w = 11 ∧ mK M103 z = 9 ∧ mK M103 (mR M103 w 0) = 10 ∧ Cv G y_Na_add (d + 4) [vr (mR M103 w 0), vr (mR M103 z 5), vi sh] M103 (fun M109 => mOk M109 ∧ (mK M109 z = 9 ∧ mK M109 w = 11 ∧ mK M109 (mR M109 z 5) = 10 ∧ Cv G y_Na_putProduct (d + 4) [vr (mR M109 z 5), vr (mR M109 w 1), vr (mR M109 z 8)] M109 (fun M115 => mOk M115 ∧ (mK M115 w = 11 ∧ mK M115 z = 9 ∧ mK M115 (mR M115 w 1) = 10 ∧ Cv G y_Na_put1 (d + 4) [vr (mR M115 w 1), vr (mR M115 z 5)] M115 (fun M121 => mOk M121 ∧ (Q M121)))))))))))))))))) := by
  have hW0 := hW
  obtain ⟨⟨d1, d2, d3, d4, d5, d6, d7, d8⟩, d9, d10, d11⟩ := id dw
  obtain ⟨hO, hF, hS, hw, hf⟩ := id h
  obtain ⟨⟨k1, k2, k3⟩, ⟨r2, r3, r5, r7, r8⟩, ⟨w0, w1⟩, ⟨f0, f1⟩, m5, m7, m11, m14, m16, mw1, mw3, mf1, mf3⟩ := h.pl
  have t5 : Twg z w (z + 5) := Or.inl (Or.inr (Or.inr (Or.inl rfl)))
  have t7 : Twg z w (z + 7) := Or.inl (Or.inr (Or.inr (Or.inr rfl)))
  have t11 : Twg z w (z + 11) := Or.inr (Or.inl rfl)
  have t14 : Twg z w (z + 14) := Or.inr (Or.inr (Or.inl rfl))
  have t16 : Twg z w (z + 16) := Or.inr (Or.inr (Or.inr (Or.inl rfl)))
  have tw1 : Twg z w (w + 1) := Or.inr (Or.inr (Or.inr (Or.inr (Or.inl rfl))))
  have tw3 : Twg z w (w + 3) := Or.inr (Or.inr (Or.inr (Or.inr (Or.inr rfl))))
  have nf1 : ∀ x, Twg z w x → f + 1 ≠ x := fun x hx e => d9 (by rw [e]; exact hx)
  have nf3 : ∀ x, Twg z w x → f + 3 ≠ x := fun x hx e => d10 (by rw [e]; exact hx)
  obtain ⟨⟨i16, i4⟩, ⟨i14, i142, i5, i7⟩, ⟨j16, j162, j5⟩, ⟨i11, iw1, j11, iw11, jw11, l11, iw3⟩⟩ := wg_in (a := a) hW b1 b2 hB
  obtain ⟨⟨x1, x2⟩, ⟨x3, x4⟩, x5⟩ := dw.nx
  clear hW
  have tr : Twg z w r := Or.inl (er.elim Or.inl (fun e => Or.inr (Or.inl e)))
  have mr : r ∈ L := h.tw r tr
  obtain ⟨⟨rn5, rn7, rn14, rn16⟩, rx, ry⟩ := r_n er
  have svf := hF.szv mf3 (show nv M (f + 3) < 2 ^ (30 * S) by rw [V4]; exact hV)
  rw [r8, f1]
  refine ⟨k1, k3, hF.kd m16, (f_put1 (d := d + 3) hO hF m16 mf3 (fun e => nf3 _ t16 e.symm) (Nat.le_trans svf j16)).mono (fun M75 g => ?_)⟩
  obtain ⟨c5, v5⟩ := g
  obtain ⟨N5, H5⟩ := h.st t16 c5
  have F5 := H5.2.1
  obtain ⟨⟨k1, k2, k3⟩, ⟨r2, r3, r5, r7, r8⟩, ⟨w0, w1⟩, ⟨f0, f1⟩, -⟩ := H5.pl
  have R5 := (c5.v hF mr rn16).trans R4
  have P5 := (c5.v hF m14 (nez (by decide))).trans v4
  rw [V4] at v5
  have s16 : sz M75 (z + 16) ≤ S := F5.szv m16 (by rw [v5]; exact hV)
  have sr5 : sz M75 r ≤ u + S := F5.szv mr (by rw [R5]; exact rB)
  rw [r8, r2, r3]
  refine ⟨H5.1, k1, F5.kd m16, (f_divide (d := d + 1) H5.1 F5 m16 mr m5 m7 (fun e => rn16 e.symm) (nez (by decide)) (nez (by decide)) rn5 rn7 (nez (by decide)) (by rw [R5]; exact r0) (Nat.le_trans (Nat.add_le_add_right s16 2) j162) (Nat.le_trans (Nat.add_le_add_right s16 1) j5) (Nat.le_trans (Nat.add_le_add_right sr5 1) (Nat.le_of_succ_le i4.2.2.2))).mono (fun M80 g => ?_)⟩
  obtain ⟨c6, v6, l6⟩ := g
  obtain ⟨n6, H6⟩ := H5.st3 ⟨t16, t5, t7⟩ c6
  have N6 := N5.trans n6
  have F6 := H6.2.1
  obtain ⟨⟨k1, k2, k3⟩, ⟨r2, r3, r5, r7, r8⟩, ⟨w0, w1⟩, ⟨f0, f1⟩, -⟩ := H6.pl
  rw [v5, R5] at v6
  rw [R5] at l6
  have Q2n := F6.nn0 m5
  have EV := dv_ex r0 rd2 v6 ⟨F6.nn0 m16, l6⟩
  have P6 := ((c6.num F5 m14 x5).2.2.2.2.1).trans P5
  have Q2b := qb r0 Q2n EV hV
  have s5 : sz M80 (z + 5) ≤ S := F6.szv m5 Q2b
  rw [r8, r2]
  refine ⟨H6.1, k1, F6.kd m16, (f_put1 (d := d + 3) H6.1 F6 m16 m5 (nez (by decide)) (Nat.le_trans s5 j16)).mono (fun M85 g => ?_)⟩
  obtain ⟨c7, v7⟩ := g
  obtain ⟨n7, H7⟩ := H6.st t16 c7
  have N7 := N6.trans n7
  have P7 := (c7.v F6 m14 (nez (by decide))).trans P6
  have A7' : nv M85 (w + 1) = A := by
    rw [c7.v F6 mw1 d5, (c6.num F5 mw1 x2).2.2.2.2.1, c5.v hF mw1 d5, A7]
  have U7' : nv M85 (w + 3) = U := by
    rw [c7.v F6 mw3 d8, (c6.num F5 mw3 x4).2.2.2.2.1, c5.v hF mw3 d8, U7]
  have X7 := (N7.num hF mf1 d9).2.2
  refine ⟨H7.1, s_wgC (d := d) (Q2 := nv M80 (z + 5)) H7 dw hsh A0 hA U0 hU (by rw [X7]; exact X0) (by rw [X7]; exact hFa) Q1n Q1b Q2n Q2b A7' U7' P7 v7 hW0 b1 b2 hB (fun M' g1 g2 g3 => ?_)⟩
  rw [X7] at g2
  exact hQ M' (nv M80 (z + 5)) (N7.trans g1) g2 g3 EV Q2n
/-- the sum over two different numbers below -/
theorem s_wgDiff {Q : mM → Prop} (h : Wsc L W z w f M) (dw : Dwg z w f) (hsh : 0 ≤ sh ∧ sh < 1073741824) (UV : 0 < nv M (w + 3) ∨ 0 < nv M (f + 3)) (hA : nv M (w + 1) < 2 ^ (30 * a)) (hU : nv M (w + 3) < 2 ^ (30 * u)) (hV : nv M (f + 3) < 2 ^ (30 * S)) (hFa : nv M (f + 1) < 2 ^ (30 * S)) (hW : ∀ x, Twg z w x → B ≤ W x) (b1 : a + S + 3 ≤ B) (b2 : u + S + 3 ≤ B) (hB : B ≤ 16000)
    (hQ : ∀ M' Q1 Q2 r, NL L W (Twg z w) (fun _ => False) False z M M' → nv M' (w + 1) = nv M (w + 1) * Q2 + sh * (nv M (f + 1) * Q1) → nv M' (w + 3) = nv M (w + 3) * Q2 → nv M (w + 3) = r * Q1 → nv M (f + 3) = r * Q2 → 0 < r → 0 ≤ Q1 → 0 ≤ Q2 → Q M') : mK M w = 11 ∧ mK M f = 11 ∧ mK M z = 9 ∧ Cr G y_Sc_commonDivisor (d + 4) [vr z, vr (mR M w 1), vr (mR M f 1)] M (fun x54 M53 => mOk M53 ∧ (mK M53 z = 9 ∧ mK M53 w = 11 ∧ mK M53 (mR M53 z 7) = 10 ∧ Cv G y_Na_put1 (d + 4) [vr (mR M53 z 7), vr (mR M53 w 1)] M53 (fun M59 => mOk M59 ∧ (mK M59 z = 9 ∧ mK M59 (mR M59 z 7) = 10 ∧ Cv G y_Na_divide (d + 4) [vr (mR M59 z 7), vr x54, vr (mR M59 z 2), vr (mR M59 z 3)] M59 (fun M64 => mOk M64 ∧ (mK M64 z = 9 ∧ mK M64 (mR M64 z 7) = 10 ∧ Cv G y_Na_put1 (d + 4) [vr (mR M64 z 7), vr (mR M64 z 2)] M64 (fun M69 => mOk M69 ∧ (mK M69 z = 9 ∧ mK M69 f = 11 ∧ mK M69 (mR M69 z 8) = 10 ∧ Cv G y_Na_put1 (d + 4) [vr (mR M69 z 8), vr (mR M69 f 1)] M69 (fun M75 => mOk M75 ∧ (mK M75 z = 9 ∧ mK M75 (mR M75 z 8) = 10 ∧ Cv G y_Na_divide (d + 4) [vr (mR M75 z 8), vr x54, vr (mR M75 z 2), vr (mR M75 z 3)] M75 (fun M80 => mOk M80 ∧ (mK M80 z = 9 ∧ mK M80 (mR M80 z 8) = 10 ∧ Cv G y_Na_put1 (d + 4) [vr (mR M80 z 8), vr (mR M80 z 2)] M80 (fun M85 => mOk M85 ∧ (mK M85 z = 9 ∧ mK M85 w = 11 ∧ mK M85 (mR M85 z 5) = 10 ∧ Cv G y_Na_putProduct (d + 4) [vr (mR M85 z 5), vr (mR M85 w 0), vr (mR M85 z 8)] M85 (fun M91 => mOk M91 ∧ (mK M91 w = 11 ∧ mK M91 z = 9 ∧ mK M91 (mR M91 w 0) = 10 ∧ Cv G y_Na_put1 (d + 4) [vr (mR M91 w 0), vr (mR M91 z 5)] M91 (fun M97 => mOk M97 ∧ (mK M97 z = 9 ∧ mK M97 f = 11 ∧ mK M97 (mR M97 z 5) = 10 ∧ Cv G y_Na_putProduct (d + 4) [vr (mR M97 z 5), vr (mR M97 f 0), vr (mR M97 z 7)] M97 (fun M103 => mOk M103 ∧ (mK M103 w = 11 ∧ mK M103 z = 9 ∧ mK M103 (mR M103 w 0) = 10 ∧ Cv G y_Na_add (d + 4) [vr (mR M103 w 0), vr (mR M103 z 5), vi sh] M103 (fun M109 => mOk M109 ∧ (mK M109 z = 9 ∧ mK M109 w = 11 ∧ mK M109 (mR M109 z 5) = 10 ∧ Cv G y_Na_putProduct (d + 4) [vr (mR M109 z 5), vr (mR M109 w 1), vr (mR M109 z 8)] M109 (fun M115 => mOk M115 ∧ (mK M115 w = 11 ∧ mK M115 z = 9 ∧ mK M115 (mR M115 w 1) = 10 ∧ Cv G y_Na_put1 (d + 4) [vr (mR M115 w 1), vr (mR M115 z 5)] M115 (fun M121 => mOk M121 ∧ (Q M121)))))))))))))))))))))))))) := by
  have hW0 := hW
  obtain ⟨⟨d1, d2, d3, d4, d5, d6, d7, d8⟩, d9, d10, d11⟩ := id dw
  obtain ⟨hO, hF, hS, hw, hf⟩ := id h
  obtain ⟨⟨k1, k2, k3⟩, ⟨r2, r3, r5, r7, r8⟩, ⟨w0, w1⟩, ⟨f0, f1⟩, m5, m7, m11, m14, m16, mw1, mw3, mf1, mf3⟩ := h.pl
  have t5 : Twg z w (z + 5) := Or.inl (Or.inr (Or.inr (Or.inl rfl)))
  have t7 : Twg z w (z + 7) := Or.inl (Or.inr (Or.inr (Or.inr rfl)))
  have t11 : Twg z w (z + 11) := Or.inr (Or.inl rfl)
  have t14 : Twg z w (z + 14) := Or.inr (Or.inr (Or.inl rfl))
  have t16 : Twg z w (z + 16) := Or.inr (Or.inr (Or.inr (Or.inl rfl)))
  have tw1 : Twg z w (w + 1) := Or.inr (Or.inr (Or.inr (Or.inr (Or.inl rfl))))
  have tw3 : Twg z w (w + 3) := Or.inr (Or.inr (Or.inr (Or.inr (Or.inr rfl))))
  have nf1 : ∀ x, Twg z w x → f + 1 ≠ x := fun x hx e => d9 (by rw [e]; exact hx)
  have nf3 : ∀ x, Twg z w x → f + 3 ≠ x := fun x hx e => d10 (by rw [e]; exact hx)
  obtain ⟨⟨i16, i4⟩, ⟨i14, i142, i5, i7⟩, ⟨j16, j162, j5⟩, ⟨i11, iw1, j11, iw11, jw11, l11, iw3⟩⟩ := wg_in (a := a) hW b1 b2 hB
  obtain ⟨⟨x1, x2⟩, ⟨x3, x4⟩, x5⟩ := dw.nx
  clear hW
  have suw := hF.szv mw3 hU
  have svf := hF.szv mf3 hV
  rw [w1, f1]
  refine ⟨k2, k3, k1, (f_common (d := d) (S := u + S) hO hF hS mw3 mf3 d2 (fun e => d10 (Or.inl e)) UV (Nat.le_trans suw (Nat.le_add_right _ _)) (Nat.le_trans svf (Nat.le_add_left _ _)) i16 i4).mono (fun r M53 g => ?_)⟩
  obtain ⟨er, N53, r0, rd1, rd2, -⟩ := g
  have N1 : NL L W (Twg z w) (fun _ => False) False z M M53 := N53.mono hF (fun t ht => Or.inl ht) h.tw (fun _ e => e) noI (fun e => e)
  have H1 := h.nl N1
  have tr : Twg z w r := Or.inl (er.elim Or.inl (fun e => Or.inr (Or.inl e)))
  have mr : r ∈ L := h.tw r tr
  obtain ⟨⟨rn5, rn7, rn14, rn16⟩, rx, ry⟩ := r_n er
  obtain ⟨⟨k1, k2, k3⟩, ⟨r2, r3, r5, r7, r8⟩, ⟨w0, w1⟩, ⟨f0, f1⟩, -⟩ := H1.pl
  have A1 := (N53.num hF mw1 d1).2.2
  have U1 := (N53.num hF mw3 d2).2
  have F1 := H1.2.1
  have rB : nv M53 r < 2 ^ (30 * (u + S)) := by
    rcases UV with q | q
    · exact Int.lt_of_le_of_lt (Int.le_of_dvd q rd1) (Int.lt_of_lt_of_le hU (p30m (Nat.le_add_right _ _)))
    · exact Int.lt_of_le_of_lt (Int.le_of_dvd q rd2) (Int.lt_of_lt_of_le hV (p30m (Nat.le_add_left _ _)))
  have sr : sz M53 r ≤ u + S := F1.szv mr rB
  have U0 := hF.nn0 mw3
  rw [r7, w1]
  refine ⟨H1.1, k1, k2, F1.kd m14, (f_put1 (d := d + 3) H1.1 F1 m14 mw3 (fun e => d7 e.symm) (by rw [U1.1]; exact Nat.le_trans suw i14)).mono (fun M59 g => ?_)⟩
  obtain ⟨c2, v2⟩ := g
  obtain ⟨n2, H2⟩ := H1.st t14 c2
  have N2 := N1.trans n2
  have F2 := H2.2.1
  obtain ⟨⟨k1, k2, k3⟩, ⟨r2, r3, r5, r7, r8⟩, ⟨w0, w1⟩, ⟨f0, f1⟩, -⟩ := H2.pl
  have R2 := c2.v F1 mr rn14
  rw [U1.2] at v2
  have s14 : sz M59 (z + 14) ≤ u := F2.szv m14 (by rw [v2]; exact hU)
  have sr2 : sz M59 r ≤ u + S := by rw [(c2.num F1 mr rn14).2.2.2.1]; exact sr
  rw [r7, r2, r3]
  refine ⟨H2.1, k1, F2.kd m14, (f_divide (d := d + 1) H2.1 F2 m14 mr m5 m7 (fun e => rn14 e.symm) (nez (by decide)) (nez (by decide)) rn5 rn7 (nez (by decide)) (by rw [R2]; exact r0) (Nat.le_trans (Nat.add_le_add_right s14 2) i142) (Nat.le_trans (Nat.add_le_add_right s14 1) i5) (Nat.le_trans (Nat.add_le_add_right sr2 1) (Nat.le_of_succ_le i4.2.2.2))).mono (fun M64 g => ?_)⟩
  obtain ⟨c3, v3, l3⟩ := g
  obtain ⟨n3, H3⟩ := H2.st3 ⟨t14, t5, t7⟩ c3
  have N3 := N2.trans n3
  have F3 := H3.2.1
  obtain ⟨⟨k1, k2, k3⟩, ⟨r2, r3, r5, r7, r8⟩, ⟨w0, w1⟩, ⟨f0, f1⟩, -⟩ := H3.pl
  rw [v2, R2] at v3
  rw [R2] at l3
  have Q1n := F3.nn0 m5
  have EU := dv_ex r0 rd1 v3 ⟨F3.nn0 m14, l3⟩
  have R3 := ((c3.num F2 mr rx).2.2.2.2.1).trans R2
  have Q1b := qb r0 Q1n EU hU
  have s5 : sz M64 (z + 5) ≤ u := F3.szv m5 Q1b
  rw [r7, r2]
  refine ⟨H3.1, k1, F3.kd m14, (f_put1 (d := d + 3) H3.1 F3 m14 m5 (nez (by decide)) (Nat.le_trans s5 i14)).mono (fun M69 g => ?_)⟩
  obtain ⟨c4, v4⟩ := g
  obtain ⟨n4, H4⟩ := H3.st t14 c4
  have N4 := N3.trans n4
  have R4 := (c4.v F3 mr rn14).trans R3
  have V4 := (N4.num hF mf3 d10).2.2
  have X4 := (N4.num hF mf1 d9).2.2
  have A4 : nv M69 (w + 1) = nv M (w + 1) := by
    rw [c4.v F3 mw1 d4, (c3.num F2 mw1 x1).2.2.2.2.1, c2.v F1 mw1 d4, A1]
  have U4 : nv M69 (w + 3) = nv M (w + 3) := by
    rw [c4.v F3 mw3 d7, (c3.num F2 mw3 x3).2.2.2.2.1, c2.v F1 mw3 d7, U1.2]
  refine ⟨H4.1, s_wgB (d := d) (Q1 := nv M64 (z + 5)) H4 dw hsh (hF.nn0 mw1) hA U0 hU (by rw [X4]; exact hF.nn0 mf1) (by rw [X4]; exact hFa) V4 hV Q1n Q1b A4 U4 v4 er R4 r0 rB rd2 hW0 b1 b2 hB (fun M' Q2 g1 g2 g3 g4 g5 => ?_)⟩
  rw [X4] at g2
  exact hQ M' (nv M64 (z + 5)) Q2 (nv M53 r) (N4.trans g1) g2 g3 EU g4 r0 Q1n g5
end NAU
end
section
/-! The Scales: rows of fractions, and what weighing keeps. -/
theorem wg_A {A Q2 sh Fa Q1 P T k : Int} (hP : 0 < P) (hT : 0 < T) (hA0 : 0 ≤ A) (hA : A < k * (P * 1152921504606846976)) (h2 : 0 ≤ Q2) (h2' : Q2 ≤ T) (hs : 0 ≤ sh) (hs' : sh ≤ 1073741824) (hF : 0 ≤ Fa) (hF' : Fa ≤ T) (h1 : 0 ≤ Q1) (h1' : Q1 ≤ P * 1073741824) : A * Q2 + sh * (Fa * Q1) < (k + 1) * (P * T * 1152921504606846976) := by
  have a1 : A * Q2 ≤ A * T := Int.mul_le_mul_of_nonneg_left h2' hA0
  have a2 : A * T < k * (P * 1152921504606846976) * T := Int.mul_lt_mul_of_pos_right hA hT
  have a3 : Fa * Q1 ≤ T * Q1 := Int.mul_le_mul_of_nonneg_right hF' h1
  have a4 : T * Q1 ≤ T * (P * 1073741824) := Int.mul_le_mul_of_nonneg_left h1' (Int.le_of_lt hT)
  have a5 : sh * (Fa * Q1) ≤ 1073741824 * (Fa * Q1) := Int.mul_le_mul_of_nonneg_right hs' (Int.mul_nonneg hF h1)
  have e1 : k * (P * 1152921504606846976) * T = k * (P * T * 1152921504606846976) := by grind
  have e2 : T * (P * 1073741824) = P * T * 1073741824 := by grind
  rw [Int.add_mul, Int.one_mul, ← e1]
  omega
theorem wg_A2 {A sh Fa P T k : Int} (hP : 1 ≤ P) (hT : 1 ≤ T) (hk : 0 ≤ k) (hA : A < k * (P * 1152921504606846976)) (hs : 0 ≤ sh) (hs' : sh ≤ 1073741824) (hF : 0 ≤ Fa) (hF' : Fa ≤ T) : A + sh * Fa < (k + 1) * (P * T * 1152921504606846976) := by
  have a1 : sh * Fa ≤ 1073741824 * Fa := Int.mul_le_mul_of_nonneg_right hs' hF
  have a2 : P * 1 ≤ P * T := Int.mul_le_mul_of_nonneg_left hT (by omega)
  have a3 : 1 * T ≤ P * T := Int.mul_le_mul_of_nonneg_right hP (by omega)
  have a4 : k * (P * 1152921504606846976) ≤ k * (P * T * 1152921504606846976) := Int.mul_le_mul_of_nonneg_left (by omega) hk
  rw [Int.add_mul, Int.one_mul]
  omega
theorem wg_P {A Q2 sh Fa Q1 U V s r : Int} (h2 : 0 ≤ Q2) (h1 : 0 ≤ Q1) (hs : 0 ≤ sh) (hA : A ≤ s * U) (hF : Fa ≤ V) (eU : U = r * Q1) (eV : V = r * Q2) : A * Q2 + sh * (Fa * Q1) ≤ (s + sh) * (U * Q2) := by
  have a1 : A * Q2 ≤ s * U * Q2 := Int.mul_le_mul_of_nonneg_right hA h2
  have a2 : Fa * Q1 ≤ V * Q1 := Int.mul_le_mul_of_nonneg_right hF h1
  have a3 : sh * (Fa * Q1) ≤ sh * (V * Q1) := Int.mul_le_mul_of_nonneg_left a2 hs
  have e : V * Q1 = U * Q2 := by rw [eU, eV]; grind
  rw [e] at a3
  rw [Int.mul_assoc] at a1
  rw [Int.add_mul]
  omega
theorem wg_P2 {A sh Fa U s : Int} (hs : 0 ≤ sh) (hA : A ≤ s * U) (hF : Fa ≤ U) : A + sh * Fa ≤ (s + sh) * U := by
  have a3 : sh * Fa ≤ sh * U := Int.mul_le_mul_of_nonneg_left hF hs
  rw [Int.add_mul]
  omega
theorem wg_U {U Q2 P T : Int} (hT : 0 < T) (h0 : 0 ≤ U) (hU : U < P * 1073741824) (h2' : Q2 ≤ T) : U * Q2 < P * T * 1073741824 := by
  have a1 : U * Q2 ≤ U * T := Int.mul_le_mul_of_nonneg_left h2' h0
  have a2 : U * T < P * 1073741824 * T := Int.mul_lt_mul_of_pos_right hU hT
  have e : P * 1073741824 * T = P * T * 1073741824 := by grind
  omega
section NAV
variable {G : mG} {d b c z n m w S x y B u g a R cn bc i j mu : Nat} {M M0 M' M1 M2 M3 : mM} {L : List Nat} {W : Nat → Nat} {T T' I I' : Nat → Prop} {r r' : Prop} {sh : Int}
/-- a table of fractions: R its rows -/
def Rws (L : List Nat) (M : mM) (a R cn : Nat) : Prop := mK M a = 13 ∧ mR M a 0 = R ∧ mK M R = 35 ∧ cn ≤ mN M R ∧ (Oc L M a ∧ Oc L M R) ∧ ∀ i, i < cn → FrL L M (mR M R i)
/-- the rows' numbers are small -/
def Rsm (M : mM) (R cn S : Nat) : Prop := ∀ i, i < cn → 0 ≤ nv M (mR M R i + 3) ∧ nv M (mR M R i + 3) < 2 ^ (30 * S) ∧ nv M (mR M R i + 1) < 2 ^ (30 * S)
/-- no row is above 1 -/
def Rle (M : mM) (R cn : Nat) : Prop := ∀ i, i < cn → nv M (mR M R i + 1) ≤ nv M (mR M R i + 3) ∧ 0 < nv M (mR M R i + 3)
/-- the game's tables as far as they are read here -/
def GK9 (M : mM) (g : Nat) : Prop := mK M g = 7 ∧ (mR M g 2 = g + 2 ∧ mR M g 4 = g + 4 ∧ mR M g 6 = g + 6 ∧ mR M g 7 = g + 7 ∧ mR M g 8 = g + 8 ∧ mR M g 9 = g + 9) ∧ (∀ i, 1 ≤ i → i ≤ 9 → mK M (g + i) = 30) ∧ (mN M (g + 2) = 512 ∧ mN M (g + 4) = 513 ∧ mN M (g + 6) = 4097 ∧ mN M (g + 7) = 4098 ∧ mN M (g + 8) = 4096 ∧ mN M (g + 9) = 4096)
theorem GK.g9 (h : GK M g) : GK9 M g := by
  obtain ⟨h1, ⟨-, r2, -, r4, -, r6, r7, r8, r9, -⟩, ⟨k1, k2, k3, k4, k5, k6, k7, k8, k9, -⟩, ⟨-, n2, -, n4, -, n6, n7, n8, n9, -⟩⟩ := h
  refine ⟨h1, ⟨r2, r4, r6, r7, r8, r9⟩, fun i hi hi' => ?_, n2, n4, n6, n7, n8, n9⟩
  rcases (show i = 1 ∨ i = 2 ∨ i = 3 ∨ i = 4 ∨ i = 5 ∨ i = 6 ∨ i = 7 ∨ i = 8 ∨ i = 9 by omega) with e | e | e | e | e | e | e | e | e <;> rw [e] <;> assumption
/-- where weighing works, with the tables alone -/
def We (L : List Nat) (W : Nat → Nat) (z w g a R cn : Nat) (M : mM) : Prop := (mOk M ∧ NF L W M ∧ SK L M z ∧ FrL L M w) ∧ (GK9 M g ∧ ∀ i, i ≤ 9 → Oc L M (g + i)) ∧ Rws L M a R cn ∧ ∀ i, i < cn → Dwg z w (mR M R i)
theorem GK9.kd (h : GK9 M g) (hi : i ≤ 9) : mK M (g + i) ≠ 9 ∧ mK M (g + i) ≠ 11 := by
  by_cases e : i = 0
  · rw [e, Nat.add_zero, h.1]; decide
  · rw [h.2.2.1 i (by omega) hi]; decide
theorem Rws.kd (h : Rws L M a R cn) : (mK M a ≠ 9 ∧ mK M a ≠ 11) ∧ (mK M R ≠ 9 ∧ mK M R ≠ 11) := by
  rw [h.1, h.2.2.1]; decide
theorem We.tb (h : We L W z w g a R cn M) (k : NL L W T I r z M M') (hI : ∀ x, I x → mK M x = 11) : GK9 M' g ∧ (∀ i, i ≤ 9 → Oc L M' (g + i)) ∧ (∀ i, i ≤ 9 → mI M' (g + i) = mI M (g + i)) ∧ Rws L M' a R cn ∧ mR M' R = mR M R := by
  obtain ⟨⟨h1, h2, h3, h4⟩, ⟨h5, h6⟩, h7, h8⟩ := h
  have z9 := h3.1.1
  have ox : ∀ x, Oc L M x → mK M x ≠ 9 → mK M x ≠ 11 → mK M' x = mK M x ∧ mN M' x = mN M x ∧ mR M' x = mR M x ∧ mI M' x = mI M x := by
    intro x hx k9 k11
    obtain ⟨a1, a2, a3, a4⟩ := k.oth hx (fun e => by rw [e] at k9; exact k9 z9)
    exact ⟨a1, a2, a3, a4 (fun e => k11 (hI x e))⟩
  have og := fun i (hi : i ≤ 9) => ox (g + i) (h6 i hi) (h5.kd hi).1 (h5.kd hi).2
  obtain ⟨q1, q2, q3, q4, ⟨q5, q6⟩, q7⟩ := id h7
  obtain ⟨⟨ka1, ka2⟩, kb1, kb2⟩ := h7.kd
  have oa := ox a q5 ka1 ka2
  have oR := ox R q6 kb1 kb2
  have g0 := og 0 (by decide)
  rw [Nat.add_zero] at g0
  refine ⟨⟨by rw [g0.1]; exact h5.1, by rw [g0.2.2.1]; exact h5.2.1, fun i hi hi' => by rw [(og i hi').1]; exact h5.2.2.1 i hi hi', ?_⟩, fun i hi => k.oc h2 (h6 i hi), fun i hi => (og i hi).2.2.2, ⟨by rw [oa.1]; exact q1, by rw [oa.2.2.1]; exact q2, by rw [oR.1]; exact q3, by rw [oR.2.1]; exact q4, ⟨k.oc h2 q5, k.oc h2 q6⟩, fun i hi => by rw [oR.2.2.1]; exact k.frl h2 (q7 i hi)⟩, oR.2.2.1⟩
  rw [(og 2 (by decide)).2.1, (og 4 (by decide)).2.1, (og 6 (by decide)).2.1, (og 7 (by decide)).2.1, (og 8 (by decide)).2.1, (og 9 (by decide)).2.1]
  exact h5.2.2.2
theorem We.nl (h : We L W z w g a R cn M) (k : NL L W (Twg z w) (fun x => x = w) False z M M') : We L W z w g a R cn M' ∧ (∀ i, i ≤ 9 → mI M' (g + i) = mI M (g + i)) ∧ mR M' R = mR M R ∧ ∀ i, i < cn → nv M' (mR M R i + 1) = nv M (mR M R i + 1) ∧ nv M' (mR M R i + 3) = nv M (mR M R i + 3) := by
  obtain ⟨⟨h1, h2, h3, h4⟩, ⟨h5, h6⟩, h7, h8⟩ := id h
  obtain ⟨t1, t2, t3, t4, t5⟩ := h.tb k (fun x e => by rw [e]; exact h4.1.1)
  refine ⟨⟨⟨k.ok, k.nf, k.sk h2 h3, k.frl h2 h4⟩, ⟨t1, t2⟩, t4, fun i hi => by rw [t5]; exact h8 i hi⟩, t3, t5, fun i hi => ?_⟩
  have hf := h7.2.2.2.2.2 i hi
  have dw := (h8 i hi).2
  exact ⟨(k.num h2 hf.2.1 dw.1).2.2, (k.num h2 hf.2.2 dw.2.1).2.2⟩
theorem We.ws (h : We L W z w g a R cn M) (hi : i < cn) : Wsc L W z w (mR M R i) M := ⟨h.1.1, h.1.2.1, h.1.2.2.1, h.1.2.2.2, h.2.2.1.2.2.2.2.2 i hi⟩
/-- what weighing leaves behind -/
def wgQ (L : List Nat) (W : Nat → Nat) (z w : Nat) (R cn S : Nat) (mu : Int) (M M' : mM) : Prop := NL L W (Twg z w) (fun x => x = w) False z M M' ∧ (0 ≤ nv M' (w + 3) ∧ nv M' (w + 3) < 2 ^ (30 * (8 * S + 1))) ∧ nv M' (w + 1) < 2 ^ (30 * (8 * S + 3)) ∧ mI M' w 2 = mu ∧ (Rle M R cn → nv M' (w + 1) ≤ mu * nv M' (w + 3) ∧ 0 < nv M' (w + 3))
/-- on the way: j branches are done -/
def wgI (M0 : mM) (R cn : Nat) (w S j : Nat) (sm : Int) (M : mM) : Prop := (0 ≤ nv M (w + 3) ∧ nv M (w + 3) < 2 ^ (30 * (S * j)) * 1073741824) ∧ nv M (w + 1) < ((j : Int) + 1) * (2 ^ (30 * (S * j)) * 1152921504606846976) ∧ (Rle M0 R cn → nv M (w + 1) ≤ sm * nv M (w + 3) ∧ 0 < nv M (w + 3))
theorem wg_skip {sm : Int} (h : wgI M0 R cn w S j sm M) (hs : 0 ≤ sh) (h1 : 0 ≤ nv M (w + 1)) : wgI M0 R cn w S (j + 1) (sm + sh) M := by
  obtain ⟨⟨u0, u1⟩, a1, p⟩ := h
  have e : (2 : Int) ^ (30 * (S * (j + 1))) = 2 ^ (30 * (S * j)) * 2 ^ (30 * S) := by rw [← p30a, Nat.mul_add, Nat.mul_one]
  have t1 : (1 : Int) ≤ 2 ^ (30 * S) := p30p S
  have t2 : (1 : Int) ≤ 2 ^ (30 * (S * j)) := p30p (S * j)
  have := wg_A2 (A := nv M (w + 1)) (sh := 0) (Fa := 0) (P := 2 ^ (30 * (S * j))) (T := 2 ^ (30 * S)) (k := (j : Int) + 1) t2 t1 (by omega) a1 (by omega) (by omega) (by omega) (by omega)
  have t3 := Int.mul_le_mul_of_nonneg_left t1 (show (0 : Int) ≤ 2 ^ (30 * (S * j)) by omega)
  unfold wgI
  rw [e]
  refine ⟨⟨u0, by omega⟩, ?_, fun q => ?_⟩
  · rw [show (((j + 1 : Nat) : Int) + 1) = (j : Int) + 1 + 1 by omega]
    omega
  · obtain ⟨p1, p2⟩ := p q
    have := wg_P2 (Fa := 0) hs p1 (by omega)
    exact ⟨by omega, p2⟩
theorem wg_same {sm Fa : Int} (h : wgI M0 R cn w S j sm M) (hs : 0 ≤ sh ∧ sh < 1073741824) (e1 : nv M' (w + 1) = nv M (w + 1) + sh * Fa) (e3 : nv M' (w + 3) = nv M (w + 3)) (hF : 0 ≤ Fa ∧ Fa < 2 ^ (30 * S)) (hV : Rle M0 R cn → Fa ≤ nv M (w + 3)) : wgI M0 R cn w S (j + 1) (sm + sh) M' := by
  obtain ⟨⟨u0, u1⟩, a1, p⟩ := h
  have e : (2 : Int) ^ (30 * (S * (j + 1))) = 2 ^ (30 * (S * j)) * 2 ^ (30 * S) := by rw [← p30a, Nat.mul_add, Nat.mul_one]
  have t1 : (1 : Int) ≤ 2 ^ (30 * S) := p30p S
  have t2 : (1 : Int) ≤ 2 ^ (30 * (S * j)) := p30p (S * j)
  have := wg_A2 (A := nv M (w + 1)) (sh := sh) (Fa := Fa) (P := 2 ^ (30 * (S * j))) (T := 2 ^ (30 * S)) (k := (j : Int) + 1) t2 t1 (by omega) a1 hs.1 (by omega) hF.1 (by omega)
  have t3 := Int.mul_le_mul_of_nonneg_left t1 (show (0 : Int) ≤ 2 ^ (30 * (S * j)) by omega)
  unfold wgI
  rw [e, e1, e3]
  refine ⟨⟨u0, by omega⟩, ?_, fun q => ⟨wg_P2 hs.1 (p q).1 (hV q), (p q).2⟩⟩
  rw [show (((j + 1 : Nat) : Int) + 1) = (j : Int) + 1 + 1 by omega]
  exact this
theorem wg_diff {sm Fa V Q1 Q2 r : Int} (h : wgI M0 R cn w S j sm M) (hA0 : 0 ≤ nv M (w + 1)) (hs : 0 ≤ sh ∧ sh < 1073741824) (e1 : nv M' (w + 1) = nv M (w + 1) * Q2 + sh * (Fa * Q1)) (e3 : nv M' (w + 3) = nv M (w + 3) * Q2) (eU : nv M (w + 3) = r * Q1) (eV : V = r * Q2) (hr : 0 < r) (hV : 0 ≤ V ∧ V < 2 ^ (30 * S)) (h1 : 0 ≤ Q1) (h2 : 0 ≤ Q2) (hF : 0 ≤ Fa ∧ Fa < 2 ^ (30 * S)) (hle : Rle M0 R cn → Fa ≤ V ∧ 0 < V) : wgI M0 R cn w S (j + 1) (sm + sh) M' := by
  obtain ⟨⟨u0, u1⟩, a1, p⟩ := h
  have e : (2 : Int) ^ (30 * (S * (j + 1))) = 2 ^ (30 * (S * j)) * 2 ^ (30 * S) := by rw [← p30a, Nat.mul_add, Nat.mul_one]
  have t1 : (0 : Int) < 2 ^ (30 * S) := p30p S
  have t2 : (0 : Int) < 2 ^ (30 * (S * j)) := p30p (S * j)
  have q2 : Q2 ≤ V := by rw [eV]; have := Int.mul_le_mul_of_nonneg_right (show 1 ≤ r by omega) h2; omega
  have q1 : Q1 ≤ nv M (w + 3) := by rw [eU]; have := Int.mul_le_mul_of_nonneg_right (show 1 ≤ r by omega) h1; omega
  have q20 : 0 < V → 0 < Q2 := fun vp => Classical.byContradiction (fun u => by
    have : Q2 = 0 := by omega
    rw [this, Int.mul_zero] at eV
    omega)
  have w1 := wg_A (A := nv M (w + 1)) (Q2 := Q2) (sh := sh) (Fa := Fa) (Q1 := Q1) (P := 2 ^ (30 * (S * j))) (T := 2 ^ (30 * S)) (k := (j : Int) + 1) t2 t1 hA0 a1 h2 (by omega) hs.1 (by omega) hF.1 (by omega) h1 (by omega)
  have w3 := wg_U (Q2 := Q2) t1 u0 u1 (by omega)
  unfold wgI
  rw [e, e1, e3]
  refine ⟨⟨Int.mul_nonneg u0 h2, w3⟩, ?_, fun q => ⟨wg_P h2 h1 hs.1 (p q).1 (hle q).1 eU eV, Int.mul_pos (p q).2 (q20 (hle q).2)⟩⟩
  rw [show (((j + 1 : Nat) : Int) + 1) = (j : Int) + 1 + 1 by omega]
  exact w1
end NAV
end
