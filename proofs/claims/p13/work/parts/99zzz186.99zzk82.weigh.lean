/-! The Scales: a command is weighed. -/
section NAU
variable {G : mG} {d a b c z n m w f S x B u : Nat} {M M' M1 M2 M3 : mM} {L : List Nat} {W : Nat → Nat} {T T' I I' : Nat → Prop} {r r' : Prop} {sh : Int}
/-- the numbers that weighing changes -/
def Twg (z w x : Nat) : Prop := T4 z x ∨ x = z + 11 ∨ x = z + 14 ∨ x = z + 16 ∨ x = w + 1 ∨ x = w + 3
/-- all is in its place -/
def Wsc (L : List Nat) (W : Nat → Nat) (z w f : Nat) (M : mM) : Prop := mOk M ∧ NF L W M ∧ SK L M z ∧ FrL L M w ∧ FrL L M f
/-- the worth is not the Scales' own scratch, a row is neither -/
def Dwg (z w f : Nat) : Prop := (¬ T4 z (w + 1) ∧ ¬ T4 z (w + 3) ∧ w + 1 ≠ z + 11 ∧ w + 1 ≠ z + 14 ∧ w + 1 ≠ z + 16 ∧ w + 3 ≠ z + 11 ∧ w + 3 ≠ z + 14 ∧ w + 3 ≠ z + 16) ∧ (¬ Twg z w (f + 1) ∧ ¬ Twg z w (f + 3) ∧ f ≠ w)
theorem Wsc.tw (h : Wsc L W z w f M) : ∀ t, Twg z w t → t ∈ L := by
  intro t ht
  obtain ⟨-, -, hS, hw, -⟩ := h
  have k := hS.2.2.2.2.2.1
  rcases ht with u | u | u | u | u | u
  · exact hS.t4 t u
  · rw [u]; exact k.2.2.2.2.2.1
  · rw [u]; exact k.2.2.2.2.2.2.1
  · rw [u]; exact k.2.2.2.2.2.2.2
  · rw [u]; exact hw.2.1
  · rw [u]; exact hw.2.2
theorem Wsc.iw (h : Wsc L W z w f M) : ∀ x, (fun x => x = w) x → x < mZ M ∧ mK M x = 11 := fun x u => by
  rw [u]
  exact ⟨h.2.2.2.1.1.2.2, h.2.2.2.1.1.1⟩
theorem Wsc.nl (h : Wsc L W z w f M) (k : NL L W (Twg z w) (fun _ => False) False z M M') : Wsc L W z w f M' := by
  obtain ⟨h1, h2, h3, h4, h5⟩ := h
  exact ⟨k.ok, k.nf, k.sk h2 h3, k.frl h2 h4, k.frl h2 h5⟩
theorem Wsc.st (h : Wsc L W z w f M) (ha : Twg z w a) (c : NC L W (fun x => x = a) M M') : NL L W (Twg z w) (fun _ => False) False z M M' ∧ Wsc L W z w f M' := by
  have n : NL L W (Twg z w) (fun _ => False) False z M M' := (c.nl (I := fun _ => False) (r := False) noI h.2.2.1.z9).mono h.2.1 (fun t ht => by rw [ht]; exact ha) h.tw (fun _ u => u) noI (fun u => u)
  exact ⟨n, h.nl n⟩
theorem Wsc.st3 (h : Wsc L W z w f M) (ha : Twg z w a ∧ Twg z w b ∧ Twg z w c) (k : NC L W (fun x => x = a ∨ x = b ∨ x = c) M M') : NL L W (Twg z w) (fun _ => False) False z M M' ∧ Wsc L W z w f M' := by
  have n : NL L W (Twg z w) (fun _ => False) False z M M' := (k.nl (I := fun _ => False) (r := False) noI h.2.2.1.z9).mono h.2.1 (fun t ht => by
    rcases ht with u | u | u
    · rw [u]; exact ha.1
    · rw [u]; exact ha.2.1
    · rw [u]; exact ha.2.2) h.tw (fun _ u => u) noI (fun u => u)
  exact ⟨n, h.nl n⟩
/-- references and kinds -/
theorem Wsc.pl (h : Wsc L W z w f M) : (mK M z = 9 ∧ mK M w = 11 ∧ mK M f = 11) ∧ (mR M z 2 = z + 5 ∧ mR M z 3 = z + 7 ∧ mR M z 5 = z + 11 ∧ mR M z 7 = z + 14 ∧ mR M z 8 = z + 16) ∧ (mR M w 0 = w + 1 ∧ mR M w 1 = w + 3) ∧ (mR M f 0 = f + 1 ∧ mR M f 1 = f + 3) ∧ (z + 5 ∈ L ∧ z + 7 ∈ L ∧ z + 11 ∈ L ∧ z + 14 ∈ L ∧ z + 16 ∈ L ∧ w + 1 ∈ L ∧ w + 3 ∈ L ∧ f + 1 ∈ L ∧ f + 3 ∈ L) := by
  obtain ⟨-, -, ⟨k1, ⟨-, -, k2, k3, -, k5, -, k7, k8⟩, -, -, -, ⟨-, -, p1, p2, -, p3, p4, p5⟩, -⟩, ⟨⟨q1, q2, -⟩, q3, q4⟩, ⟨⟨r1, r2, -⟩, r3, r4⟩⟩ := h
  exact ⟨⟨k1.1, q1, r1⟩, ⟨k2, k3, k5, k7, k8⟩, q2, r2, p1, p2, p3, p4, p5, q3, q4, r3, r4⟩
theorem dv_ex {U r Q e : Int} (hr : 0 < r) (hd : r ∣ U) (h : U = r * Q + e) (he : 0 ≤ e ∧ e < r) : U = r * Q := by
  have h1 : r ∣ e := by
    have := Int.dvd_sub hd (Int.dvd_mul_right r Q)
    rw [show U - r * Q = e by omega] at this
    exact this
  have h2 : e = 0 := Classical.byContradiction (fun u => by
    have := Int.le_of_dvd (by omega) h1
    omega)
  omega
theorem qb {U r Q : Int} {u : Nat} (hr : 0 < r) (hQ : 0 ≤ Q) (h : U = r * Q) (hU : U < 2 ^ (30 * u)) : Q < 2 ^ (30 * u) := by
  have := Int.mul_le_mul_of_nonneg_right (show 1 ≤ r by omega) hQ
  omega
theorem pb {x y : Int} {p q : Nat} (hx : 0 ≤ x ∧ x < 2 ^ (30 * p)) (hy : 0 ≤ y ∧ y < 2 ^ (30 * q)) : x * y < 2 ^ (30 * (p + q)) := by
  have h1 : x * y ≤ 2 ^ (30 * p) * y := Int.mul_le_mul_of_nonneg_right (by omega) hy.1
  have h2 : (2 : Int) ^ (30 * p) * y < 2 ^ (30 * p) * 2 ^ (30 * q) := Int.mul_lt_mul_of_pos_left hy.2 (p30p p)
  rw [p30a]
  omega
theorem nez {z i j : Nat} (h : i ≠ j) : z + i ≠ z + j := by omega
theorem Dwg.nx (h : Dwg z w f) : (¬ (w + 1 = z + 14 ∨ w + 1 = z + 5 ∨ w + 1 = z + 7) ∧ ¬ (w + 1 = z + 16 ∨ w + 1 = z + 5 ∨ w + 1 = z + 7)) ∧ (¬ (w + 3 = z + 14 ∨ w + 3 = z + 5 ∨ w + 3 = z + 7) ∧ ¬ (w + 3 = z + 16 ∨ w + 3 = z + 5 ∨ w + 3 = z + 7)) ∧ (¬ (z + 14 = z + 16 ∨ z + 14 = z + 5 ∨ z + 14 = z + 7)) := by
  obtain ⟨⟨h1, h2, -, h4, h5, -, h7, h8⟩, -⟩ := h
  unfold T4 at h1 h2
  exact ⟨⟨by omega, by omega⟩, ⟨by omega, by omega⟩, by omega⟩
theorem r_n {r : Nat} (er : r = z + 1 ∨ r = z + 3) : (r ≠ z + 5 ∧ r ≠ z + 7 ∧ r ≠ z + 14 ∧ r ≠ z + 16) ∧ ¬ (r = z + 14 ∨ r = z + 5 ∨ r = z + 7) ∧ ¬ (r = z + 16 ∨ r = z + 5 ∨ r = z + 7) := by rcases er with e | e <;> subst e <;> omega
/-- room -/
theorem wg_in (hW : ∀ x, Twg z w x → B ≤ W x) (b1 : a + S + 3 ≤ B) (b2 : u + S + 3 ≤ B) (hB : B ≤ 16000) : (u + S ≤ 16000 ∧ W4 W z (u + S)) ∧ (u ≤ W (z + 14) ∧ u + 2 ≤ W (z + 14) ∧ u + 1 ≤ W (z + 5) ∧ u + 1 ≤ W (z + 7)) ∧ (S ≤ W (z + 16) ∧ S + 2 ≤ W (z + 16) ∧ S + 1 ≤ W (z + 5)) ∧ (a + S ≤ W (z + 11) ∧ a + S ≤ W (w + 1) ∧ S + u ≤ W (z + 11) ∧ a + S + 1 ≤ W (w + 1) ∧ S + u + 1 ≤ W (w + 1) ∧ u + S ≤ W (z + 11) ∧ u + S ≤ W (w + 3)) := by
  have W5 := hW (z + 5) (Or.inl (Or.inr (Or.inr (Or.inl rfl))))
  have W7 := hW (z + 7) (Or.inl (Or.inr (Or.inr (Or.inr rfl))))
  have W11 := hW (z + 11) (Or.inr (Or.inl rfl))
  have W14 := hW (z + 14) (Or.inr (Or.inr (Or.inl rfl)))
  have W16 := hW (z + 16) (Or.inr (Or.inr (Or.inr (Or.inl rfl))))
  have Ww1 := hW (w + 1) (Or.inr (Or.inr (Or.inr (Or.inr (Or.inl rfl)))))
  have Ww3 := hW (w + 3) (Or.inr (Or.inr (Or.inr (Or.inr (Or.inr rfl)))))
  have W1 := hW (z + 1) (Or.inl (Or.inl rfl))
  have W3 := hW (z + 3) (Or.inl (Or.inr (Or.inl rfl)))
  unfold W4
  omega
/-- the sum and the product, at the end -/
theorem s_wgD {Q : mM → Prop} {Q1 Q2 A U : Int} (h : Wsc L W z w f M) (dw : Dwg z w f) (hsh : 0 ≤ sh ∧ sh < 1073741824) (hA : A * Q2 < 2 ^ (30 * (a + S))) (U0 : 0 ≤ U) (hU : U < 2 ^ (30 * u)) (X0 : 0 ≤ nv M (f + 1)) (hFa : nv M (f + 1) < 2 ^ (30 * S)) (Q1n : 0 ≤ Q1) (Q1b : Q1 < 2 ^ (30 * u)) (Q2n : 0 ≤ Q2) (Q2b : Q2 < 2 ^ (30 * S)) (A9 : nv M (w + 1) = A * Q2) (U9 : nv M (w + 3) = U) (P9 : nv M (z + 14) = Q1) (Q9 : nv M (z + 16) = Q2) (hW : ∀ x, Twg z w x → B ≤ W x) (b1 : a + S + 3 ≤ B) (b2 : u + S + 3 ≤ B) (hB : B ≤ 16000)
    (hQ : ∀ M', NL L W (Twg z w) (fun _ => False) False z M M' → nv M' (w + 1) = A * Q2 + sh * (nv M (f + 1) * Q1) → nv M' (w + 3) = U * Q2 → Q M') : mK M z = 9 ∧ mK M f = 11 ∧ mK M (mR M z 5) = 10 ∧ Cv G y_Na_putProduct (d + 4) [vr (mR M z 5), vr (mR M f 0), vr (mR M z 7)] M (fun M103 => mOk M103 ∧ (mK M103 w = 11 ∧ mK M103 z = 9 ∧ mK M103 (mR M103 w 0) = 10 ∧ Cv G y_Na_add (d + 4) [vr (mR M103 w 0), vr (mR M103 z 5), vi sh] M103 (fun M109 => mOk M109 ∧ (mK M109 z = 9 ∧ mK M109 w = 11 ∧ mK M109 (mR M109 z 5) = 10 ∧ Cv G y_Na_putProduct (d + 4) [vr (mR M109 z 5), vr (mR M109 w 1), vr (mR M109 z 8)] M109 (fun M115 => mOk M115 ∧ (mK M115 w = 11 ∧ mK M115 z = 9 ∧ mK M115 (mR M115 w 1) = 10 ∧ Cv G y_Na_put1 (d + 4) [vr (mR M115 w 1), vr (mR M115 z 5)] M115 (fun M121 => mOk M121 ∧ (Q M121)))))))) := by
  obtain ⟨⟨d1, d2, d3, d4, d5, d6, d7, d8⟩, d9, d10, d11⟩ := id dw
  obtain ⟨hO, hF, hS, hw, hf⟩ := id h
  obtain ⟨⟨k1, k2, k3⟩, ⟨r2, r3, r5, r7, r8⟩, ⟨w0, w1⟩, ⟨f0, f1⟩, m5, m7, m11, m14, m16, mw1, mw3, mf1, mf3⟩ := h.pl
  have t5 : Twg z w (z + 5) := Or.inl (Or.inr (Or.inr (Or.inl rfl)))
  have t7 : Twg z w (z + 7) := Or.inl (Or.inr (Or.inr (Or.inr rfl)))
  have t11 : Twg z w (z + 11) := Or.inr (Or.inl rfl)
  have t14 : Twg z w (z + 14) := Or.inr (Or.inr (Or.inl rfl))
  have t16 : Twg z w (z + 16) := Or.inr (Or.inr (Or.inr (Or.inl rfl)))
  have tw1 : Twg z w (w + 1) := Or.inr (Or.inr (Or.inr (Or.inr (Or.inl rfl))))
  have tw3 : Twg z w (w + 3) := Or.inr (Or.inr (Or.inr (Or.inr (Or.inr rfl))))
  have nf1 : ∀ x, Twg z w x → f + 1 ≠ x := fun x hx e => d9 (by rw [e]; exact hx)
  have nf3 : ∀ x, Twg z w x → f + 3 ≠ x := fun x hx e => d10 (by rw [e]; exact hx)
  obtain ⟨⟨i16, i4⟩, ⟨i14, i142, i5, i7⟩, ⟨j16, j162, j5⟩, ⟨i11, iw1, j11, iw11, jw11, l11, iw3⟩⟩ := wg_in (a := a) hW b1 b2 hB
  obtain ⟨⟨x1, x2⟩, ⟨x3, x4⟩, x5⟩ := dw.nx
  clear hW b1 b2 hB
  have sfa := hF.szv mf1 hFa
  have s149 : sz M (z + 14) ≤ u := hF.szv m14 (by rw [P9]; exact Q1b)
  have w13 : w + 3 ≠ w + 1 := nez (by decide)
  rw [r5, f0, r7]
  refine ⟨k1, k3, hF.kd m11, (f_putProduct (d := d + 1) hO hF m11 mf1 m14 (fun e => nf1 _ t11 e.symm) (nez (by decide)) (Nat.le_trans (Nat.add_le_add sfa s149) j11)).mono (fun M103 g => ?_)⟩
  obtain ⟨c10, v10⟩ := g
  obtain ⟨N10, H10⟩ := h.st t11 c10
  have F10 := H10.2.1
  obtain ⟨⟨k1, k2, k3⟩, ⟨r2, r3, r5, r7, r8⟩, ⟨w0, w1⟩, ⟨f0, f1⟩, -⟩ := H10.pl
  rw [P9] at v10
  have A10 := (c10.v hF mw1 d3).trans A9
  have Q10 := (c10.v hF m16 (nez (by decide))).trans Q9
  have U10 := (c10.v hF mw3 d6).trans U9
  have b10 := pb (x := nv M (f + 1)) (y := Q1) ⟨X0, hFa⟩ ⟨Q1n, Q1b⟩
  have s11' : sz M103 (z + 11) ≤ S + u := F10.szv m11 (by rw [v10]; exact b10)
  have sA10 : sz M103 (w + 1) ≤ a + S := F10.szv mw1 (by rw [A10]; exact hA)
  rw [w0, r5]
  refine ⟨H10.1, k2, k1, F10.kd mw1, (f_add (d := d + 1) hsh H10.1 F10 mw1 m11 d3 (Nat.le_trans (Nat.add_le_add_right sA10 1) iw11) (Nat.le_trans (Nat.add_le_add_right s11' 1) jw11)).mono (fun M109 g => ?_)⟩
  obtain ⟨c11, v11⟩ := g
  obtain ⟨n11, H11⟩ := H10.st tw1 c11
  have N11 := N10.trans n11
  have F11 := H11.2.1
  obtain ⟨⟨k1, k2, k3⟩, ⟨r2, r3, r5, r7, r8⟩, ⟨w0, w1⟩, ⟨f0, f1⟩, -⟩ := H11.pl
  rw [A10, v10] at v11
  have Q11 := (c11.v F10 m16 (fun e => d5 e.symm)).trans Q10
  have U11 := (c11.v F10 mw3 w13).trans U10
  have sU11 : sz M109 (w + 3) ≤ u := F11.szv mw3 (by rw [U11]; exact hU)
  have s1611 : sz M109 (z + 16) ≤ S := F11.szv m16 (by rw [Q11]; exact Q2b)
  rw [r5, w1, r8]
  refine ⟨H11.1, k1, k2, F11.kd m11, (f_putProduct (d := d + 1) H11.1 F11 m11 mw3 m16 (fun e => d6 e.symm) (nez (by decide)) (Nat.le_trans (Nat.add_le_add sU11 s1611) l11)).mono (fun M115 g => ?_)⟩
  obtain ⟨c12, v12⟩ := g
  obtain ⟨n12, H12⟩ := H11.st t11 c12
  have N12 := N11.trans n12
  have F12 := H12.2.1
  obtain ⟨⟨k1, k2, k3⟩, ⟨r2, r3, r5, r7, r8⟩, ⟨w0, w1⟩, ⟨f0, f1⟩, -⟩ := H12.pl
  rw [U11, Q11] at v12
  have A12 := (c12.v F11 mw1 d3).trans v11
  have b12 := pb (x := U) (y := Q2) ⟨U0, hU⟩ ⟨Q2n, Q2b⟩
  have s1112 : sz M115 (z + 11) ≤ u + S := F12.szv m11 (by rw [v12]; exact b12)
  rw [w1, r5]
  refine ⟨H12.1, k2, k1, F12.kd mw3, (f_put1 (d := d + 3) H12.1 F12 mw3 m11 d6 (Nat.le_trans s1112 iw3)).mono (fun M121 g => ?_)⟩
  obtain ⟨c13, v13⟩ := g
  obtain ⟨n13, H13⟩ := H12.st tw3 c13
  exact ⟨H13.1, hQ M121 (N12.trans n13) ((c13.v F12 mw1 (nez (by decide))).trans A12) (v13.trans v12)⟩
/-- the sum, from the quotients on -/
theorem s_wgC {Q : mM → Prop} {Q1 Q2 A U : Int} (h : Wsc L W z w f M) (dw : Dwg z w f) (hsh : 0 ≤ sh ∧ sh < 1073741824) (A0 : 0 ≤ A) (hA : A < 2 ^ (30 * a)) (U0 : 0 ≤ U) (hU : U < 2 ^ (30 * u)) (X0 : 0 ≤ nv M (f + 1)) (hFa : nv M (f + 1) < 2 ^ (30 * S)) (Q1n : 0 ≤ Q1) (Q1b : Q1 < 2 ^ (30 * u)) (Q2n : 0 ≤ Q2) (Q2b : Q2 < 2 ^ (30 * S)) (A7 : nv M (w + 1) = A) (U7 : nv M (w + 3) = U) (P7 : nv M (z + 14) = Q1) (v7 : nv M (z + 16) = Q2) (hW : ∀ x, Twg z w x → B ≤ W x) (b1 : a + S + 3 ≤ B) (b2 : u + S + 3 ≤ B) (hB : B ≤ 16000)
    (hQ : ∀ M', NL L W (Twg z w) (fun _ => False) False z M M' → nv M' (w + 1) = A * Q2 + sh * (nv M (f + 1) * Q1) → nv M' (w + 3) = U * Q2 → Q M') : mK M z = 9 ∧ mK M w = 11 ∧ mK M (mR M z 5) = 10 ∧ Cv G y_Na_putProduct (d + 4) [vr (mR M z 5), vr (mR M w 0), vr (mR M z 8)] M (fun M91 => mOk M91 ∧ (mK M91 w = 11 ∧ mK M91 z = 9 ∧ mK M91 (mR M91 w 0) = 10 ∧ Cv G y_Na_put1 (d + 4) [vr (mR M91 w 0), vr (mR M91 z 5)] M91 (fun M97 => mOk M97 ∧ (mK M97 z = 9 ∧ mK M97 f = 11 ∧ mK M97 (mR M97 z 5) = 10 ∧ Cv G y_Na_putProduct (d + 4) [vr (mR M97 z 5), vr (mR M97 f 0), vr (mR M97 z 7)] M97 (fun M103 => mOk M103 ∧ (mK M103 w = 11 ∧ mK M103 z = 9 ∧ mK M103 (mR M103 w 0) = 10 ∧ Cv G y_Na_add (d + 4) [vr (mR M103 w 0), vr (mR M103 z 5), vi sh] M103 (fun M109 => mOk M109 ∧ (mK M109 z = 9 ∧ mK M109 w = 11 ∧ mK M109 (mR M109 z 5) = 10 ∧ Cv G y_Na_putProduct (d + 4) [vr (mR M109 z 5), vr (mR M109 w 1), vr (mR M109 z 8)] M109 (fun M115 => mOk M115 ∧ (mK M115 w = 11 ∧ mK M115 z = 9 ∧ mK M115 (mR M115 w 1) = 10 ∧ Cv G y_Na_put1 (d + 4) [vr (mR M115 w 1), vr (mR M115 z 5)] M115 (fun M121 => mOk M121 ∧ (Q M121)))))))))))) := by
  have hW0 := hW
  obtain ⟨⟨d1, d2, d3, d4, d5, d6, d7, d8⟩, d9, d10, d11⟩ := id dw
  obtain ⟨hO, hF, hS, hw, hf⟩ := id h
  obtain ⟨⟨k1, k2, k3⟩, ⟨r2, r3, r5, r7, r8⟩, ⟨w0, w1⟩, ⟨f0, f1⟩, m5, m7, m11, m14, m16, mw1, mw3, mf1, mf3⟩ := h.pl
  have t5 : Twg z w (z + 5) := Or.inl (Or.inr (Or.inr (Or.inl rfl)))
  have t7 : Twg z w (z + 7) := Or.inl (Or.inr (Or.inr (Or.inr rfl)))
  have t11 : Twg z w (z + 11) := Or.inr (Or.inl rfl)
  have t14 : Twg z w (z + 14) := Or.inr (Or.inr (Or.inl rfl))
  have t16 : Twg z w (z + 16) := Or.inr (Or.inr (Or.inr (Or.inl rfl)))
  have tw1 : Twg z w (w + 1) := Or.inr (Or.inr (Or.inr (Or.inr (Or.inl rfl))))
  have tw3 : Twg z w (w + 3) := Or.inr (Or.inr (Or.inr (Or.inr (Or.inr rfl))))
  have nf1 : ∀ x, Twg z w x → f + 1 ≠ x := fun x hx e => d9 (by rw [e]; exact hx)
  have nf3 : ∀ x, Twg z w x → f + 3 ≠ x := fun x hx e => d10 (by rw [e]; exact hx)
  obtain ⟨⟨i16, i4⟩, ⟨i14, i142, i5, i7⟩, ⟨j16, j162, j5⟩, ⟨i11, iw1, j11, iw11, jw11, l11, iw3⟩⟩ := wg_in (a := a) hW b1 b2 hB
  obtain ⟨⟨x1, x2⟩, ⟨x3, x4⟩, x5⟩ := dw.nx
  clear hW
  have sA7 : sz M (w + 1) ≤ a := hF.szv mw1 (by rw [A7]; exact hA)
  have s167 : sz M (z + 16) ≤ S := hF.szv m16 (by rw [v7]; exact Q2b)
  rw [r5, w0, r8]
  refine ⟨k1, k2, hF.kd m11, (f_putProduct (d := d + 1) hO hF m11 mw1 m16 (fun e => d3 e.symm) (nez (by decide)) (Nat.le_trans (Nat.add_le_add sA7 s167) i11)).mono (fun M91 g => ?_)⟩
  obtain ⟨c8, v8⟩ := g
  obtain ⟨N8, H8⟩ := h.st t11 c8
  have F8 := H8.2.1
  obtain ⟨⟨k1, k2, k3⟩, ⟨r2, r3, r5, r7, r8⟩, ⟨w0, w1⟩, ⟨f0, f1⟩, -⟩ := H8.pl
  rw [A7, v7] at v8
  have P8 := (c8.v hF m14 (nez (by decide))).trans P7
  have Q8 := (c8.v hF m16 (nez (by decide))).trans v7
  have U8 := (c8.v hF mw3 d6).trans U7
  have b8 := pb (x := A) (y := Q2) ⟨A0, hA⟩ ⟨Q2n, Q2b⟩
  have s11 : sz M91 (z + 11) ≤ a + S := F8.szv m11 (by rw [v8]; exact b8)
  rw [w0, r5]
  refine ⟨H8.1, k2, k1, F8.kd mw1, (f_put1 (d := d + 3) H8.1 F8 mw1 m11 d3 (Nat.le_trans s11 iw1)).mono (fun M97 g => ?_)⟩
  obtain ⟨c9, v9⟩ := g
  obtain ⟨n9, H9⟩ := H8.st tw1 c9
  have N9 := N8.trans n9
  have X9 := (N9.num hF mf1 d9).2.2
  refine ⟨H9.1, s_wgD (d := d) (Q1 := Q1) (Q2 := Q2) (A := A) (U := U) H9 dw hsh b8 U0 hU (by rw [X9]; exact X0) (by rw [X9]; exact hFa) Q1n Q1b Q2n Q2b (v9.trans v8) ((c9.v F8 mw3 (nez (by decide))).trans U8) ((c9.v F8 m14 (fun e => d4 e.symm)).trans P8) ((c9.v F8 m16 (fun e => d5 e.symm)).trans Q8) hW0 b1 b2 hB (fun M' g1 g2 g3 => ?_)⟩
  rw [X9] at g2
  exact hQ M' (N9.trans g1) g2 g3
/-- the second quotient -/
theorem s_wgB {Q : mM → Prop} {Q1 A U V R : Int} {r : Nat} (h : Wsc L W z w f M) (dw : Dwg z w f) (hsh : 0 ≤ sh ∧ sh < 1073741824) (A0 : 0 ≤ A) (hA : A < 2 ^ (30 * a)) (U0 : 0 ≤ U) (hU : U < 2 ^ (30 * u)) (X0 : 0 ≤ nv M (f + 1)) (hFa : nv M (f + 1) < 2 ^ (30 * S)) (V4 : nv M (f + 3) = V) (hV : V < 2 ^ (30 * S)) (Q1n : 0 ≤ Q1) (Q1b : Q1 < 2 ^ (30 * u)) (A7 : nv M (w + 1) = A) (U7 : nv M (w + 3) = U) (v4 : nv M (z + 14) = Q1) (er : r = z + 1 ∨ r = z + 3) (R4 : nv M r = R) (r0 : 0 < R) (rB : R < 2 ^ (30 * (u + S))) (rd2 : R ∣ V) (hW : ∀ x, Twg z w x → B ≤ W x) (b1 : a + S + 3 ≤ B) (b2 : u + S + 3 ≤ B) (hB : B ≤ 16000)
    (hQ : ∀ M' Q2, NL L W (Twg z w) (fun _ => False) False z M M' → nv M' (w + 1) = A * Q2 + sh * (nv M (f + 1) * Q1) → nv M' (w + 3) = U * Q2 → V = R * Q2 → 0 ≤ Q2 → Q M') : mK M z = 9 ∧ mK M f = 11 ∧ mK M (mR M z 8) = 10 ∧ Cv G y_Na_put1 (d + 4) [vr (mR M z 8), vr (mR M f 1)] M (fun M75 => mOk M75 ∧ (mK M75 z = 9 ∧ mK M75 (mR M75 z 8) = 10 ∧ Cv G y_Na_divide (d + 4) [vr (mR M75 z 8), vr r, vr (mR M75 z 2), vr (mR M75 z 3)] M75 (fun M80 => mOk M80 ∧ (mK M80 z = 9 ∧ mK M80 (mR M80 z 8) = 10 ∧ Cv G y_Na_put1 (d + 4) [vr (mR M80 z 8), vr (mR M80 z 2)] M80 (fun M85 => mOk M85 ∧ (mK M85 z = 9 ∧ mK M85 w = 11 ∧ mK M85 (mR M85 z 5) = 10 ∧ Cv G y_Na_putProduct (d + 4) [vr (mR M85 z 5), vr (mR M85 w 0), vr (mR M85 z 8)] M85 (fun M91 => mOk M91 ∧ (mK M91 w = 11 ∧ mK M91 z = 9 ∧ mK M91 (mR M91 w 0) = 10 ∧ Cv G y_Na_put1 (d + 4) [vr (mR M91 w 0), vr (mR M91 z 5)] M91 (fun M97 => mOk M97 ∧ (mK M97 z = 9 ∧ mK M97 f = 11 ∧ mK M97 (mR M97 z 5) = 10 ∧ Cv G y_Na_putProduct (d + 4) [vr (mR M97 z 5), vr (mR M97 f 0), vr (mR M97 z 7)] M97 (fun M103 => mOk M103 ∧ (mK M103 w = 11 ∧ mK M103 z = 9 ∧ mK M103 (mR M103 w 0) = 10 ∧ Cv G y_Na_add (d + 4) [vr (mR M103 w 0), vr (mR M103 z 5), vi sh] M103 (fun M109 => mOk M109 ∧ (mK M109 z = 9 ∧ mK M109 w = 11 ∧ mK M109 (mR M109 z 5) = 10 ∧ Cv G y_Na_putProduct (d + 4) [vr (mR M109 z 5), vr (mR M109 w 1), vr (mR M109 z 8)] M109 (fun M115 => mOk M115 ∧ (mK M115 w = 11 ∧ mK M115 z = 9 ∧ mK M115 (mR M115 w 1) = 10 ∧ Cv G y_Na_put1 (d + 4) [vr (mR M115 w 1), vr (mR M115 z 5)] M115 (fun M121 => mOk M121 ∧ (Q M121)))))))))))))))))) := by
  have hW0 := hW
  obtain ⟨⟨d1, d2, d3, d4, d5, d6, d7, d8⟩, d9, d10, d11⟩ := id dw
  obtain ⟨hO, hF, hS, hw, hf⟩ := id h
  obtain ⟨⟨k1, k2, k3⟩, ⟨r2, r3, r5, r7, r8⟩, ⟨w0, w1⟩, ⟨f0, f1⟩, m5, m7, m11, m14, m16, mw1, mw3, mf1, mf3⟩ := h.pl
  have t5 : Twg z w (z + 5) := Or.inl (Or.inr (Or.inr (Or.inl rfl)))
  have t7 : Twg z w (z + 7) := Or.inl (Or.inr (Or.inr (Or.inr rfl)))
  have t11 : Twg z w (z + 11) := Or.inr (Or.inl rfl)
  have t14 : Twg z w (z + 14) := Or.inr (Or.inr (Or.inl rfl))
  have t16 : Twg z w (z + 16) := Or.inr (Or.inr (Or.inr (Or.inl rfl)))
  have tw1 : Twg z w (w + 1) := Or.inr (Or.inr (Or.inr (Or.inr (Or.inl rfl))))
  have tw3 : Twg z w (w + 3) := Or.inr (Or.inr (Or.inr (Or.inr (Or.inr rfl))))
  have nf1 : ∀ x, Twg z w x → f + 1 ≠ x := fun x hx e => d9 (by rw [e]; exact hx)
  have nf3 : ∀ x, Twg z w x → f + 3 ≠ x := fun x hx e => d10 (by rw [e]; exact hx)
  obtain ⟨⟨i16, i4⟩, ⟨i14, i142, i5, i7⟩, ⟨j16, j162, j5⟩, ⟨i11, iw1, j11, iw11, jw11, l11, iw3⟩⟩ := wg_in (a := a) hW b1 b2 hB
  obtain ⟨⟨x1, x2⟩, ⟨x3, x4⟩, x5⟩ := dw.nx
  clear hW
  have tr : Twg z w r := Or.inl (er.elim Or.inl (fun e => Or.inr (Or.inl e)))
  have mr : r ∈ L := h.tw r tr
  obtain ⟨⟨rn5, rn7, rn14, rn16⟩, rx, ry⟩ := r_n er
  have svf := hF.szv mf3 (show nv M (f + 3) < 2 ^ (30 * S) by rw [V4]; exact hV)
  rw [r8, f1]
  refine ⟨k1, k3, hF.kd m16, (f_put1 (d := d + 3) hO hF m16 mf3 (fun e => nf3 _ t16 e.symm) (Nat.le_trans svf j16)).mono (fun M75 g => ?_)⟩
  obtain ⟨c5, v5⟩ := g
  obtain ⟨N5, H5⟩ := h.st t16 c5
  have F5 := H5.2.1
  obtain ⟨⟨k1, k2, k3⟩, ⟨r2, r3, r5, r7, r8⟩, ⟨w0, w1⟩, ⟨f0, f1⟩, -⟩ := H5.pl
  have R5 := (c5.v hF mr rn16).trans R4
  have P5 := (c5.v hF m14 (nez (by decide))).trans v4
  rw [V4] at v5
  have s16 : sz M75 (z + 16) ≤ S := F5.szv m16 (by rw [v5]; exact hV)
  have sr5 : sz M75 r ≤ u + S := F5.szv mr (by rw [R5]; exact rB)
  rw [r8, r2, r3]
  refine ⟨H5.1, k1, F5.kd m16, (f_divide (d := d + 1) H5.1 F5 m16 mr m5 m7 (fun e => rn16 e.symm) (nez (by decide)) (nez (by decide)) rn5 rn7 (nez (by decide)) (by rw [R5]; exact r0) (Nat.le_trans (Nat.add_le_add_right s16 2) j162) (Nat.le_trans (Nat.add_le_add_right s16 1) j5) (Nat.le_trans (Nat.add_le_add_right sr5 1) (Nat.le_of_succ_le i4.2.2.2))).mono (fun M80 g => ?_)⟩
  obtain ⟨c6, v6, l6⟩ := g
  obtain ⟨n6, H6⟩ := H5.st3 ⟨t16, t5, t7⟩ c6
  have N6 := N5.trans n6
  have F6 := H6.2.1
  obtain ⟨⟨k1, k2, k3⟩, ⟨r2, r3, r5, r7, r8⟩, ⟨w0, w1⟩, ⟨f0, f1⟩, -⟩ := H6.pl
  rw [v5, R5] at v6
  rw [R5] at l6
  have Q2n := F6.nn0 m5
  have EV := dv_ex r0 rd2 v6 ⟨F6.nn0 m16, l6⟩
  have P6 := ((c6.num F5 m14 x5).2.2.2.2.1).trans P5
  have Q2b := qb r0 Q2n EV hV
  have s5 : sz M80 (z + 5) ≤ S := F6.szv m5 Q2b
  rw [r8, r2]
  refine ⟨H6.1, k1, F6.kd m16, (f_put1 (d := d + 3) H6.1 F6 m16 m5 (nez (by decide)) (Nat.le_trans s5 j16)).mono (fun M85 g => ?_)⟩
  obtain ⟨c7, v7⟩ := g
  obtain ⟨n7, H7⟩ := H6.st t16 c7
  have N7 := N6.trans n7
  have P7 := (c7.v F6 m14 (nez (by decide))).trans P6
  have A7' : nv M85 (w + 1) = A := by
    rw [c7.v F6 mw1 d5, (c6.num F5 mw1 x2).2.2.2.2.1, c5.v hF mw1 d5, A7]
  have U7' : nv M85 (w + 3) = U := by
    rw [c7.v F6 mw3 d8, (c6.num F5 mw3 x4).2.2.2.2.1, c5.v hF mw3 d8, U7]
  have X7 := (N7.num hF mf1 d9).2.2
  refine ⟨H7.1, s_wgC (d := d) (Q2 := nv M80 (z + 5)) H7 dw hsh A0 hA U0 hU (by rw [X7]; exact X0) (by rw [X7]; exact hFa) Q1n Q1b Q2n Q2b A7' U7' P7 v7 hW0 b1 b2 hB (fun M' g1 g2 g3 => ?_)⟩
  rw [X7] at g2
  exact hQ M' (nv M80 (z + 5)) (N7.trans g1) g2 g3 EV Q2n
/-- the sum over two different numbers below -/
theorem s_wgDiff {Q : mM → Prop} (h : Wsc L W z w f M) (dw : Dwg z w f) (hsh : 0 ≤ sh ∧ sh < 1073741824) (UV : 0 < nv M (w + 3) ∨ 0 < nv M (f + 3)) (hA : nv M (w + 1) < 2 ^ (30 * a)) (hU : nv M (w + 3) < 2 ^ (30 * u)) (hV : nv M (f + 3) < 2 ^ (30 * S)) (hFa : nv M (f + 1) < 2 ^ (30 * S)) (hW : ∀ x, Twg z w x → B ≤ W x) (b1 : a + S + 3 ≤ B) (b2 : u + S + 3 ≤ B) (hB : B ≤ 16000)
    (hQ : ∀ M' Q1 Q2 r, NL L W (Twg z w) (fun _ => False) False z M M' → nv M' (w + 1) = nv M (w + 1) * Q2 + sh * (nv M (f + 1) * Q1) → nv M' (w + 3) = nv M (w + 3) * Q2 → nv M (w + 3) = r * Q1 → nv M (f + 3) = r * Q2 → 0 < r → 0 ≤ Q1 → 0 ≤ Q2 → Q M') : mK M w = 11 ∧ mK M f = 11 ∧ mK M z = 9 ∧ Cr G y_Sc_commonDivisor (d + 4) [vr z, vr (mR M w 1), vr (mR M f 1)] M (fun x54 M53 => mOk M53 ∧ (mK M53 z = 9 ∧ mK M53 w = 11 ∧ mK M53 (mR M53 z 7) = 10 ∧ Cv G y_Na_put1 (d + 4) [vr (mR M53 z 7), vr (mR M53 w 1)] M53 (fun M59 => mOk M59 ∧ (mK M59 z = 9 ∧ mK M59 (mR M59 z 7) = 10 ∧ Cv G y_Na_divide (d + 4) [vr (mR M59 z 7), vr x54, vr (mR M59 z 2), vr (mR M59 z 3)] M59 (fun M64 => mOk M64 ∧ (mK M64 z = 9 ∧ mK M64 (mR M64 z 7) = 10 ∧ Cv G y_Na_put1 (d + 4) [vr (mR M64 z 7), vr (mR M64 z 2)] M64 (fun M69 => mOk M69 ∧ (mK M69 z = 9 ∧ mK M69 f = 11 ∧ mK M69 (mR M69 z 8) = 10 ∧ Cv G y_Na_put1 (d + 4) [vr (mR M69 z 8), vr (mR M69 f 1)] M69 (fun M75 => mOk M75 ∧ (mK M75 z = 9 ∧ mK M75 (mR M75 z 8) = 10 ∧ Cv G y_Na_divide (d + 4) [vr (mR M75 z 8), vr x54, vr (mR M75 z 2), vr (mR M75 z 3)] M75 (fun M80 => mOk M80 ∧ (mK M80 z = 9 ∧ mK M80 (mR M80 z 8) = 10 ∧ Cv G y_Na_put1 (d + 4) [vr (mR M80 z 8), vr (mR M80 z 2)] M80 (fun M85 => mOk M85 ∧ (mK M85 z = 9 ∧ mK M85 w = 11 ∧ mK M85 (mR M85 z 5) = 10 ∧ Cv G y_Na_putProduct (d + 4) [vr (mR M85 z 5), vr (mR M85 w 0), vr (mR M85 z 8)] M85 (fun M91 => mOk M91 ∧ (mK M91 w = 11 ∧ mK M91 z = 9 ∧ mK M91 (mR M91 w 0) = 10 ∧ Cv G y_Na_put1 (d + 4) [vr (mR M91 w 0), vr (mR M91 z 5)] M91 (fun M97 => mOk M97 ∧ (mK M97 z = 9 ∧ mK M97 f = 11 ∧ mK M97 (mR M97 z 5) = 10 ∧ Cv G y_Na_putProduct (d + 4) [vr (mR M97 z 5), vr (mR M97 f 0), vr (mR M97 z 7)] M97 (fun M103 => mOk M103 ∧ (mK M103 w = 11 ∧ mK M103 z = 9 ∧ mK M103 (mR M103 w 0) = 10 ∧ Cv G y_Na_add (d + 4) [vr (mR M103 w 0), vr (mR M103 z 5), vi sh] M103 (fun M109 => mOk M109 ∧ (mK M109 z = 9 ∧ mK M109 w = 11 ∧ mK M109 (mR M109 z 5) = 10 ∧ Cv G y_Na_putProduct (d + 4) [vr (mR M109 z 5), vr (mR M109 w 1), vr (mR M109 z 8)] M109 (fun M115 => mOk M115 ∧ (mK M115 w = 11 ∧ mK M115 z = 9 ∧ mK M115 (mR M115 w 1) = 10 ∧ Cv G y_Na_put1 (d + 4) [vr (mR M115 w 1), vr (mR M115 z 5)] M115 (fun M121 => mOk M121 ∧ (Q M121)))))))))))))))))))))))))) := by
  have hW0 := hW
  obtain ⟨⟨d1, d2, d3, d4, d5, d6, d7, d8⟩, d9, d10, d11⟩ := id dw
  obtain ⟨hO, hF, hS, hw, hf⟩ := id h
  obtain ⟨⟨k1, k2, k3⟩, ⟨r2, r3, r5, r7, r8⟩, ⟨w0, w1⟩, ⟨f0, f1⟩, m5, m7, m11, m14, m16, mw1, mw3, mf1, mf3⟩ := h.pl
  have t5 : Twg z w (z + 5) := Or.inl (Or.inr (Or.inr (Or.inl rfl)))
  have t7 : Twg z w (z + 7) := Or.inl (Or.inr (Or.inr (Or.inr rfl)))
  have t11 : Twg z w (z + 11) := Or.inr (Or.inl rfl)
  have t14 : Twg z w (z + 14) := Or.inr (Or.inr (Or.inl rfl))
  have t16 : Twg z w (z + 16) := Or.inr (Or.inr (Or.inr (Or.inl rfl)))
  have tw1 : Twg z w (w + 1) := Or.inr (Or.inr (Or.inr (Or.inr (Or.inl rfl))))
  have tw3 : Twg z w (w + 3) := Or.inr (Or.inr (Or.inr (Or.inr (Or.inr rfl))))
  have nf1 : ∀ x, Twg z w x → f + 1 ≠ x := fun x hx e => d9 (by rw [e]; exact hx)
  have nf3 : ∀ x, Twg z w x → f + 3 ≠ x := fun x hx e => d10 (by rw [e]; exact hx)
  obtain ⟨⟨i16, i4⟩, ⟨i14, i142, i5, i7⟩, ⟨j16, j162, j5⟩, ⟨i11, iw1, j11, iw11, jw11, l11, iw3⟩⟩ := wg_in (a := a) hW b1 b2 hB
  obtain ⟨⟨x1, x2⟩, ⟨x3, x4⟩, x5⟩ := dw.nx
  clear hW
  have suw := hF.szv mw3 hU
  have svf := hF.szv mf3 hV
  rw [w1, f1]
  refine ⟨k2, k3, k1, (f_common (d := d) (S := u + S) hO hF hS mw3 mf3 d2 (fun e => d10 (Or.inl e)) UV (Nat.le_trans suw (Nat.le_add_right _ _)) (Nat.le_trans svf (Nat.le_add_left _ _)) i16 i4).mono (fun r M53 g => ?_)⟩
  obtain ⟨er, N53, r0, rd1, rd2, -⟩ := g
  have N1 : NL L W (Twg z w) (fun _ => False) False z M M53 := N53.mono hF (fun t ht => Or.inl ht) h.tw (fun _ e => e) noI (fun e => e)
  have H1 := h.nl N1
  have tr : Twg z w r := Or.inl (er.elim Or.inl (fun e => Or.inr (Or.inl e)))
  have mr : r ∈ L := h.tw r tr
  obtain ⟨⟨rn5, rn7, rn14, rn16⟩, rx, ry⟩ := r_n er
  obtain ⟨⟨k1, k2, k3⟩, ⟨r2, r3, r5, r7, r8⟩, ⟨w0, w1⟩, ⟨f0, f1⟩, -⟩ := H1.pl
  have A1 := (N53.num hF mw1 d1).2.2
  have U1 := (N53.num hF mw3 d2).2
  have F1 := H1.2.1
  have rB : nv M53 r < 2 ^ (30 * (u + S)) := by
    rcases UV with q | q
    · exact Int.lt_of_le_of_lt (Int.le_of_dvd q rd1) (Int.lt_of_lt_of_le hU (p30m (Nat.le_add_right _ _)))
    · exact Int.lt_of_le_of_lt (Int.le_of_dvd q rd2) (Int.lt_of_lt_of_le hV (p30m (Nat.le_add_left _ _)))
  have sr : sz M53 r ≤ u + S := F1.szv mr rB
  have U0 := hF.nn0 mw3
  rw [r7, w1]
  refine ⟨H1.1, k1, k2, F1.kd m14, (f_put1 (d := d + 3) H1.1 F1 m14 mw3 (fun e => d7 e.symm) (by rw [U1.1]; exact Nat.le_trans suw i14)).mono (fun M59 g => ?_)⟩
  obtain ⟨c2, v2⟩ := g
  obtain ⟨n2, H2⟩ := H1.st t14 c2
  have N2 := N1.trans n2
  have F2 := H2.2.1
  obtain ⟨⟨k1, k2, k3⟩, ⟨r2, r3, r5, r7, r8⟩, ⟨w0, w1⟩, ⟨f0, f1⟩, -⟩ := H2.pl
  have R2 := c2.v F1 mr rn14
  rw [U1.2] at v2
  have s14 : sz M59 (z + 14) ≤ u := F2.szv m14 (by rw [v2]; exact hU)
  have sr2 : sz M59 r ≤ u + S := by rw [(c2.num F1 mr rn14).2.2.2.1]; exact sr
  rw [r7, r2, r3]
  refine ⟨H2.1, k1, F2.kd m14, (f_divide (d := d + 1) H2.1 F2 m14 mr m5 m7 (fun e => rn14 e.symm) (nez (by decide)) (nez (by decide)) rn5 rn7 (nez (by decide)) (by rw [R2]; exact r0) (Nat.le_trans (Nat.add_le_add_right s14 2) i142) (Nat.le_trans (Nat.add_le_add_right s14 1) i5) (Nat.le_trans (Nat.add_le_add_right sr2 1) (Nat.le_of_succ_le i4.2.2.2))).mono (fun M64 g => ?_)⟩
  obtain ⟨c3, v3, l3⟩ := g
  obtain ⟨n3, H3⟩ := H2.st3 ⟨t14, t5, t7⟩ c3
  have N3 := N2.trans n3
  have F3 := H3.2.1
  obtain ⟨⟨k1, k2, k3⟩, ⟨r2, r3, r5, r7, r8⟩, ⟨w0, w1⟩, ⟨f0, f1⟩, -⟩ := H3.pl
  rw [v2, R2] at v3
  rw [R2] at l3
  have Q1n := F3.nn0 m5
  have EU := dv_ex r0 rd1 v3 ⟨F3.nn0 m14, l3⟩
  have R3 := ((c3.num F2 mr rx).2.2.2.2.1).trans R2
  have Q1b := qb r0 Q1n EU hU
  have s5 : sz M64 (z + 5) ≤ u := F3.szv m5 Q1b
  rw [r7, r2]
  refine ⟨H3.1, k1, F3.kd m14, (f_put1 (d := d + 3) H3.1 F3 m14 m5 (nez (by decide)) (Nat.le_trans s5 i14)).mono (fun M69 g => ?_)⟩
  obtain ⟨c4, v4⟩ := g
  obtain ⟨n4, H4⟩ := H3.st t14 c4
  have N4 := N3.trans n4
  have R4 := (c4.v F3 mr rn14).trans R3
  have V4 := (N4.num hF mf3 d10).2.2
  have X4 := (N4.num hF mf1 d9).2.2
  have A4 : nv M69 (w + 1) = nv M (w + 1) := by
    rw [c4.v F3 mw1 d4, (c3.num F2 mw1 x1).2.2.2.2.1, c2.v F1 mw1 d4, A1]
  have U4 : nv M69 (w + 3) = nv M (w + 3) := by
    rw [c4.v F3 mw3 d7, (c3.num F2 mw3 x3).2.2.2.2.1, c2.v F1 mw3 d7, U1.2]
  refine ⟨H4.1, s_wgB (d := d) (Q1 := nv M64 (z + 5)) H4 dw hsh (hF.nn0 mw1) hA U0 hU (by rw [X4]; exact hF.nn0 mf1) (by rw [X4]; exact hFa) V4 hV Q1n Q1b A4 U4 v4 er R4 r0 rB rd2 hW0 b1 b2 hB (fun M' Q2 g1 g2 g3 g4 g5 => ?_)⟩
  rw [X4] at g2
  exact hQ M' (nv M64 (z + 5)) Q2 (nv M53 r) (N4.trans g1) g2 g3 EU g4 r0 Q1n g5
end NAU
