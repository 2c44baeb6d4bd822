/-! The Scales: a command is weighed, the whole. -/
section NAW
variable {G : mG} {d b c z n m w S x y B u g a R cn bc i j mu : Nat} {M M0 M' M1 M2 M3 : mM} {L : List Nat} {W : Nat → Nat} {T T' I I' : Nat → Prop} {r r' : Prop} {sh : Int}
theorem wg_bits {v : Int} (h : v < 2 ^ (30 * (S * j)) * 1073741824) : v < 2 ^ (30 * (S * j + 1)) := by rw [p30]; exact h
theorem wg_bits3 {v : Int} (hj : j ≤ 8) (h : v < ((j : Int) + 1) * (2 ^ (30 * (S * j)) * 1152921504606846976)) : v < 2 ^ (30 * (S * j + 3)) := by
  rw [show S * j + 3 = S * j + 1 + 1 + 1 by omega, p30, p30, p30]
  have h1 := p30p (S * j)
  have h2 := Int.mul_le_mul_of_nonneg_right (show (j : Int) + 1 ≤ 1073741824 by omega) (show 0 ≤ 2 ^ (30 * (S * j)) * 1152921504606846976 by omega)
  omega
theorem wg_w {B S j : Nat} (hj : j < 8) (hB : 8 * S + 6 ≤ B) : S * j + 3 + S + 3 ≤ B ∧ S * j + 1 + S + 3 ≤ B := by
  have h1 : S * j + S = S * (j + 1) := by rw [Nat.mul_add, Nat.mul_one]
  have h2 : S * (j + 1) ≤ S * 8 := Nat.mul_le_mul_left _ (by omega)
  omega
theorem wg_ws {n : Nat} (h : ∀ i, x ≤ i → i < x + n → 1 ≤ mI M (g + 9) i) : 0 ≤ wsm M g x n := by
  induction n with
  | zero => exact Int.le_refl _
  | succ n ih =>
    show 0 ≤ wsm M g x n + mI M (g + 9) (x + n)
    have h1 := ih (fun i a b => h i a (by omega))
    have h2 := h (x + n) (by omega) (by omega)
    omega
/-- one branch -/
theorem s_wg_one {Q : mM → Prop} {sm : Int} {t : Nat} (hE : We L W z w g a R cn M) (hI : wgI M0 R cn w S j sm M) (hj : j < 8) (ht : t < cn) (hrs : Rsm M R cn S) (hle : Rle M0 R cn → Rle M R cn) (hW : ∀ x, Twg z w x → B ≤ W x) (b1 : 8 * S + 6 ≤ B) (hB : B ≤ 16000) (hsh : 0 ≤ sh ∧ sh < 1073741824) {v9 f9 : Rat} (hv9 : wgV M0 R cn w v9 M) (hf9 : Rle M0 R cn → (nv M (mR M R t + 1) : Rat) = f9 * (nv M (mR M R t + 3) : Rat))
    (hQ : ∀ M', NL L W (Twg z w) (fun _ => False) False z M M' → wgI M0 R cn w S (j + 1) (sm + sh) M' → wgV M0 R cn w (v9 + (sh : Rat) * f9) M' → Q M') (f : Nat) (ef : mR M R t = f) : mK M f = 11 ∧ mK M (mR M f 0) = 10 ∧ ((mI M (mR M f 0) 1 = 0) → Q M) ∧ (¬ (mI M (mR M f 0) 1 = 0) → (mK M w = 11 ∧ Ci G y_Na_order (d + 4) [vr (mR M w 1), vr (mR M f 1)] M (fun x40 M39 => i32 x40 ∧ mOk M39 ∧ (((x40 = 0) → (mK M39 w = 11 ∧ mK M39 f = 11 ∧ mK M39 (mR M39 w 0) = 10 ∧ Cv G y_Na_add (d + 4) [vr (mR M39 w 0), vr (mR M39 f 0), vi sh] M39 (fun M47 => mOk M47 ∧ Q M47))) ∧ (¬ (x40 = 0) → (mK M39 w = 11 ∧ mK M39 f = 11 ∧ mK M39 z = 9 ∧ Cr G y_Sc_commonDivisor (d + 4) [vr z, vr (mR M39 w 1), vr (mR M39 f 1)] M39 (fun x54 M53 => mOk M53 ∧ (mK M53 z = 9 ∧ mK M53 w = 11 ∧ mK M53 (mR M53 z 7) = 10 ∧ Cv G y_Na_put1 (d + 4) [vr (mR M53 z 7), vr (mR M53 w 1)] M53 (fun M59 => mOk M59 ∧ (mK M59 z = 9 ∧ mK M59 (mR M59 z 7) = 10 ∧ Cv G y_Na_divide (d + 4) [vr (mR M59 z 7), vr x54, vr (mR M59 z 2), vr (mR M59 z 3)] M59 (fun M64 => mOk M64 ∧ (mK M64 z = 9 ∧ mK M64 (mR M64 z 7) = 10 ∧ Cv G y_Na_put1 (d + 4) [vr (mR M64 z 7), vr (mR M64 z 2)] M64 (fun M69 => mOk M69 ∧ (mK M69 z = 9 ∧ mK M69 f = 11 ∧ mK M69 (mR M69 z 8) = 10 ∧ Cv G y_Na_put1 (d + 4) [vr (mR M69 z 8), vr (mR M69 f 1)] M69 (fun M75 => mOk M75 ∧ (mK M75 z = 9 ∧ mK M75 (mR M75 z 8) = 10 ∧ Cv G y_Na_divide (d + 4) [vr (mR M75 z 8), vr x54, vr (mR M75 z 2), vr (mR M75 z 3)] M75 (fun M80 => mOk M80 ∧ (mK M80 z = 9 ∧ mK M80 (mR M80 z 8) = 10 ∧ Cv G y_Na_put1 (d + 4) [vr (mR M80 z 8), vr (mR M80 z 2)] M80 (fun M85 => mOk M85 ∧ (mK M85 z = 9 ∧ mK M85 w = 11 ∧ mK M85 (mR M85 z 5) = 10 ∧ Cv G y_Na_putProduct (d + 4) [vr (mR M85 z 5), vr (mR M85 w 0), vr (mR M85 z 8)] M85 (fun M91 => mOk M91 ∧ (mK M91 w = 11 ∧ mK M91 z = 9 ∧ mK M91 (mR M91 w 0) = 10 ∧ Cv G y_Na_put1 (d + 4) [vr (mR M91 w 0), vr (mR M91 z 5)] M91 (fun M97 => mOk M97 ∧ (mK M97 z = 9 ∧ mK M97 f = 11 ∧ mK M97 (mR M97 z 5) = 10 ∧ Cv G y_Na_putProduct (d + 4) [vr (mR M97 z 5), vr (mR M97 f 0), vr (mR M97 z 7)] M97 (fun M103 => mOk M103 ∧ (mK M103 w = 11 ∧ mK M103 z = 9 ∧ mK M103 (mR M103 w 0) = 10 ∧ Cv G y_Na_add (d + 4) [vr (mR M103 w 0), vr (mR M103 z 5), vi sh] M103 (fun M109 => mOk M109 ∧ (mK M109 z = 9 ∧ mK M109 w = 11 ∧ mK M109 (mR M109 z 5) = 10 ∧ Cv G y_Na_putProduct (d + 4) [vr (mR M109 z 5), vr (mR M109 w 1), vr (mR M109 z 8)] M109 (fun M115 => mOk M115 ∧ (mK M115 w = 11 ∧ mK M115 z = 9 ∧ mK M115 (mR M115 w 1) = 10 ∧ Cv G y_Na_put1 (d + 4) [vr (mR M115 w 1), vr (mR M115 z 5)] M115 (fun M121 => mOk M121 ∧ (Q M121)))))))))))))))))))))))))))))))) := by
  have hw := hE.ws ht
  have dw := hE.2.2.2 t ht
  obtain ⟨rs1, rs2, rs3⟩ := hrs t ht
  have rle : Rle M0 R cn → nv M (f + 1) ≤ nv M (f + 3) ∧ 0 < nv M (f + 3) := fun q => by
    have := hle q t ht
    rw [ef] at this
    exact this
  rw [ef] at hw dw rs1 rs2 rs3 hf9
  obtain ⟨hO, hF, hS, hfw, hff⟩ := id hw
  obtain ⟨⟨k1, k2, k3⟩, -, ⟨w0, w1⟩, ⟨f0, f1⟩, -, -, -, -, -, mw1, mw3, mf1, mf3⟩ := hw.pl
  have A0 := hF.nn0 mw1
  have X0 := hF.nn0 mf1
  obtain ⟨bb1, bb2⟩ := wg_w hj b1
  have hA := wg_bits3 (by omega) hI.2.1
  have hU := wg_bits hI.1.2
  have nw : w + 1 ≠ f + 1 := fun e => dw.2.1 (Or.inr (Or.inr (Or.inr (Or.inr (Or.inl e.symm)))))
  rw [f0, w1, f1, (hF.nt mf1).2.1]
  refine ⟨k3, hF.kd mf1, fun y0 => hQ M (NL.refl hO hF hw.tw noI hS.z9) (wg_skip hI hsh.1 A0) (wv_skip hv9 hf9 ((hF.sz0 mf1).1 (by omega)) (fun q => (rle q).2)), fun _ => ⟨k2, (f_order hO hF mw3 mf3).mono (fun x40 M39 q => ?_)⟩⟩
  obtain ⟨e39, ox⟩ := q
  rw [e39, w0, f0]
  refine ⟨by unfold orQ at ox; exact ⟨by omega, by omega⟩, hO, fun y => ⟨k2, k3, hF.kd mw1, ?_⟩, fun y => ?_⟩
  · have eq : nv M (w + 3) = nv M (f + 3) := by
      rcases ox with u | u | u
      · exact u.2
      · exact absurd y (by rw [u.1]; decide)
      · exact absurd y (by rw [u.1]; decide)
    have sA := hF.szv mw1 hA
    have sF := hF.szv mf1 rs3
    have wW := hW (w + 1) (Or.inr (Or.inr (Or.inr (Or.inr (Or.inl rfl)))))
    refine (f_add (d := d + 1) hsh hO hF mw1 mf1 nw (by omega) (by omega)).mono (fun M47 k => ?_)
    obtain ⟨c, v⟩ := k
    obtain ⟨n1, H1⟩ := hw.st (Or.inr (Or.inr (Or.inr (Or.inr (Or.inl rfl))))) c
    exact ⟨c.ok, hQ M47 n1 (wg_same hI hsh v (c.v hF mw3 (nez (by decide))) ⟨X0, rs3⟩ (fun q => by rw [eq]; exact (rle q).1)) (wv_same hv9 v (c.v hF mw3 (nez (by decide))) (fun q => by rw [eq]; exact hf9 q))⟩
  · have uv : 0 < nv M (w + 3) ∨ 0 < nv M (f + 3) := by
      have n1 := hI.1.1
      unfold orQ at ox
      omega
    refine s_wgDiff (d := d) hw dw hsh uv hA hU rs2 rs3 hW bb1 bb2 hB (fun M' Q1 Q2 r n1 g1 g2 g3 g4 g5 g6 g7 => hQ M' n1 (wg_diff hI A0 hsh g1 g2 g3 g4 g5 ⟨rs1, rs2⟩ g6 g7 ⟨X0, rs3⟩ rle) (wv_diff hv9 g1 g2 g3 g4 hf9))
/-- the loop over the branches -/
theorem s_wg25 (hE0 : We L W z w g a R cn M0) (hrs0 : Rsm M0 R cn S) (hW : ∀ x, Twg z w x → B ≤ W x) (b1 : 8 * S + 6 ≤ B) (hB : B ≤ 16000) (hc : c < 4096) (hcn : cn ≤ 512) (e7 : mI M0 (g + 7) (c + 1) = ((y : Nat) : Int)) (hxy : x ≤ y ∧ y ≤ x + 8 ∧ y ≤ 4096) (hbr : ∀ i, x ≤ i → i < y → 0 ≤ mI M0 (g + 8) i ∧ mI M0 (g + 8) i < cn ∧ 1 ≤ mI M0 (g + 9) i ∧ mI M0 (g + 9) i < 1073741824) {mu : Int} (emu : wsm M0 g x (y - x) = mu) {t0 : Int} {Qw : mM → Prop} (Hm : ∀ M', NL L W (Twg z w) (fun x => x = w) False z M0 M' → mI M' w 2 = t0 → wgI M0 R cn w S (y - x) mu M' → wgV M0 R cn w (wsv M0 R g x (y - x)) M' → Qw M') : ∀ (t i : Nat) (M : mM), y ≤ i + t → x ≤ i → i ≤ y → NL L W (Twg z w) (fun x => x = w) False z M0 M → mI M w 2 = t0 → wgI M0 R cn w S (i - x) (wsm M0 g x (i - x)) M → wgV M0 R cn w (wsv M0 R g x (i - x)) M → h_Sc_weigh_25 G (d + 4) z g c a w i M Qw := by
  intro t
  induction t with
  | zero =>
    intro i M h1 h2 h3 hN ht hI hv9
    obtain ⟨hE, e9, eR, -⟩ := hE0.nl hN
    have ei : i = y := by omega
    subst ei
    rw [emu] at hI
    obtain ⟨-, ⟨⟨g1, ⟨-, -, -, r7, -⟩, k, ⟨-, -, -, n7, -⟩⟩, -⟩, -⟩ := hE
    refine k_Sc_weigh_25 hN.ok ⟨by omega, by omega⟩ ⟨by omega, by omega⟩ ?_
    rw [r7, n7, show Int.toNat ((c : Int) + 1) = c + 1 by omega, e9 7 (by decide), e7]
    exact ⟨g1, k 7 (by decide) (by decide), ⟨by omega, by omega⟩, fun _ => Hm M hN ht hI hv9, fun u => absurd (Int.le_refl _) u⟩
  | succ t ih =>
    intro i M h1 h2 h3 hN ht hI hv9
    by_cases ei : i = y
    · exact ih i M (by omega) h2 h3 hN ht hI hv9
    obtain ⟨hE, e9, eR, vals⟩ := hE0.nl hN
    obtain ⟨b8, b8', b9, b9'⟩ := hbr i h2 (by omega)
    obtain ⟨⟨hO, hF, hS, hfw⟩, ⟨⟨g1, ⟨-, -, -, r7, r8, r9⟩, k, ⟨-, -, -, n7, n8, n9⟩⟩, -⟩, ⟨q1, q2, q3, q4, -⟩, -⟩ := id hE
    obtain ⟨to, eto⟩ : ∃ to : Nat, mI M0 (g + 8) i = ((to : Nat) : Int) := ⟨(mI M0 (g + 8) i).toNat, by omega⟩
    refine k_Sc_weigh_25 hN.ok ⟨by omega, by omega⟩ ⟨by omega, by omega⟩ ?_
    rw [r7, n7, show Int.toNat ((c : Int) + 1) = c + 1 by omega, e9 7 (by decide), e7, r8, n8, q2, r9, n9, Int.toNat_natCast, e9 8 (by decide), e9 9 (by decide), eto, Int.toNat_natCast]
    refine ⟨g1, k 7 (by decide) (by decide), ⟨by omega, by omega⟩, fun u => absurd u (by omega), fun _ => ⟨q1, k 8 (by decide) (by decide), ⟨by omega, by omega⟩, q3, ⟨by omega, by omega⟩, k 9 (by decide) (by decide), ⟨by omega, by omega⟩, ?_⟩⟩
    have hrs : Rsm M R cn S := fun i hi => by
      rw [eR, (vals i hi).1, (vals i hi).2]
      exact hrs0 i hi
    have hle : Rle M0 R cn → Rle M R cn := fun q i hi => by
      rw [eR, (vals i hi).1, (vals i hi).2]
      exact q i hi
    refine s_wg_one (d := d) (Q := fun M' => h_Sc_weigh_291 G (d + 4) z g c a w i M' Qw) hE hI (by omega) (show to < cn by omega) hrs hle hW b1 hB ⟨by omega, b9'⟩ hv9 (f9 := rwv M0 R to) (fun q => by
      rw [eR, (vals to (by omega)).1, (vals to (by omega)).2]
      exact rwv_mul (q to (by omega)).2) (fun M' n1 h1' hv' => ?_) _ rfl
    refine k_Sc_weigh_291 n1.ok ⟨by omega, by omega⟩ ⟨by omega, by omega⟩ ?_
    rw [show ((i : Int) + 1) = ((i + 1 : Nat) : Int) by omega]
    have e1 : i + 1 - x = (i - x) + 1 := by omega
    refine ih (i + 1) M' (by omega) (by omega) (by omega) (hN.trans (n1.mono hF (fun _ e => e) (hE.ws (show to < cn by omega)).tw (fun _ e => e.elim) (hE.ws (show to < cn by omega)).iw (fun e => e))) ?_ ?_ ?_
    · rw [(n1.frp hF hfw.1).2 (fun e => e)]; exact ht
    · rw [e1]
      show wgI M0 R cn w S (i - x + 1) (wsm M0 g x (i - x) + mI M0 (g + 9) (x + (i - x))) M'
      rw [show x + (i - x) = i by omega]
      exact h1'
    · rw [e1]
      show wgV M0 R cn w (wsv M0 R g x (i - x) + (mI M0 (g + 9) (x + (i - x)) : Rat) * rwv M0 R (mI M0 (g + 8) (x + (i - x))).toNat) M'
      rw [show x + (i - x) = i by omega, eto, Int.toNat_natCast]
      exact hv'
theorem wg_end {sm : Int} (hN : NL L W (Twg z w) (fun x => x = w) False z M0 M) (ht : mI M w 2 = sm) (hj : j ≤ 8) (hI : wgI M0 R cn w S j sm M) : wgQ L W z w R cn S sm M0 M := by
  have e : S * j ≤ 8 * S := by rw [Nat.mul_comm 8 S]; exact Nat.mul_le_mul_left _ hj
  refine ⟨hN, ⟨hI.1.1, Int.lt_of_lt_of_le (wg_bits hI.1.2) (p30m (by omega))⟩, Int.lt_of_lt_of_le (wg_bits3 hj hI.2.1) (p30m (by omega)), ht, hI.2.2⟩
/-- a command is weighed -/
theorem f_weighX (hE : We L W z w g a R cn M) (hrs : Rsm M R cn S) (hW : ∀ x, Twg z w x → B ≤ W x) (b1 : 8 * S + 6 ≤ B) (hB : B ≤ 16000) (hc : c < 4096) (hcn : cn ≤ 512) (hbc : bc ≤ 4096) (hcm : cmdG M g cn bc c) : ∃ mu : Nat, (1 ≤ mu ∧ mu < 1000000000) ∧ (cmm M g c).2.1 = ((mu : Nat) : Int) ∧ Cv G y_Sc_weigh (d + 5) [vr z, vr g, vi c, vr a, vr w] M (fun M' => wgQ L W z w R cn S mu M M' ∧ wgV M R cn w (wsL9 (rwv M R) (cmm M g c).2.2) M') := by
  obtain ⟨x, y, mu, h1, h2, ⟨h3, h3'⟩, h4, h5, h6, h7, h8, h9, -⟩ := hcm
  refine ⟨mu, ⟨h7, h8⟩, h6, ?_⟩
  rw [cmm_ws h1 h2]
  obtain ⟨⟨hO, hF, hS, hfw⟩, ⟨hG, hgo⟩, hR, hD⟩ := id hE
  refine k_Sc_weigh hO ⟨by omega, by omega⟩ ⟨hfw.1.1, (f_Fr_put0 (d := d + 3) ⟨by decide, by decide⟩ hO hF hfw hS.z9).mono (fun M2 k => ?_)⟩
  obtain ⟨n0, v1, v3, t2⟩ := k
  have htw : ∀ t, Twg z w t → t ∈ L := by
    intro t ht
    rcases ht with u | u | u | u | u | u
    · exact hS.t4 t u
    · rw [u]; exact hS.2.2.2.2.2.1.2.2.2.2.2.1
    · rw [u]; exact hS.2.2.2.2.2.1.2.2.2.2.2.2.1
    · rw [u]; exact hS.2.2.2.2.2.1.2.2.2.2.2.2.2
    · rw [u]; exact hfw.2.1
    · rw [u]; exact hfw.2.2
  have n2 : NL L W (Twg z w) (fun x => x = w) False z M M2 := n0.mono hF (fun t ht => ht.elim (fun e => Or.inr (Or.inr (Or.inr (Or.inr (Or.inl e))))) (fun e => Or.inr (Or.inr (Or.inr (Or.inr (Or.inr e)))))) htw (fun _ e => e) (fun x e => by rw [e]; exact ⟨hfw.1.2.2, hfw.1.1⟩) (fun e => e)
  obtain ⟨hE2, e9, eR, vals⟩ := hE.nl n2
  obtain ⟨⟨hO2, hF2, hS2, hfw2⟩, ⟨⟨g1, ⟨-, -, r6, r7, -⟩, kk, ⟨-, -, n6, n7, -⟩⟩, hgo2⟩, -⟩ := id hE2
  rw [r6, n6, e9 6 (by decide), Int.toNat_natCast, h6]
  refine ⟨n2.ok, g1, kk 6 (by decide) (by decide), ⟨by omega, by omega⟩, hfw2.1.1, fun M9 e9' => ?_⟩
  obtain ⟨n3, t3, v9⟩ := nl_times (T := Twg z w) (I := fun x => x = w) (r := False) (z := z) n2.ok hF2 hfw2 hS2.z9 ⟨by omega, by omega⟩ e9' htw rfl (fun x e => by rw [e]; exact ⟨hfw2.1.2.2, hfw2.1.1⟩)
  have n9 := n2.trans n3
  obtain ⟨hE9, f9, -, -⟩ := hE.nl n9
  obtain ⟨-, ⟨⟨g1', ⟨-, -, -, r7', -⟩, kk', ⟨-, -, -, n7', -⟩⟩, -⟩, -⟩ := id hE9
  rw [r7', n7', f9 7 (by decide), h1]
  have wl : ∀ i, x ≤ i → i < y → mI M (g + 9) i < 1073741824 := fun i p q => by
    have := wsm_le (M := M) (g := g) (x := x) (n := y - x) (fun i p q => (h5 i p (by omega)).2.2) (y - x) (Nat.le_refl _) i p (by omega)
    rw [h9] at this
    omega
  refine ⟨kk' 7 (by decide) (by decide), ⟨by omega, by omega⟩, ?_⟩
  refine s_wg25 (d := d) (t0 := ((mu : Nat) : Int)) hE hrs hW b1 hB hc hcn h2 ⟨by omega, h3', by omega⟩ (fun i p q => ⟨(h5 i p q).1, (h5 i p q).2.1, (h5 i p q).2.2, wl i p q⟩) h9 (fun M' g2 g3 g4 g5 => ⟨wg_end g2 g3 (by omega) g4, g5⟩) (y - x) x M9 (by omega) (Nat.le_refl _) (by omega) n9 t3 ?_ ?_
  rotate_left
  · rw [Nat.sub_self]
    intro _
    show (nv M9 (w + 1) : Rat) = 0 * (nv M9 (w + 3) : Rat)
    rw [v9 _ hfw.2.1, v1]
    have z0 : ((0 : Int) : Rat) = 0 := rfl
    rw [z0]
    grind
  rw [Nat.sub_self]
  have e0 : (2 : Int) ^ (30 * (S * 0)) = 1 := by rw [Nat.mul_zero]; decide
  refine ⟨⟨by rw [v9 _ hfw.2.2, v3]; decide, by rw [v9 _ hfw.2.2, v3, e0]; decide⟩, by rw [v9 _ hfw.2.1, v1, e0]; decide, fun _ => ?_⟩
  rw [v9 _ hfw.2.1, v1, v9 _ hfw.2.2, v3]
  exact ⟨(by decide : (0 : Int) ≤ 0 * 1), by decide⟩
theorem f_weigh (hE : We L W z w g a R cn M) (hrs : Rsm M R cn S) (hW : ∀ x, Twg z w x → B ≤ W x) (b1 : 8 * S + 6 ≤ B) (hB : B ≤ 16000) (hc : c < 4096) (hcn : cn ≤ 512) (hbc : bc ≤ 4096) (hcm : cmdG M g cn bc c) : ∃ mu : Nat, (1 ≤ mu ∧ mu < 1000000000) ∧ Cv G y_Sc_weigh (d + 5) [vr z, vr g, vi c, vr a, vr w] M (wgQ L W z w R cn S mu M) := by
  obtain ⟨mu, h1, -, h2⟩ := f_weighX (G := G) (d := d) hE hrs hW b1 hB hc hcn hbc hcm
  exact ⟨mu, h1, h2.mono (fun M' q => q.1)⟩
end NAW
