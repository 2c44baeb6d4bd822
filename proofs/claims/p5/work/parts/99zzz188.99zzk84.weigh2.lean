section
/-! The Scales: a command is weighed, the whole. -/
section NAW
variable {G : mG} {d b c z n m w S x y B u g a R cn bc i j mu : Nat} {M M0 M' M1 M2 M3 : mM} {L : List Nat} {W : Nat → Nat} {T T' I I' : Nat → Prop} {r r' : Prop} {sh : Int}
theorem wg_bits {v : Int} (h : v < 2 ^ (30 * (S * j)) * 1073741824) : v < 2 ^ (30 * (S * j + 1)) := by rw [p30]; exact h
theorem wg_bits3 {v : Int} (hj : j ≤ 8) (h : v < ((j : Int) + 1) * (2 ^ (30 * (S * j)) * 1152921504606846976)) : v < 2 ^ (30 * (S * j + 3)) := by
  rw [show S * j + 3 = S * j + 1 + 1 + 1 by omega, p30, p30, p30]
  have h1 := p30p (S * j)
  have h2 := Int.mul_le_mul_of_nonneg_right (show (j : Int) + 1 ≤ 1073741824 by omega) (show 0 ≤ 2 ^ (30 * (S * j)) * 1152921504606846976 by omega)
  omega
theorem wg_w {B S j : Nat} (hj : j < 8) (hB : 8 * S + 6 ≤ B) : S * j + 3 + S + 3 ≤ B ∧ S * j + 1 + S + 3 ≤ B := by
  have h1 : S * j + S = S * (j + 1) := by rw [Nat.mul_add, Nat.mul_one]
  have h2 : S * (j + 1) ≤ S * 8 := Nat.mul_le_mul_left _ (by omega)
  omega
theorem wg_ws {n : Nat} (h : ∀ i, x ≤ i → i < x + n → 1 ≤ mI M (g + 9) i) : 0 ≤ wsm M g x n := by
  induction n with
  | zero => exact Int.le_refl _
  | succ n ih =>
    show 0 ≤ wsm M g x n + mI M (g + 9) (x + n)
    have h1 := ih (fun i a b => h i a (by omega))
    have h2 := h (x + n) (by omega) (by omega)
    omega
/-- one branch -/
theorem s_wg_one {Q : mM → Prop} {sm : Int} {t : Nat} (hE : We L W z w g a R cn M) (hI : wgI M0 R cn w S j sm M) (hj : j < 8) (ht : t < cn) (hrs : Rsm M R cn S) (hle : Rle M0 R cn → Rle M R cn) (hW : ∀ x, Twg z w x → B ≤ W x) (b1 : 8 * S + 6 ≤ B) (hB : B ≤ 16000) (hsh : 0 ≤ sh ∧ sh < 1073741824)
    (hQ : ∀ M', NL L W (Twg z w) (fun _ => False) False z M M' → wgI M0 R cn w S (j + 1) (sm + sh) M' → Q M') (f : Nat) (ef : mR M R t = f) : mK M f = 11 ∧ mK M (mR M f 0) = 10 ∧ ((mI M (mR M f 0) 1 = 0) → Q M) ∧ (¬ (mI M (mR M f 0) 1 = 0) → (mK M w = 11 ∧ Ci G y_Na_order (d + 4) [vr (mR M w 1), vr (mR M f 1)] M (fun x40 M39 => i32 x40 ∧ mOk M39 ∧ (((x40 = 0) → (mK M39 w = 11 ∧ mK M39 f = 11 ∧ mK M39 (mR M39 w 0) = 10 ∧ Cv G y_Na_add (d + 4) [vr (mR M39 w 0), vr (mR M39 f 0), vi sh] M39 (fun M47 => mOk M47 ∧ Q M47))) ∧ (¬ (x40 = 0) → (mK M39 w = 11 ∧ mK M39 f = 11 ∧ mK M39 z = 9 ∧ Cr G y_Sc_commonDivisor (d + 4) [vr z, vr (mR M39 w 1), vr (mR M39 f 1)] M39 (fun x54 M53 => mOk M53 ∧ (mK M53 z = 9 ∧ mK M53 w = 11 ∧ mK M53 (mR M53 z 7) = 10 ∧ Cv G y_Na_put1 (d + 4) [vr (mR M53 z 7), vr (mR M53 w 1)] M53 (fun M59 => mOk M59 ∧ (mK M59 z = 9 ∧ mK M59 (mR M59 z 7) = 10 ∧ Cv G y_Na_divide (d + 4) [vr (mR M59 z 7), vr x54, vr (mR M59 z 2), vr (mR M59 z 3)] M59 (fun M64 => mOk M64 ∧ (mK M64 z = 9 ∧ mK M64 (mR M64 z 7) = 10 ∧ Cv G y_Na_put1 (d + 4) [vr (mR M64 z 7), vr (mR M64 z 2)] M64 (fun M69 => mOk M69 ∧ (mK M69 z = 9 ∧ mK M69 f = 11 ∧ mK M69 (mR M69 z 8) = 10 ∧ Cv G y_Na_put1 (d + 4) [vr (mR M69 z 8), vr (mR M69 f 1)] M69 (fun M75 => mOk M75 ∧ (mK M75 z = 9 ∧ mK M75 (mR M75 z 8) = 10 ∧ Cv G y_Na_divide (d + 4) [vr (mR M75 z 8), vr x54, vr (mR M75 z 2), vr (mR M75 z 3)] M75 (fun M80 => mOk M80 ∧ (mK M80 z = 9 ∧ mK M80 (mR M80 z 8) = 10 ∧ Cv G y_Na_put1 (d + 4) [vr (mR M80 z 8), vr (mR M80 z 2)] M80 (fun M85 => mOk M85 ∧ (mK M85 z = 9 ∧ mK M85 w = 11 ∧ mK M85 (mR M85 z 5) = 10 ∧ Cv G y_Na_putProduct (d + 4) [vr (mR M85 z 5), vr (mR M85 w 0), vr (mR M85 z 8)] M85 (fun M91 => mOk M91 ∧ (mK M91 w = 11 ∧ mK M91 z = 9 ∧ mK M91 (mR M91 w 0) = 10 ∧ Cv G y_Na_put1 (d + 4) [vr (mR M91 w 0), vr (mR M91 z 5)] M91 (fun M97 => mOk M97 ∧ (mK M97 z = 9 ∧ mK M97 f = 11 ∧ mK M97 (mR M97 z 5) = 10 ∧ Cv G y_Na_putProduct (d + 4) [vr (mR M97 z 5), vr (mR M97 f 0), vr (mR M97 z 7)] M97 (fun M103 => mOk M103 ∧ (mK M103 w = 11 ∧ mK M103 z = 9 ∧ mK M103 (mR M103 w 0) = 10 ∧ Cv G y_Na_add (d + 4) [vr (mR M103 w 0), vr (mR M103 z 5), vi sh] M103 (fun M109 => mOk M109 ∧ (mK M109 z = 9 ∧ mK M109 w = 11 ∧ mK M109 (mR M109 z 5) = 10 ∧ Cv G y_Na_putProduct (d + 4) [vr (mR M109 z 5), vr (mR M109 w 1), vr (mR M109 z 8)] M109 (fun M115 => mOk M115 ∧ (mK M115 w = 11 ∧ mK M115 z = 9 ∧ mK M115 (mR M115 w 1) = 10 ∧ Cv G y_Na_put1 (d + 4) [vr (mR M115 w 1), vr (mR M115 z 5)] M115 (fun M121 => mOk M121 ∧ (Q M121)))))))))))))))))))))))))))))))) := by
  have hw := hE.ws ht
  have dw := hE.2.2.2 t ht
  obtain ⟨rs1, rs2, rs3⟩ := hrs t ht
  have rle : Rle M0 R cn → nv M (f + 1) ≤ nv M (f + 3) ∧ 0 < nv M (f + 3) := fun q => by
    have := hle q t ht
    rw [ef] at this
    exact this
  rw [ef] at hw dw rs1 rs2 rs3
  obtain ⟨hO, hF, hS, hfw, hff⟩ := id hw
  obtain ⟨⟨k1, k2, k3⟩, -, ⟨w0, w1⟩, ⟨f0, f1⟩, -, -, -, -, -, mw1, mw3, mf1, mf3⟩ := hw.pl
  have A0 := hF.nn0 mw1
  have X0 := hF.nn0 mf1
  obtain ⟨bb1, bb2⟩ := wg_w hj b1
  have hA := wg_bits3 (by omega) hI.2.1
  have hU := wg_bits hI.1.2
  have nw : w + 1 ≠ f + 1 := fun e => dw.2.1 (Or.inr (Or.inr (Or.inr (Or.inr (Or.inl e.symm)))))
  rw [f0, w1, f1, (hF.nt mf1).2.1]
  refine ⟨k3, hF.kd mf1, fun _ => hQ M (NL.refl hO hF hw.tw noI hS.z9) (wg_skip hI hsh.1 A0), fun _ => ⟨k2, (f_order hO hF mw3 mf3).mono (fun x40 M39 q => ?_)⟩⟩
  obtain ⟨e39, ox⟩ := q
  rw [e39, w0, f0]
  refine ⟨by unfold orQ at ox; exact ⟨by omega, by omega⟩, hO, fun y => ⟨k2, k3, hF.kd mw1, ?_⟩, fun y => ?_⟩
  · have eq : nv M (w + 3) = nv M (f + 3) := by
      rcases ox with u | u | u
      · exact u.2
      · exact absurd y (by rw [u.1]; decide)
      · exact absurd y (by rw [u.1]; decide)
    have sA := hF.szv mw1 hA
    have sF := hF.szv mf1 rs3
    have wW := hW (w + 1) (Or.inr (Or.inr (Or.inr (Or.inr (Or.inl rfl)))))
    refine (f_add (d := d + 1) hsh hO hF mw1 mf1 nw (by omega) (by omega)).mono (fun M47 k => ?_)
    obtain ⟨c, v⟩ := k
    obtain ⟨n1, H1⟩ := hw.st (Or.inr (Or.inr (Or.inr (Or.inr (Or.inl rfl))))) c
    exact ⟨c.ok, hQ M47 n1 (wg_same hI hsh v (c.v hF mw3 (nez (by decide))) ⟨X0, rs3⟩ (fun q => by rw [eq]; exact (rle q).1))⟩
  · have uv : 0 < nv M (w + 3) ∨ 0 < nv M (f + 3) := by
      have n1 := hI.1.1
      unfold orQ at ox
      omega
    refine s_wgDiff (d := d) hw dw hsh uv hA hU rs2 rs3 hW bb1 bb2 hB (fun M' Q1 Q2 r n1 g1 g2 g3 g4 g5 g6 g7 => hQ M' n1 (wg_diff hI A0 hsh g1 g2 g3 g4 g5 ⟨rs1, rs2⟩ g6 g7 ⟨X0, rs3⟩ rle))
/-- the loop over the branches -/
theorem s_wg25 (hE0 : We L W z w g a R cn M0) (hrs0 : Rsm M0 R cn S) (hW : ∀ x, Twg z w x → B ≤ W x) (b1 : 8 * S + 6 ≤ B) (hB : B ≤ 16000) (hc : c < 4096) (hcn : cn ≤ 512) (e7 : mI M0 (g + 7) (c + 1) = ((y : Nat) : Int)) (hxy : x ≤ y ∧ y ≤ x + 8 ∧ y ≤ 4096) (hbr : ∀ i, x ≤ i → i < y → 0 ≤ mI M0 (g + 8) i ∧ mI M0 (g + 8) i < cn ∧ 1 ≤ mI M0 (g + 9) i ∧ mI M0 (g + 9) i < 1073741824) {mu : Int} (emu : wsm M0 g x (y - x) = mu) {t0 : Int} (Hm : ∀ M', NL L W (Twg z w) (fun x => x = w) False z M0 M' → mI M' w 2 = t0 → wgI M0 R cn w S (y - x) mu M' → wgQ L W z w R cn S mu M0 M') : ∀ (t i : Nat) (M : mM), y ≤ i + t → x ≤ i → i ≤ y → NL L W (Twg z w) (fun x => x = w) False z M0 M → mI M w 2 = t0 → wgI M0 R cn w S (i - x) (wsm M0 g x (i - x)) M → h_Sc_weigh_25 G (d + 4) z g c a w i M (wgQ L W z w R cn S mu M0) := by
  intro t
  induction t with
  | zero =>
    intro i M h1 h2 h3 hN ht hI
    obtain ⟨hE, e9, eR, -⟩ := hE0.nl hN
    have ei : i = y := by omega
    subst ei
    rw [emu] at hI
    obtain ⟨-, ⟨⟨g1, ⟨-, -, -, r7, -⟩, k, ⟨-, -, -, n7, -⟩⟩, -⟩, -⟩ := hE
    refine k_Sc_weigh_25 hN.ok ⟨by omega, by omega⟩ ⟨by omega, by omega⟩ ?_
    rw [r7, n7, show Int.toNat ((c : Int) + 1) = c + 1 by omega, e9 7 (by decide), e7]
    exact ⟨g1, k 7 (by decide) (by decide), ⟨by omega, by omega⟩, fun _ => Hm M hN ht hI, fun u => absurd (Int.le_refl _) u⟩
  | succ t ih =>
    intro i M h1 h2 h3 hN ht hI
    by_cases ei : i = y
    · exact ih i M (by omega) h2 h3 hN ht hI
    obtain ⟨hE, e9, eR, vals⟩ := hE0.nl hN
    obtain ⟨b8, b8', b9, b9'⟩ := hbr i h2 (by omega)
    obtain ⟨⟨hO, hF, hS, hfw⟩, ⟨⟨g1, ⟨-, -, -, r7, r8, r9⟩, k, ⟨-, -, -, n7, n8, n9⟩⟩, -⟩, ⟨q1, q2, q3, q4, -⟩, -⟩ := id hE
    obtain ⟨to, eto⟩ : ∃ to : Nat, mI M0 (g + 8) i = ((to : Nat) : Int) := ⟨(mI M0 (g + 8) i).toNat, by omega⟩
    refine k_Sc_weigh_25 hN.ok ⟨by omega, by omega⟩ ⟨by omega, by omega⟩ ?_
    rw [r7, n7, show Int.toNat ((c : Int) + 1) = c + 1 by omega, e9 7 (by decide), e7, r8, n8, q2, r9, n9, Int.toNat_natCast, e9 8 (by decide), e9 9 (by decide), eto, Int.toNat_natCast]
    refine ⟨g1, k 7 (by decide) (by decide), ⟨by omega, by omega⟩, fun u => absurd u (by omega), fun _ => ⟨q1, k 8 (by decide) (by decide), ⟨by omega, by omega⟩, q3, ⟨by omega, by omega⟩, k 9 (by decide) (by decide), ⟨by omega, by omega⟩, ?_⟩⟩
    have hrs : Rsm M R cn S := fun i hi => by
      rw [eR, (vals i hi).1, (vals i hi).2]
      exact hrs0 i hi
    have hle : Rle M0 R cn → Rle M R cn := fun q i hi => by
      rw [eR, (vals i hi).1, (vals i hi).2]
      exact q i hi
    refine s_wg_one (d := d) (Q := fun M' => h_Sc_weigh_291 G (d + 4) z g c a w i M' (wgQ L W z w R cn S mu M0)) hE hI (by omega) (show to < cn by omega) hrs hle hW b1 hB ⟨by omega, b9'⟩ (fun M' n1 h1' => ?_) _ rfl
    refine k_Sc_weigh_291 n1.ok ⟨by omega, by omega⟩ ⟨by omega, by omega⟩ ?_
    rw [show ((i : Int) + 1) = ((i + 1 : Nat) : Int) by omega]
    have e1 : i + 1 - x = (i - x) + 1 := by omega
    refine ih (i + 1) M' (by omega) (by omega) (by omega) (hN.trans (n1.mono hF (fun _ e => e) (hE.ws (show to < cn by omega)).tw (fun _ e => e.elim) (hE.ws (show to < cn by omega)).iw (fun e => e))) ?_ ?_
    · rw [(n1.frp hF hfw.1).2 (fun e => e)]; exact ht
    · rw [e1]
      show wgI M0 R cn w S (i - x + 1) (wsm M0 g x (i - x) + mI M0 (g + 9) (x + (i - x))) M'
      rw [show x + (i - x) = i by omega]
      exact h1'
theorem wg_end {sm : Int} (hN : NL L W (Twg z w) (fun x => x = w) False z M0 M) (ht : mI M w 2 = sm) (hj : j ≤ 8) (hI : wgI M0 R cn w S j sm M) : wgQ L W z w R cn S sm M0 M := by
  have e : S * j ≤ 8 * S := by rw [Nat.mul_comm 8 S]; exact Nat.mul_le_mul_left _ hj
  refine ⟨hN, ⟨hI.1.1, Int.lt_of_lt_of_le (wg_bits hI.1.2) (p30m (by omega))⟩, Int.lt_of_lt_of_le (wg_bits3 hj hI.2.1) (p30m (by omega)), ht, hI.2.2⟩
/-- a command is weighed -/
theorem f_weigh (hE : We L W z w g a R cn M) (hrs : Rsm M R cn S) (hW : ∀ x, Twg z w x → B ≤ W x) (b1 : 8 * S + 6 ≤ B) (hB : B ≤ 16000) (hc : c < 4096) (hcn : cn ≤ 512) (hbc : bc ≤ 4096) (hcm : cmdG M g cn bc c) : ∃ mu : Nat, (1 ≤ mu ∧ mu < 1000000000) ∧ Cv G y_Sc_weigh (d + 5) [vr z, vr g, vi c, vr a, vr w] M (wgQ L W z w R cn S mu M) := by
  obtain ⟨x, y, mu, h1, h2, ⟨h3, h3'⟩, h4, h5, h6, h7, h8, h9, -⟩ := hcm
  refine ⟨mu, ⟨h7, h8⟩, ?_⟩
  obtain ⟨⟨hO, hF, hS, hfw⟩, ⟨hG, hgo⟩, hR, hD⟩ := id hE
  refine k_Sc_weigh hO ⟨by omega, by omega⟩ ⟨hfw.1.1, (f_Fr_put0 (d := d + 3) ⟨by decide, by decide⟩ hO hF hfw hS.z9).mono (fun M2 k => ?_)⟩
  obtain ⟨n0, v1, v3, t2⟩ := k
  have htw : ∀ t, Twg z w t → t ∈ L := by
    intro t ht
    rcases ht with u | u | u | u | u | u
    · exact hS.t4 t u
    · rw [u]; exact hS.2.2.2.2.2.1.2.2.2.2.2.1
    · rw [u]; exact hS.2.2.2.2.2.1.2.2.2.2.2.2.1
    · rw [u]; exact hS.2.2.2.2.2.1.2.2.2.2.2.2.2
    · rw [u]; exact hfw.2.1
    · rw [u]; exact hfw.2.2
  have n2 : NL L W (Twg z w) (fun x => x = w) False z M M2 := n0.mono hF (fun t ht => ht.elim (fun e => Or.inr (Or.inr (Or.inr (Or.inr (Or.inl e))))) (fun e => Or.inr (Or.inr (Or.inr (Or.inr (Or.inr e)))))) htw (fun _ e => e) (fun x e => by rw [e]; exact ⟨hfw.1.2.2, hfw.1.1⟩) (fun e => e)
  obtain ⟨hE2, e9, eR, vals⟩ := hE.nl n2
  obtain ⟨⟨hO2, hF2, hS2, hfw2⟩, ⟨⟨g1, ⟨-, -, r6, r7, -⟩, kk, ⟨-, -, n6, n7, -⟩⟩, hgo2⟩, -⟩ := id hE2
  rw [r6, n6, e9 6 (by decide), Int.toNat_natCast, h6]
  refine ⟨n2.ok, g1, kk 6 (by decide) (by decide), ⟨by omega, by omega⟩, hfw2.1.1, fun M9 e9' => ?_⟩
  obtain ⟨n3, t3, v9⟩ := nl_times (T := Twg z w) (I := fun x => x = w) (r := False) (z := z) n2.ok hF2 hfw2 hS2.z9 ⟨by omega, by omega⟩ e9' htw rfl (fun x e => by rw [e]; exact ⟨hfw2.1.2.2, hfw2.1.1⟩)
  have n9 := n2.trans n3
  obtain ⟨hE9, f9, -, -⟩ := hE.nl n9
  obtain ⟨-, ⟨⟨g1', ⟨-, -, -, r7', -⟩, kk', ⟨-, -, -, n7', -⟩⟩, -⟩, -⟩ := id hE9
  rw [r7', n7', f9 7 (by decide), h1]
  have wl : ∀ i, x ≤ i → i < y → mI M (g + 9) i < 1073741824 := fun i p q => by
    have := wsm_le (M := M) (g := g) (x := x) (n := y - x) (fun i p q => (h5 i p (by omega)).2.2) (y - x) (Nat.le_refl _) i p (by omega)
    rw [h9] at this
    omega
  refine ⟨kk' 7 (by decide) (by decide), ⟨by omega, by omega⟩, ?_⟩
  refine s_wg25 (d := d) (t0 := ((mu : Nat) : Int)) hE hrs hW b1 hB hc hcn h2 ⟨by omega, h3', by omega⟩ (fun i p q => ⟨(h5 i p q).1, (h5 i p q).2.1, (h5 i p q).2.2, wl i p q⟩) h9 (fun M' g2 g3 g4 => wg_end g2 g3 (by omega) g4) (y - x) x M9 (by omega) (Nat.le_refl _) (by omega) n9 t3 ?_
  rw [Nat.sub_self]
  have e0 : (2 : Int) ^ (30 * (S * 0)) = 1 := by rw [Nat.mul_zero]; decide
  refine ⟨⟨by rw [v9 _ hfw.2.2, v3]; decide, by rw [v9 _ hfw.2.2, v3, e0]; decide⟩, by rw [v9 _ hfw.2.1, v1, e0]; decide, fun _ => ?_⟩
  rw [v9 _ hfw.2.1, v1, v9 _ hfw.2.2, v3]
  exact ⟨(by decide : (0 : Int) ≤ 0 * 1), by decide⟩
end NAW
end
section
/-! The Scales: two fractions are compared; a fraction is brought to least terms. -/
section NAX
variable {G : mG} {d b c z n m w S x y B u g a R cn f f' s : Nat} {M M0 M' M1 M2 M3 : mM} {L : List Nat} {W : Nat → Nat} {T T' I I' : Nat → Prop} {r r' : Prop} {sh : Int}
def Tor (z x : Nat) : Prop := x = z + 9 ∨ x = z + 11
/-- what comparing works with -/
def Ors (L : List Nat) (W : Nat → Nat) (z f f' : Nat) (M : mM) : Prop := mOk M ∧ NF L W M ∧ SK L M z ∧ FrL L M f ∧ FrL L M f'
theorem Ors.nl (h : Ors L W z f f' M) (k : NL L W (Tor z) (fun _ => False) False z M M') : Ors L W z f f' M' := by
  obtain ⟨h1, h2, h3, h4, h5⟩ := h
  exact ⟨k.ok, k.nf, k.sk h2 h3, k.frl h2 h4, k.frl h2 h5⟩
theorem Ors.tor (h : Ors L W z f f' M) : ∀ t, Tor z t → t ∈ L := fun t ht => by
  have k := h.2.2.1.2.2.2.2.2.1
  rcases ht with e | e
  · rw [e]; exact k.2.2.2.2.1
  · rw [e]; exact k.2.2.2.2.2.1
theorem Ors.st (h : Ors L W z f f' M) (ha : Tor z a) (c : NC L W (fun x => x = a) M M') : NL L W (Tor z) (fun _ => False) False z M M' ∧ Ors L W z f f' M' := by
  have n : NL L W (Tor z) (fun _ => False) False z M M' := (c.nl (I := fun _ => False) (r := False) noI h.2.2.1.z9).mono h.2.1 (fun t ht => by rw [ht]; exact ha) h.tor (fun _ u => u) noI (fun u => u)
  exact ⟨n, h.nl n⟩
theorem Ors.pl (h : Ors L W z f f' M) : (mK M z = 9 ∧ mK M f = 11 ∧ mK M f' = 11) ∧ (mR M z 4 = z + 9 ∧ mR M z 5 = z + 11) ∧ ((mR M f 0 = f + 1 ∧ mR M f 1 = f + 3) ∧ (mR M f' 0 = f' + 1 ∧ mR M f' 1 = f' + 3)) ∧ (z + 9 ∈ L ∧ z + 11 ∈ L ∧ f + 1 ∈ L ∧ f + 3 ∈ L ∧ f' + 1 ∈ L ∧ f' + 3 ∈ L) := by
  obtain ⟨-, -, ⟨k1, ⟨-, -, -, -, k4, k5, -⟩, -, -, -, ⟨-, -, -, -, p1, p2, -⟩, -⟩, ⟨⟨q1, q2, -⟩, q3, q4⟩, ⟨⟨r1, r2, -⟩, r3, r4⟩⟩ := h
  exact ⟨⟨k1.1, q1, r1⟩, ⟨k4, k5⟩, ⟨q2, r2⟩, p1, p2, q3, q4, r3, r4⟩
/-- numbers of at most s limbs, small factors -/
def Osz (M : mM) (f s : Nat) : Prop := sz M (f + 1) ≤ s ∧ sz M (f + 3) ≤ s ∧ (1 ≤ mI M f 2 ∧ mI M f 2 < 1073741824)
theorem mul_sz {v t : Int} (hv : 0 ≤ v ∧ v < 2 ^ (30 * s)) (ht : 1 ≤ t ∧ t < 1073741824) : 0 ≤ t * v ∧ t * v < 2 ^ (30 * (s + 1)) := by
  rw [p30, Int.mul_comm]
  have h1 : v * t ≤ v * 1073741824 := Int.mul_le_mul_of_nonneg_left (by omega) hv.1
  have h2 := Int.mul_nonneg hv.1 (show 0 ≤ t by omega)
  omega
/-- from the two products on -/
theorem s_orEnd (h : Ors L W z f f' M) (t1 : 1 ≤ mI M f' 2 ∧ mI M f' 2 < 1073741824) (t2 : 1 ≤ mI M f 2 ∧ mI M f 2 < 1073741824) (s1 : sz M (z + 9) + 1 ≤ W (z + 9)) (s2 : sz M (z + 11) + 1 ≤ W (z + 11)) : mK M z = 9 ∧ mK M f' = 11 ∧ mK M (mR M z 4) = 10 ∧ Cv G y_Na_multiply (d + 4) [vr (mR M z 4), vi (mI M f' 2)] M (fun M26 => mOk M26 ∧ (mK M26 z = 9 ∧ mK M26 f = 11 ∧ mK M26 (mR M26 z 5) = 10 ∧ Cv G y_Na_multiply (d + 4) [vr (mR M26 z 5), vi (mI M26 f 2)] M26 (fun M32 => mOk M32 ∧ (mK M32 z = 9 ∧ Ci G y_Na_order (d + 4) [vr (mR M32 z 4), vr (mR M32 z 5)] M32 (fun x37 M36 => i32 x37 ∧ mOk M36 ∧ (NL L W (Tor z) (fun _ => False) False z M M36 ∧ (x37 = -1 ∨ x37 = 0 ∨ x37 = 1))))))) := by
  obtain ⟨⟨k1, k2, k3⟩, ⟨r4, r5⟩, -, m9, m11, mf1, mf3, mg1, mg3⟩ := h.pl
  rw [r4]
  refine ⟨k1, k3, h.2.1.kd m9, (f_multiply (d := d + 2) t1 h.1 h.2.1 m9 s1).mono (fun M26 k => ?_)⟩
  obtain ⟨c1, v1⟩ := k
  obtain ⟨n1, H1⟩ := h.st (Or.inl rfl) c1
  obtain ⟨⟨k1, k2, k3⟩, ⟨r4, r5⟩, -⟩ := H1.pl
  have e2 : mI M26 f = mI M f := (n1.frp h.2.1 h.2.2.2.1.1).2 (fun e => e)
  have z11 := (c1.num h.2.1 m11 (nez (by decide))).2.2.2.1
  rw [r5, e2]
  refine ⟨H1.1, k1, k2, H1.2.1.kd m11, (f_multiply (d := d + 2) t2 H1.1 H1.2.1 m11 (by rw [z11]; exact s2)).mono (fun M32 k => ?_)⟩
  obtain ⟨c2, v2⟩ := k
  obtain ⟨n2, H2⟩ := H1.st (Or.inr rfl) c2
  obtain ⟨⟨k1, k2, k3⟩, ⟨r4, r5⟩, -⟩ := H2.pl
  rw [r4, r5]
  refine ⟨H2.1, k1, (f_order (d := d + 4) H2.1 H2.2.1 m9 m11).mono (fun x M36 k => ?_)⟩
  obtain ⟨e, ox⟩ := k
  rw [e]
  have xx : x = -1 ∨ x = 0 ∨ x = 1 := by unfold orQ at ox; omega
  exact ⟨by rcases xx with e | e | e <;> rw [e] <;> exact ⟨by decide, by decide⟩, H2.1, n1.trans n2, xx⟩
/-- two fractions are compared -/
theorem f_Sc_order (h : Ors L W z f f' M) (o1 : Osz M f s) (o2 : Osz M f' s) (nf : ¬ Tor z (f + 1) ∧ ¬ Tor z (f + 3)) (nf' : ¬ Tor z (f' + 1) ∧ ¬ Tor z (f' + 3)) (w9 : 2 * s + 1 ≤ W (z + 9)) (w11 : 2 * s + 1 ≤ W (z + 11)) : Ci G y_Sc_order (d + 5) [vr z, vr f, vr f'] M (fun x M' => NL L W (Tor z) (fun _ => False) False z M M' ∧ (x = -1 ∨ x = 0 ∨ x = 1)) := by
  obtain ⟨⟨k1, k2, k3⟩, ⟨r4, r5⟩, ⟨⟨f0, f1⟩, g0, g1⟩, m9, m11, mf1, mf3, mg1, mg3⟩ := h.pl
  obtain ⟨a1, a2, a3⟩ := o1
  obtain ⟨b1, b2, b3⟩ := o2
  have e9f1 : z + 9 ≠ f + 1 := fun e => nf.1 (Or.inl e.symm)
  have e11f3 : z + 11 ≠ f + 3 := fun e => nf.2 (Or.inr e.symm)
  have e9g3 : z + 9 ≠ f' + 3 := fun e => nf'.2 (Or.inl e.symm)
  have e11g1 : z + 11 ≠ f' + 1 := fun e => nf'.1 (Or.inr e.symm)
  have hF := h.2.1
  refine k_Sc_order h.1 ?_
  rw [f1, g1]
  refine ⟨k2, k3, (f_order (d := d + 4) h.1 hF mf3 mg3).mono (fun x4 M3 k => ?_)⟩
  obtain ⟨e3, ox⟩ := k
  rw [e3, r4]
  refine ⟨by unfold orQ at ox; exact ⟨by omega, by omega⟩, h.1, fun _ => ⟨k1, k2, hF.kd m9, ?_⟩, fun _ => ⟨k1, k2, k3, hF.kd m9, ?_⟩⟩
  · rw [f0]
    refine (f_put1 (d := d + 3) h.1 hF m9 mf1 e9f1 (by omega)).mono (fun M14 k => ?_)
    obtain ⟨c1, v1⟩ := k
    obtain ⟨n1, H1⟩ := h.st (Or.inl rfl) c1
    obtain ⟨⟨k1, k2, k3⟩, ⟨r4, r5⟩, ⟨⟨f0, f1⟩, g0, g1⟩, -⟩ := H1.pl
    have s9 : sz M14 (z + 9) ≤ s := H1.2.1.szv m9 (by rw [v1]; exact Int.lt_of_lt_of_le (hF.vlt mf1) (p30m a1))
    have sg := (n1.num hF mg1 nf'.1).2
    rw [r5, g0]
    refine ⟨H1.1, k1, k3, H1.2.1.kd m11, (f_put1 (d := d + 3) H1.1 H1.2.1 m11 mg1 e11g1 (by omega)).mono (fun M20 k => ?_)⟩
    obtain ⟨c2, v2⟩ := k
    obtain ⟨n2, H2⟩ := H1.st (Or.inr rfl) c2
    have N2 := n1.trans n2
    have s11 : sz M20 (z + 11) ≤ s := H2.2.1.szv m11 (by rw [v2, sg.2]; exact Int.lt_of_lt_of_le (hF.vlt mg1) (p30m b1))
    have s9' := (c2.num H1.2.1 m9 (nez (by decide))).2.2.2.1
    have ef := (N2.frp hF h.2.2.2.1.1).2 (fun e => e)
    have eg := (N2.frp hF h.2.2.2.2.1).2 (fun e => e)
    obtain ⟨q1, q2, q3, q4⟩ := s_orEnd (G := G) (d := d) H2 (by rw [eg]; exact b3) (by rw [ef]; exact a3) (by omega) (by omega)
    exact ⟨H2.1, q1, q2, q3, q4.mono (fun M26 ⟨p1, p2, p3, p4, p5⟩ => ⟨p1, p2, p3, p4, p5.mono (fun M32 ⟨p6, p7, p8⟩ => ⟨p6, p7, p8.mono (fun x M36 ⟨p9, p10, p11, p12⟩ => ⟨p9, p10, N2.trans p11, p12⟩)⟩)⟩)⟩
  · rw [f0, g1]
    refine (f_putProduct (d := d + 1) h.1 hF m9 mf1 mg3 e9f1 e9g3 (by omega)).mono (fun M14 k => ?_)
    obtain ⟨c1, v1⟩ := k
    obtain ⟨n1, H1⟩ := h.st (Or.inl rfl) c1
    obtain ⟨⟨k1, k2, k3⟩, ⟨r4, r5⟩, ⟨⟨f0, f1⟩, g0, g1⟩, -⟩ := H1.pl
    have s9 : sz M14 (z + 9) ≤ s + s := H1.2.1.szv m9 (by rw [v1]; exact pb ⟨hF.nn0 mf1, Int.lt_of_lt_of_le (hF.vlt mf1) (p30m a1)⟩ ⟨hF.nn0 mg3, Int.lt_of_lt_of_le (hF.vlt mg3) (p30m b2)⟩)
    have sg := (n1.num hF mg1 nf'.1).2
    have sf := (n1.num hF mf3 nf.2).2
    rw [r5, g0, f1]
    refine ⟨H1.1, k1, k3, k2, H1.2.1.kd m11, (f_putProduct (d := d + 1) H1.1 H1.2.1 m11 mg1 mf3 e11g1 e11f3 (by omega)).mono (fun M20 k => ?_)⟩
    obtain ⟨c2, v2⟩ := k
    obtain ⟨n2, H2⟩ := H1.st (Or.inr rfl) c2
    have N2 := n1.trans n2
    have s11 : sz M20 (z + 11) ≤ s + s := H2.2.1.szv m11 (by rw [v2, sg.2, sf.2]; exact pb ⟨hF.nn0 mg1, Int.lt_of_lt_of_le (hF.vlt mg1) (p30m b1)⟩ ⟨hF.nn0 mf3, Int.lt_of_lt_of_le (hF.vlt mf3) (p30m a2)⟩)
    have s9' := (c2.num H1.2.1 m9 (nez (by decide))).2.2.2.1
    have ef := (N2.frp hF h.2.2.2.1.1).2 (fun e => e)
    have eg := (N2.frp hF h.2.2.2.2.1).2 (fun e => e)
    obtain ⟨q1, q2, q3, q4⟩ := s_orEnd (G := G) (d := d) H2 (by rw [eg]; exact b3) (by rw [ef]; exact a3) (by omega) (by omega)
    exact ⟨H2.1, q1, q2, q3, q4.mono (fun M26 ⟨p1, p2, p3, p4, p5⟩ => ⟨p1, p2, p3, p4, p5.mono (fun M32 ⟨p6, p7, p8⟩ => ⟨p6, p7, p8.mono (fun x M36 ⟨p9, p10, p11, p12⟩ => ⟨p9, p10, N2.trans p11, p12⟩)⟩)⟩)⟩
end NAX
end
section
/-! The Scales: least terms, fitting, whole parts. -/
section NAY
variable {G : mG} {d b c z n m w S x y B u g a R cn f s : Nat} {M M0 M' M1 M2 M3 : mM} {L : List Nat} {W : Nat → Nat} {T T' I I' : Nat → Prop} {sh t : Int}
def Tre (z f x : Nat) : Prop := T4 z x ∨ x = f + 1 ∨ x = f + 3
def Rds (L : List Nat) (W : Nat → Nat) (z f : Nat) (M : mM) : Prop := mOk M ∧ NF L W M ∧ SK L M z ∧ FrL L M f
theorem Rds.tre (h : Rds L W z f M) : ∀ t, Tre z f t → t ∈ L := fun t ht => by
  rcases ht with e | e | e
  · exact h.2.2.1.t4 t e
  · rw [e]; exact h.2.2.2.2.1
  · rw [e]; exact h.2.2.2.2.2
theorem Rds.iw (h : Rds L W z f M) : ∀ x, (fun x => x = f) x → x < mZ M ∧ mK M x = 11 := fun x u => by
  rw [u]
  exact ⟨h.2.2.2.1.2.2, h.2.2.2.1.1⟩
theorem Rds.nl (h : Rds L W z f M) (k : NL L W (Tre z f) (fun x => x = f) False z M M') : Rds L W z f M' := ⟨k.ok, k.nf, k.sk h.2.1 h.2.2.1, k.frl h.2.1 h.2.2.2⟩
theorem Rds.st (h : Rds L W z f M) (ha : Tre z f a) (c : NC L W (fun x => x = a) M M') : NL L W (Tre z f) (fun x => x = f) False z M M' ∧ Rds L W z f M' := by
  have n : NL L W (Tre z f) (fun x => x = f) False z M M' := (c.nl (I := fun x => x = f) (r := False) h.iw h.2.2.1.z9).mono h.2.1 (fun t ht => by rw [ht]; exact ha) h.tre (fun _ u => u) h.iw (fun u => u)
  exact ⟨n, h.nl n⟩
theorem Rds.st3 (h : Rds L W z f M) (ha : Tre z f a ∧ Tre z f b ∧ Tre z f c) (k : NC L W (fun x => x = a ∨ x = b ∨ x = c) M M') : NL L W (Tre z f) (fun x => x = f) False z M M' ∧ Rds L W z f M' := by
  have n : NL L W (Tre z f) (fun x => x = f) False z M M' := (k.nl (I := fun x => x = f) (r := False) h.iw h.2.2.1.z9).mono h.2.1 (fun t ht => by
    rcases ht with u | u | u
    · rw [u]; exact ha.1
    · rw [u]; exact ha.2.1
    · rw [u]; exact ha.2.2) h.tre (fun _ u => u) h.iw (fun u => u)
  exact ⟨n, h.nl n⟩
theorem Rds.pl (h : Rds L W z f M) : (mK M z = 9 ∧ mK M f = 11) ∧ (mR M z 2 = z + 5 ∧ mR M z 3 = z + 7) ∧ (mR M f 0 = f + 1 ∧ mR M f 1 = f + 3) ∧ (z + 5 ∈ L ∧ z + 7 ∈ L ∧ f + 1 ∈ L ∧ f + 3 ∈ L) := by
  obtain ⟨-, -, ⟨k1, ⟨-, -, k2, k3, -⟩, -, -, -, ⟨-, -, p1, p2, -⟩, -⟩, ⟨⟨q1, q2, -⟩, q3, q4⟩⟩ := h
  exact ⟨⟨k1.1, q1⟩, ⟨k2, k3⟩, q2, p1, p2, q3, q4⟩
/-- both numbers are divided -/
theorem s_rdDiv {Q : mM → Prop} {r : Nat} {A V q : Int} (h : Rds L W z f M) (er : r = z + 1 ∨ r = z + 3) (nf : ¬ T4 z (f + 1) ∧ ¬ T4 z (f + 3)) (hA : nv M (f + 1) = A) (hV : nv M (f + 3) = V) (hq : nv M r = q) (q0 : 0 < q) (d1 : q ∣ A) (d2 : q ∣ V) (A0 : 0 < A) (s1 : sz M (f + 1) + 2 ≤ s) (s2 : sz M (f + 3) + 2 ≤ s) (w1 : s ≤ W (f + 1)) (w3 : s ≤ W (f + 3)) (w5 : s ≤ W (z + 5)) (w7 : s ≤ W (z + 7))
    (hQ : ∀ M' Q1 Q2, NL L W (Tre z f) (fun x => x = f) False z M M' → mI M' f 2 = mI M f 2 → nv M' (f + 1) = Q1 → nv M' (f + 3) = Q2 → A = q * Q1 → V = q * Q2 → 0 ≤ Q1 → 0 ≤ Q2 → Q M') : mK M f = 11 ∧ mK M z = 9 ∧ mK M (mR M f 0) = 10 ∧ Cv G y_Na_divide (d + 4) [vr (mR M f 0), vr r, vr (mR M z 2), vr (mR M z 3)] M (fun M32 => mOk M32 ∧ (mK M32 f = 11 ∧ mK M32 z = 9 ∧ mK M32 (mR M32 f 0) = 10 ∧ Cv G y_Na_put1 (d + 4) [vr (mR M32 f 0), vr (mR M32 z 2)] M32 (fun M38 => mOk M38 ∧ (mK M38 f = 11 ∧ mK M38 z = 9 ∧ mK M38 (mR M38 f 1) = 10 ∧ Cv G y_Na_divide (d + 4) [vr (mR M38 f 1), vr r, vr (mR M38 z 2), vr (mR M38 z 3)] M38 (fun M44 => mOk M44 ∧ (mK M44 f = 11 ∧ mK M44 z = 9 ∧ mK M44 (mR M44 f 1) = 10 ∧ Cv G y_Na_put1 (d + 4) [vr (mR M44 f 1), vr (mR M44 z 2)] M44 (fun M50 => mOk M50 ∧ (Q M50)))))))) := by
  obtain ⟨⟨k1, k2⟩, ⟨r2, r3⟩, ⟨f0, f1⟩, m5, m7, mf1, mf3⟩ := h.pl
  obtain ⟨⟨rn5, rn7, -, -⟩, -⟩ := r_n er
  have tr : T4 z r := er.elim Or.inl (fun e => Or.inr (Or.inl e))
  have mr : r ∈ L := h.2.2.1.t4 r tr
  have rf1 : r ≠ f + 1 := fun e => nf.1 (by rw [← e]; exact tr)
  have rf3 : r ≠ f + 3 := fun e => nf.2 (by rw [← e]; exact tr)
  have t5 : Tre z f (z + 5) := Or.inl (Or.inr (Or.inr (Or.inl rfl)))
  have t7 : Tre z f (z + 7) := Or.inl (Or.inr (Or.inr (Or.inr rfl)))
  have f15 : f + 1 ≠ z + 5 := fun e => nf.1 (Or.inr (Or.inr (Or.inl e)))
  have f17 : f + 1 ≠ z + 7 := fun e => nf.1 (Or.inr (Or.inr (Or.inr e)))
  have f35 : f + 3 ≠ z + 5 := fun e => nf.2 (Or.inr (Or.inr (Or.inl e)))
  have f37 : f + 3 ≠ z + 7 := fun e => nf.2 (Or.inr (Or.inr (Or.inr e)))
  have f13 : f + 3 ≠ f + 1 := nez (by decide)
  have hF := h.2.1
  have qV := Int.le_of_dvd A0 d1
  have sr : sz M r ≤ sz M (f + 1) := hF.szm hF mr mf1 (by rw [hq, hA]; exact qV)
  rw [f0, r2, r3]
  refine ⟨k2, k1, hF.kd mf1, (f_divide (d := d + 1) h.1 hF mf1 mr m5 m7 (fun e => rf1 e.symm) f15 f17 rn5 rn7 (nez (by decide)) (by rw [hq]; exact q0) (by omega) (by omega) (by omega)).mono (fun M32 g => ?_)⟩
  obtain ⟨c1, v1, l1⟩ := g
  obtain ⟨n1, H1⟩ := h.st3 ⟨Or.inr (Or.inl rfl), t5, t7⟩ c1
  have F1 := H1.2.1
  rw [hA, hq] at v1
  rw [hq] at l1
  have Q1n := F1.nn0 m5
  have EA := dv_ex q0 d1 v1 ⟨F1.nn0 mf1, l1⟩
  have R1 := ((c1.num hF mr (fun e => e.elim rf1 (fun e => e.elim rn5 rn7))).2.2.2.2.1).trans hq
  have N3 := (c1.num hF mf3 (fun e => e.elim f13 (fun e => e.elim f35 f37))).2.2.2
  have sq1 : sz M32 (z + 5) ≤ sz M (f + 1) := F1.szm hF m5 mf1 (by
    rw [hA, EA]
    have := Int.mul_le_mul_of_nonneg_right (show 1 ≤ q by omega) Q1n
    omega)
  obtain ⟨⟨k1, k2⟩, ⟨r2, r3⟩, ⟨f0, f1⟩, -⟩ := H1.pl
  rw [f0, r2]
  refine ⟨H1.1, k2, k1, F1.kd mf1, (f_put1 (d := d + 3) H1.1 F1 mf1 m5 f15 (by omega)).mono (fun M38 g => ?_)⟩
  obtain ⟨c2, v2⟩ := g
  obtain ⟨n2, H2⟩ := H1.st (Or.inr (Or.inl rfl)) c2
  have F2 := H2.2.1
  have R2 := (c2.v F1 mr rf1).trans R1
  have V2 := (c2.num F1 mf3 f13).2.2.2
  have V2' := (V2.2.1.trans N3.2.1).trans hV
  have sr2 : sz M38 r ≤ sz M (f + 1) := F2.szm hF mr mf1 (by rw [R2, hA]; exact qV)
  obtain ⟨⟨k1, k2⟩, ⟨r2, r3⟩, ⟨f0, f1⟩, -⟩ := H2.pl
  rw [f1, r2, r3]
  refine ⟨H2.1, k2, k1, F2.kd mf3, (f_divide (d := d + 1) H2.1 F2 mf3 mr m5 m7 (fun e => rf3 e.symm) f35 f37 rn5 rn7 (nez (by decide)) (by rw [R2]; exact q0) (by omega) (by omega) (by omega)).mono (fun M44 g => ?_)⟩
  obtain ⟨c3, v3, l3⟩ := g
  obtain ⟨n3, H3⟩ := H2.st3 ⟨Or.inr (Or.inr rfl), t5, t7⟩ c3
  have F3 := H3.2.1
  rw [V2', R2] at v3
  rw [R2] at l3
  have Q2n := F3.nn0 m5
  have EV := dv_ex q0 d2 v3 ⟨F3.nn0 mf3, l3⟩
  have A3 := ((c3.num F2 mf1 (fun e => e.elim (fun e => f13 e.symm) (fun e => e.elim f15 f17))).2.2.2.2.1).trans v2
  have sq2 : sz M44 (z + 5) ≤ sz M38 (f + 3) := F3.szm F2 m5 mf3 (by
    rw [V2', EV]
    have := Int.mul_le_mul_of_nonneg_right (show 1 ≤ q by omega) Q2n
    omega)
  obtain ⟨⟨k1, k2⟩, ⟨r2, r3⟩, ⟨f0, f1⟩, -⟩ := H3.pl
  rw [f1, r2]
  refine ⟨H3.1, k2, k1, F3.kd mf3, (f_put1 (d := d + 3) H3.1 F3 mf3 m5 f35 (by omega)).mono (fun M50 g => ?_)⟩
  obtain ⟨c4, v4⟩ := g
  obtain ⟨n4, H4⟩ := H3.st (Or.inr (Or.inr rfl)) c4
  have ti : ∀ {M M' : mM} {T : Nat → Prop}, FrL L M f → NF L W M → z < mZ M ∧ mK M z = 9 → NC L W T M M' → mI M' f = mI M f := fun hf hF hz c => ((c.nl (I := fun _ => False) (r := False) noI hz).frp hF hf.1).2 (fun e => e)
  refine ⟨H4.1, hQ M50 (nv M32 (z + 5)) (nv M44 (z + 5)) (((n1.trans n2).trans n3).trans n4) ?_ ((c4.v F3 mf1 (fun e => f13 e.symm)).trans A3) v4 EA EV Q1n Q2n⟩
  rw [ti H3.2.2.2 F3 H3.2.2.1.z9 c4, ti H2.2.2.2 F2 H2.2.2.1.z9 c3, ti H1.2.2.2 F1 H1.2.2.1.z9 c2, ti h.2.2.2 hF h.2.2.1.z9 c1]
/-- what least terms leave behind -/
def rdQ2 (L : List Nat) (W : Nat → Nat) (z f : Nat) (t A V : Int) (M M' : mM) : Prop := NL L W (Tre z f) (fun x => x = f) False z M M' ∧ mI M' f 2 = 1 ∧ (0 < V → 0 < nv M' (f + 3)) ∧ nv M' (f + 1) ≤ A ∧ (0 < V → nv M' (f + 3) ≤ t * V) ∧ (A ≤ t * V → nv M' (f + 1) ≤ nv M' (f + 3))
theorem f_reduce (h : Rds L W z f M) (nf : ¬ T4 z (f + 1) ∧ ¬ T4 z (f + 3)) (ht : mI M f 2 = t) (t1 : 1 ≤ t ∧ t < 1073741824) (s1 : sz M (f + 1) ≤ s) (s3 : sz M (f + 3) ≤ s) (hs : s ≤ 15000) (hW : ∀ x, Tre z f x → s + 3 ≤ W x) : Cv G y_Sc_reduce (d + 5) [vr z, vr f] M (rdQ2 L W z f t (nv M (f + 1)) (nv M (f + 3)) M) := by
  obtain ⟨⟨k1, k2⟩, ⟨r2, r3⟩, ⟨f0, f1⟩, m5, m7, mf1, mf3⟩ := h.pl
  have hF := h.2.1
  have w1 := hW _ (Or.inr (Or.inl rfl))
  have w3 := hW _ (Or.inr (Or.inr rfl))
  have f13 : f + 3 ≠ f + 1 := nez (by decide)
  have A0 := hF.nn0 mf1
  refine k_Sc_reduce h.1 ?_
  rw [f1, ht]
  refine ⟨k2, hF.kd mf3, (f_multiply (d := d + 2) t1 h.1 hF mf3 (by omega)).mono (fun M3 k => ?_)⟩
  obtain ⟨c1, v1⟩ := k
  obtain ⟨n1, H1⟩ := h.st (Or.inr (Or.inr rfl)) c1
  have a1 := (c1.num hF mf1 (fun e => f13 e.symm)).2.2.2
  refine ⟨c1.ok, H1.2.2.2.1.1, fun M7 e7 => ?_⟩
  obtain ⟨n2, t2, vv⟩ := nl_times (T := Tre z f) (I := fun x => x = f) (r := False) (z := z) c1.ok H1.2.1 H1.2.2.2 H1.2.2.1.z9 ⟨by decide, by decide⟩ e7 h.tre rfl H1.iw
  have H2 := H1.nl n2
  have N2 := n1.trans n2
  have F2 := H2.2.1
  have A2 : nv M7 (f + 1) = nv M (f + 1) := by rw [vv _ mf1, a1.2.1]
  have V2 : nv M7 (f + 3) = t * nv M (f + 3) := by rw [vv _ mf3, v1]
  have Vn := hF.nn0 mf3
  have Vp : 0 < nv M (f + 3) → 0 < t * nv M (f + 3) := fun V0 => Int.mul_pos (by omega) V0
  obtain ⟨⟨k1, k2⟩, ⟨r2, r3⟩, ⟨f0, f1⟩, -⟩ := H2.pl
  rw [f0, f1, (F2.nt mf1).2.1]
  refine ⟨F2.kd mf1, fun y => ⟨F2.kd mf3, (f_put0 (d := d + 4) ⟨by decide, by decide⟩ H2.1 F2 mf3).mono (fun M13 k => ?_)⟩, fun y => ⟨k1, ?_⟩⟩
  · obtain ⟨c3, v3⟩ := k
    obtain ⟨n3, H3⟩ := H2.st (Or.inr (Or.inr rfl)) c3
    have z0 : nv M7 (f + 1) = 0 := (F2.sz0 mf1).1 (by omega)
    have z1 := (c3.v F2 mf1 (fun e => f13 e.symm)).trans z0
    have ti : mI M13 f = mI M7 f := ((c3.nl (I := fun _ => False) (r := False) noI H2.2.2.1.z9).frp F2 H2.2.2.2.1).2 (fun e => e)
    exact ⟨c3.ok, N2.trans n3, by rw [ti]; exact t2, fun _ => by rw [v3]; decide, by rw [z1]; exact A0, fun V0 => by rw [v3]; exact Vp V0, fun _ => by rw [z1, v3]; decide⟩
  · have Ap : 0 < nv M (f + 1) := Classical.byContradiction (fun u => y (by
      have := (F2.sz0 mf1).2 (by rw [A2]; omega)
      omega))
    have sv : sz M7 (f + 3) ≤ s + 1 := F2.szv mf3 (by rw [V2]; exact (mul_sz ⟨Vn, Int.lt_of_lt_of_le (hF.vlt mf3) (p30m s3)⟩ t1).2)
    have sa : sz M7 (f + 1) ≤ s := F2.szv mf1 (by rw [A2]; exact Int.lt_of_lt_of_le (hF.vlt mf1) (p30m s1))
    have h1 := hW (z + 1) (Or.inl (Or.inl rfl))
    have h3 := hW (z + 3) (Or.inl (Or.inr (Or.inl rfl)))
    have h5 := hW (z + 5) (Or.inl (Or.inr (Or.inr (Or.inl rfl))))
    have h7 := hW (z + 7) (Or.inl (Or.inr (Or.inr (Or.inr rfl))))
    refine (f_common (d := d) (S := s + 1) H2.1 F2 H2.2.2.1 mf1 mf3 nf.1 nf.2 (Or.inl (by rw [A2]; exact Ap)) (by omega) sv (by omega) ⟨h1, h3, h5, h7⟩).mono (fun r M17 k => ?_)
    obtain ⟨er, N17, q0, d1, d2⟩ := k
    have n3 : NL L W (Tre z f) (fun x => x = f) False z M7 M17 := N17.mono F2 (fun t ht => Or.inl ht) h.tre (fun _ e => e.elim) H2.iw (fun e => e)
    have H3 := H2.nl n3
    have A3 := (N17.num F2 mf1 nf.1).2
    have V3 := (N17.num F2 mf3 nf.2).2
    have t3 : mI M17 f 2 = 1 := by rw [(N17.frp F2 H2.2.2.2.1).2 (fun e => e)]; exact t2
    have mr : r ∈ L := h.2.2.1.t4 r (er.elim Or.inl (fun e => Or.inr (Or.inl e)))
    rw [A2] at A3 d1
    rw [V2] at V3 d2
    refine ⟨H3.1, H3.2.1.kd mr, (s_Na_isOne (d := d + 4) H3.1 (H3.2.1.nt mr)).mono (fun x22 M21 k => ?_)⟩
    obtain ⟨e21, x01⟩ := k
    rw [e21]
    refine ⟨m_b32 x01, H3.1, fun _ => ?_, fun _ => ?_⟩
    · exact s_rdDiv (d := d) (s := s + 3) H3 er nf A3.2 V3.2 rfl q0 d1 d2 Ap (by omega) (by omega) w1 w3 h5 h7 (fun M' Q1 Q2 g1 g2 g3 g4 g5 g6 g7 g8 => by
        have hq : 1 ≤ nv M17 r := q0
        have m1 := Int.mul_le_mul_of_nonneg_right hq g7
        have m2 := Int.mul_le_mul_of_nonneg_right hq g8
        have Q2p : 0 < nv M (f + 3) → 0 < Q2 := fun V0 => Classical.byContradiction (fun u => by
          have V1 := Vp V0
          have : Q2 = 0 := by omega
          rw [this, Int.mul_zero] at g6
          omega)
        refine ⟨(N2.trans n3).trans g1, by rw [g2]; exact t3, fun V0 => by rw [g4]; exact Q2p V0, by rw [g3]; omega, fun _ => by rw [g4]; omega, fun le => ?_⟩
        rw [g3, g4]
        rw [g5, g6] at le
        exact Int.le_of_mul_le_mul_left le q0)
    · exact ⟨N2.trans n3, t3, fun V0 => by rw [V3.2]; exact Vp V0, by rw [A3.2]; exact Int.le_refl _, fun _ => by rw [V3.2]; exact Int.le_refl _, fun le => by rw [A3.2, V3.2]; exact le⟩
end NAY
end
