/-! The class's game: weighChances. -/
section GAD
variable {G : mG} {d z g p O P K V F L cnt U Ab Be C Ab0 Be0 C0 s h t c cn k u v cc n : Nat} {M0 M M' M1 M2 : mM} {ns : Nat → Int} {sf ef : Nat → Nat} {H : Nat → Nat} {S R : Nat → Prop}
/-- what weighing comes to -/
def weQ (M0 : mM) (z g p O P K V F : Nat) (ns : Nat → Int) (sf ef : Nat → Nat) (L cnt Ab0 Be0 C0 : Nat) (MB : mM) (n cc : Nat) (r : Int) (M' : mM) : Prop := i32 r ∧ wgF MB g M' ∧ (∃ Ab Be C, GX M0 z g p O P K V F ns sf ef L cnt Ab0 Be0 C0 M' Ab Be C) ∧ (r = 0 → chz M' g n ∧ ∃ mu : Nat, mI M' (g + 6) cc = ((mu : Nat) : Int) ∧ 1 ≤ mu ∧ mu < 1000000000 ∧ shS M' g mu n = ((mu : Nat) : Int) ∧ ∀ b, b < n → (mI M' (g + 22) b) ∣ ((mu : Nat) : Int))
theorem pl_we (hx : GX M0 z g p O P K V F ns sf ef L cnt Ab0 Be0 C0 M Ab Be C) (hw : wgF M1 g M) (q : plQ M g M') {r : Int} (ir : i32 r) (hr : r ≠ 0) : weQ M0 z g p O P K V F ns sf ef L cnt Ab0 Be0 C0 M1 n cc r M' := by
  obtain ⟨q1, q2, q3⟩ := q
  have nb : ∀ x, x ≠ g → mI M' x = mI M x := fun x hx => q2.2.2.2.2.2.2 x hx
  refine ⟨ir, hw.trans ⟨q3, fun i i1 _ _ => nb _ (by omega), nb _ (by omega), fun i _ => by rw [nb _ (by omega)], by rw [nb _ (by omega)]⟩, ⟨Ab, Be, C, hx.fi q1 (q2.mono (fun x y => Or.inl (by have y' : x = g := y; omega)))⟩, fun u => absurd u hr⟩
theorem s_we232 {mu : Nat} (hx : GX M0 z g p O P K V F ns sf ef L cnt Ab0 Be0 C0 M Ab Be C) (hw : wgF M1 g M) (hc : c < cnt) (hn : n ≤ 8) (hch : chz M g n) (hmu : 1 ≤ mu ∧ mu < 1000000000) (h6 : mI M (g + 6) cc = ((mu : Nat) : Int)) (hdv : ∀ b, b < n → (mI M (g + 22) b) ∣ ((mu : Nat) : Int)) : ∀ (t i : Nat), n ≤ i + t → i ≤ n → 0 ≤ shS M g mu i → shS M g mu i ≤ i * 1000000000 → h_Ga_weighChances_232 G d g c n mu (shS M g mu i) i M (weQ M0 z g p O P K V F ns sf ef L cnt Ab0 Be0 C0 M1 n cc) := by
  obtain ⟨h1, h2, h3, h4, h5, -⟩ := id hx
  obtain ⟨g0, ⟨-, -, -, -, -, -, -, -, -, -, -, g17, g18⟩, ⟨-, -, -, -, -, -, -, -, -, -, k21, k22⟩, ⟨-, -, -, -, -, -, -, -, -, -, n21, n22⟩⟩ := h2
  have p14 := h4.1.2.2.2.2.2.2.1.2.2.2.2.2.2.2.1
  have kp14 := h4.1.2.2.2.2.2.2.2.1.2.2.2.2.2.2.2.1
  have np14 := h4.1.2.2.2.2.2.2.2.2.2.2.2.2.2.2.2.1
  have c60 := h4.2.2.2.2.1.2
  intro t
  induction t with
  | zero =>
    intro i hi hi2 s0 s1
    have cm := (cmpz (shS M g mu i) mu).2.2.2.1
    have en : i = n := by omega
    refine k_Ga_weighChances_232 h1 (i32s (by omega) (by omega)) (i32s (by omega) (by omega)) ⟨by omega, by omega⟩ ⟨by omega, by omega⟩ (i32s (by omega) (by omega)) ⟨fun _ => ⟨fun y => ?_, fun y => ?_⟩, fun y => absurd y (by omega)⟩
    · rw [cm] at y
      rw [en] at y
      exact k_Ga_weighChances_296 h1 ⟨by decide, by decide⟩ ⟨⟨by decide, by decide⟩, hw, ⟨Ab, Be, C, hx⟩, fun _ => ⟨hch, mu, h6, hmu.1, hmu.2, y, hdv⟩⟩
    · rw [h5.1, p14, np14]
      refine ⟨g0, h4.1.1, kp14, by omega, (s_Ga_fault ⟨by decide, by decide⟩ (h1 _ _).1 h1 g0).mono (fun r M' q => ?_)⟩
      rw [q.1]
      exact ⟨⟨by decide, by decide⟩, q.2.1, k_Ga_weighChances_296 q.2.1 ⟨by decide, by decide⟩ (pl_we hx hw q.2 ⟨by decide, by decide⟩ (by decide))⟩
  | succ t ih =>
    intro i hi hi2 s0 s1
    have cm := (cmpz (shS M g mu i) mu).2.2.2.1
    refine k_Ga_weighChances_232 h1 (i32s (by omega) (by omega)) (i32s (by omega) (by omega)) ⟨by omega, by omega⟩ ⟨by omega, by omega⟩ (i32s (by omega) (by omega)) ⟨fun yy => ⟨fun y => ?_, fun y => ?_⟩, fun y => ?_⟩
    · have en : i = n := by omega
      rw [cm] at y
      rw [en] at y
      exact k_Ga_weighChances_296 h1 ⟨by decide, by decide⟩ ⟨⟨by decide, by decide⟩, hw, ⟨Ab, Be, C, hx⟩, fun _ => ⟨hch, mu, h6, hmu.1, hmu.2, y, hdv⟩⟩
    · rw [h5.1, p14, np14]
      refine ⟨g0, h4.1.1, kp14, by omega, (s_Ga_fault ⟨by decide, by decide⟩ (h1 _ _).1 h1 g0).mono (fun r M' q => ?_)⟩
      rw [q.1]
      exact ⟨⟨by decide, by decide⟩, q.2.1, k_Ga_weighChances_296 q.2.1 ⟨by decide, by decide⟩ (pl_we hx hw q.2 ⟨by decide, by decide⟩ (by decide))⟩
    · have inn : i < n := by omega
      obtain ⟨b1, b2, b3, b4⟩ := hch i inn
      rw [g18, g17, n22, n21, Int.toNat_natCast]
      have e : shS M g mu (i + 1) = shS M g mu i + Int.tdiv mu (mI M (g + 22) i) * mI M (g + 21) i := rfl
      have tb : 0 ≤ Int.tdiv mu (mI M (g + 22) i) * mI M (g + 21) i ∧ Int.tdiv mu (mI M (g + 22) i) * mI M (g + 21) i ≤ 1000000000 := by
        have q0 := Int.tdiv_nonneg (show (0 : Int) ≤ mu by omega) (show (0 : Int) ≤ mI M (g + 22) i by omega)
        refine ⟨Int.mul_nonneg q0 b1, ?_⟩
        have q1 := Int.mul_le_mul_of_nonneg_left b2 q0
        have q2 : Int.tdiv mu (mI M (g + 22) i) * mI M (g + 22) i ≤ mu := by
          rw [Int.tdiv_eq_ediv_of_nonneg (by omega)]
          exact Int.ediv_mul_le _ (by omega)
        omega
      refine ⟨g0, k22, by omega, by omega, k21, by omega, ?_⟩
      rw [← e, show ((i : Int) + 1) = ((i + 1 : Nat) : Int) by omega]
      exact ih (i + 1) (by omega) (by omega) (by rw [e]; omega) (by rw [e]; omega)
theorem s_we150 (hx : GX M0 z g p O P K V F ns sf ef L cnt Ab0 Be0 C0 M Ab Be C) (hw : wgF M1 g M) (hc : c < cnt) (hn : n ≤ 8) (hch : chz M g n) (hcc : mI M g 12 = ((cc : Nat) : Int)) (hcc2 : cc ≤ 4096) (hcc1 : mI M1 g 12 = ((cc : Nat) : Int)) : ∀ (t i mu : Nat), n ≤ i + t → i ≤ n → (1 ≤ mu ∧ mu < 1000000000) → (∀ b, b < i → (mI M (g + 22) b) ∣ ((mu : Nat) : Int)) → h_Ga_weighChances_150 G (d + 1) g c n mu i M (weQ M0 z g p O P K V F ns sf ef L cnt Ab0 Be0 C0 M1 n cc) := by
  obtain ⟨h1, h2, h3, h4, h5, -⟩ := id hx
  obtain ⟨g0, ⟨-, -, -, -, -, g6, -, -, -, -, -, g17, g18⟩, ⟨-, -, -, -, -, k6, -, -, -, -, k21, k22⟩, ⟨-, -, -, -, -, n6, -, -, -, -, n21, n22⟩⟩ := h2
  have p14 := h4.1.2.2.2.2.2.2.1.2.2.2.2.2.2.2.1
  have kp14 := h4.1.2.2.2.2.2.2.2.1.2.2.2.2.2.2.2.1
  have np14 := h4.1.2.2.2.2.2.2.2.2.2.2.2.2.2.2.2.1
  have c60 := h4.2.2.2.2.1.2
  have fin : ∀ {mu : Nat}, (1 ≤ mu ∧ mu < 1000000000) → (∀ b, b < n → (mI M (g + 22) b) ∣ ((mu : Nat) : Int)) → mK M g = 7 ∧ mK M (mR M g 6) = 30 ∧ ((0 : Int) ≤ mI M g 12 ∧ mI M g 12 < (mN M (mR M g 6) : Int)) ∧ i32 ((mu : Nat) : Int) ∧ ∀ M66, M66 = mUI M (mR M g 6) (Int.toNat (mI M g 12)) mu → h_Ga_weighChances_232 G (d + 1) g c n mu 0 0 M66 (weQ M0 z g p O P K V F ns sf ef L cnt Ab0 Be0 C0 M1 n cc) := fun {mu} hmu hd => by
    rw [g6, n6, hcc, Int.toNat_natCast]
    refine ⟨g0, k6, by omega, ⟨by omega, by omega⟩, fun M66 e66 => ?_⟩
    have f66 : FI (fun x => x = g + 6) M M66 := by rw [e66]; exact FI.ui rfl
    have nb : ∀ x, x ≠ g + 6 → mI M66 x = mI M x := fun x hx => f66.2.2.2.2.2.2 x hx
    have o66 : mOk M66 := by rw [e66]; exact mOk_UI h1 ⟨by omega, by omega⟩
    have x66 := hx.fi o66 (f66.mono (fun x y => Or.inl (by have y' : x = g + 6 := y; omega)))
    have w66 : wgF M g M66 := ⟨fun i _ => by rw [nb g (by omega)], fun i i1 i9 i6 => nb _ (by omega), nb _ (by omega), fun i hi => by rw [mI_ui _ i e66, if_neg (fun t => hi (by rw [hcc, Int.toNat_natCast]; exact t.2))], by rw [nb _ (by omega)]⟩
    have e21 := nb (g + 21) (by omega)
    have e22 := nb (g + 22) (by omega)
    exact s_we232 (cc := cc) x66 (hw.trans w66) hc hn (fun b hb => by rw [e21, e22]; exact hch b hb) hmu (by rw [mI_ui _ _ e66, if_pos ⟨rfl, rfl⟩]) (fun b hb => by rw [e22]; exact hd b hb) n 0 (by omega) (by omega) (Int.le_refl _) (by show (0 : Int) ≤ _; omega)
  intro t
  induction t with
  | zero =>
    intro i mu hi hi2 hmu hd
    exact k_Ga_weighChances_150 h1 (i32s (by omega) (by omega)) (i32s (by omega) (by omega)) ⟨by omega, by omega⟩ (i32s (by omega) (by omega)) ⟨fun _ => fin hmu (fun b hb => hd b (by omega)), fun y => absurd y (by omega)⟩
  | succ t ih =>
    intro i mu hi hi2 hmu hd
    refine k_Ga_weighChances_150 h1 (i32s (by omega) (by omega)) (i32s (by omega) (by omega)) ⟨by omega, by omega⟩ (i32s (by omega) (by omega)) ⟨fun y => fin hmu (fun b hb => hd b (by omega)), fun y => ?_⟩
    have inn : i < n := by omega
    obtain ⟨b1, b2, b3, b4⟩ := hch i inn
    rw [g18, n22, Int.toNat_natCast]
    obtain ⟨bl, ebl⟩ : ∃ bl : Nat, mI M (g + 22) i = ((bl : Nat) : Int) := ⟨(mI M (g + 22) i).toNat, by omega⟩
    rw [ebl]
    refine ⟨g0, k22, by omega, (s_Ma_gcd hmu ⟨by omega, by omega⟩ h1).mono (fun r M' q => ?_)⟩
    obtain ⟨e', w, ew, w1, ⟨q1, wd1⟩, ⟨q2, wd2⟩⟩ := q
    subst e'
    have ed : Int.tdiv (mu : Int) r = ((q1 : Nat) : Int) := by
      rw [ew, Int.tdiv_eq_ediv_of_nonneg (by omega), wd1]
      rw [Int.natCast_mul]
      exact Int.mul_ediv_cancel_left _ (by omega)
    have q10 : 1 ≤ q1 := by
      by_cases u : q1 = 0
      · rw [u] at wd1; omega
      · omega
    have wm : w ≤ mu := by rw [wd1]; exact Nat.le_mul_of_pos_right _ (by omega)
    have q1m : q1 ≤ mu := by rw [wd1]; exact Nat.le_mul_of_pos_left _ (by omega)
    rw [ed, g18, n22, ebl, ← Int.natCast_mul]
    have pb : q1 * bl ≤ 1000000000 * 1000000000 := Nat.mul_le_mul (by omega) (by omega)
    have p1 : 1 ≤ q1 * bl := Nat.mul_pos (by omega) (by omega)
    have cm := (cmpz ((q1 * bl : Nat) : Int) 1000000000).2.2.1
    refine ⟨by rw [ew]; exact ⟨by omega, by omega⟩, h1, by omega, g0, k22, by omega, ⟨by omega, by omega⟩, fun y1 => ?_, fun y1 => ?_⟩
    · rw [cm] at y1
      rw [show ((i : Int) + 1) = ((i + 1 : Nat) : Int) by omega]
      refine ih (i + 1) (q1 * bl) (by omega) (by omega) ⟨p1, by omega⟩ (fun b hb => ?_)
      by_cases yb : b = i
      · rw [yb, ebl, Int.natCast_mul]
        exact Int.dvd_mul_left _ _
      · have e2 : ((q1 * bl : Nat) : Int) = (mu : Int) * (q2 : Int) := by
          rw [wd1, wd2, ← Int.natCast_mul]
          congr 1
          rw [Nat.mul_left_comm, Nat.mul_assoc]
        rw [e2]
        exact Int.dvd_trans (hd b (by omega)) (Int.dvd_mul_right _ _)
    · rw [h5.1, p14, np14]
      refine ⟨h4.1.1, kp14, by omega, (s_Ga_fault ⟨by decide, by decide⟩ (h1 _ _).1 h1 g0).mono (fun r2 M2 q => ?_)⟩
      rw [q.1]
      exact ⟨⟨by decide, by decide⟩, q.2.1, pl_we hx hw q.2 ⟨by decide, by decide⟩ (by decide)⟩
end GAD
