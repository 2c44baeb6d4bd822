section
/-! The class's game, exactly: the multiple and the sum of chances. -/
section GAV
variable {G : mG} {d z g p O P K V F L cnt U Ab Be C Ab0 Be0 C0 s h t c cn k u v cc n : Nat} {M0 M M' M1 M2 : mM} {ns : Nat → Int} {sf ef : Nat → Nat} {H : Nat → Nat} {S R : Nat → Prop}
theorem x_Ga_fault {x y : Int} (hx : i32 x) (hy : i32 y) (hO : mOk M) (hk : mK M g = 7) : Ci G y_Ga_fault d [vr g, vi x, vi y] M (fun r M' => r = x ∧ plQ M g M' ∧ mI M' g 10 = y) := by
  refine k_Ga_fault hO hx hy ⟨hk, fun M2 e2 => ⟨rfl, ⟨by rw [e2]; exact mOk_UI hO hy, by rw [e2]; exact FI.ui rfl, fun i hi => ?_⟩, by rw [mI_ui g 10 e2, if_pos ⟨rfl, rfl⟩]⟩⟩
  rw [mI_ui g i e2, if_neg (fun u => hi u.2)]
/-- the chances of n branches -/
def lch9 (M : mM) (g : Nat) : Nat → List (Int × Int)
  | 0 => []
  | n + 1 => lch9 M g n ++ [(mI M (g + 21) n, mI M (g + 22) n)]
theorem lch_cg : ∀ n, (∀ b, b < n → mI M' (g + 21) b = mI M (g + 21) b ∧ mI M' (g + 22) b = mI M (g + 22) b) → lch9 M' g n = lch9 M g n
  | 0, _ => rfl
  | n + 1, hh => by
    show lch9 M' g n ++ [(mI M' (g + 21) n, mI M' (g + 22) n)] = lch9 M g n ++ [(mI M (g + 21) n, mI M (g + 22) n)]
    rw [lch_cg n (fun b hb => hh b (by omega)), (hh n (by omega)).1, (hh n (by omega)).2]
theorem smq_app {m : Int} (l r : List (Int × Int)) : smq9 m (l ++ r) = smq9 m l + smq9 m r := by
  induction l with
  | nil => show smq9 m r = 0 + smq9 m r; omega
  | cons x l ih =>
    show m / x.2 * x.1 + smq9 m (l ++ r) = m / x.2 * x.1 + smq9 m l + smq9 m r
    rw [ih]
    omega
theorem shs_smq {mu : Nat} : ∀ {n : Nat}, chz M g n → 1 ≤ mu → smq9 ((mu : Nat) : Int) (lch9 M g n) = shS M g ((mu : Nat) : Int) n
  | 0, _, _ => rfl
  | n + 1, h, hm => by
    show smq9 ((mu : Nat) : Int) (lch9 M g n ++ [(mI M (g + 21) n, mI M (g + 22) n)]) = shS M g ((mu : Nat) : Int) n + Int.tdiv ((mu : Nat) : Int) (mI M (g + 22) n) * mI M (g + 21) n
    rw [smq_app, shs_smq (fun b hb => h b (by omega)) hm, Int.tdiv_eq_ediv_of_nonneg (by omega)]
    show _ + (((mu : Nat) : Int) / mI M (g + 22) n * mI M (g + 21) n + 0) = _
    omega
theorem muq_zero : ∀ (l : List (Int × Int)), muq9 l 0 = 0
  | [] => rfl
  | x :: l => by
    show (if 1000000000 ≤ (0 : Int) / (Int.gcd 0 x.2 : Int) * x.2 then 0 else muq9 l ((0 : Int) / (Int.gcd 0 x.2 : Int) * x.2)) = 0
    rw [Int.zero_ediv, Int.zero_mul, if_neg (by decide)]
    exact muq_zero l
theorem muq_app : ∀ (l r : List (Int × Int)) (m : Int), muq9 (l ++ r) m = if muq9 l m = 0 then 0 else muq9 r (muq9 l m)
  | [], r, m => by
    show muq9 r m = if m = 0 then 0 else muq9 r m
    by_cases y : m = 0
    · rw [if_pos y, y]; exact muq_zero r
    · rw [if_neg y]
  | x :: l, r, m => by
    show (if 1000000000 ≤ m / (Int.gcd m x.2 : Int) * x.2 then 0 else muq9 (l ++ r) (m / (Int.gcd m x.2 : Int) * x.2)) = if (if 1000000000 ≤ m / (Int.gcd m x.2 : Int) * x.2 then 0 else muq9 l (m / (Int.gcd m x.2 : Int) * x.2)) = 0 then 0 else muq9 r (if 1000000000 ≤ m / (Int.gcd m x.2 : Int) * x.2 then 0 else muq9 l (m / (Int.gcd m x.2 : Int) * x.2))
    by_cases y : 1000000000 ≤ m / (Int.gcd m x.2 : Int) * x.2
    · simp only [if_pos y, if_true]
    · simp only [if_neg y]
      exact muq_app l r _
theorem muq_up {i : Nat} (h : muq9 (lch9 M g i) 1 = 0) : ∀ n, i ≤ n → muq9 (lch9 M g n) 1 = 0 := by
  intro n
  induction n with
  | zero =>
    intro hn
    rw [show (0 : Nat) = i by first | rfl | omega]
    exact h
  | succ n ih =>
    intro hn
    by_cases y : i = n + 1
    · rw [← y]; exact h
    · show muq9 (lch9 M g n ++ [(mI M (g + 21) n, mI M (g + 22) n)]) 1 = 0
      rw [muq_app, if_pos (ih (by omega))]
/-- what the weighing of n chances comes to; pc the command's place -/
def weX (pc : Int) (g cc : Nat) (l : List (Int × Int)) (MA : mM) (r : Int) (M' : mM) : Prop := (muq9 l 1 = 0 ∧ r = 6 ∧ mI M' g 10 = pc) ∨ (muq9 l 1 ≠ 0 ∧ smq9 (muq9 l 1) l ≠ muq9 l 1 ∧ r = 11 ∧ mI M' g 10 = pc) ∨ (muq9 l 1 ≠ 0 ∧ smq9 (muq9 l 1) l = muq9 l 1 ∧ r = 0 ∧ mI M' (g + 6) cc = muq9 l 1 ∧ FI (fun x => x = g + 6) MA M')
theorem x_we232 {MA : mM} {mu : Nat} (fA : FI (fun x => x = g + 6) MA M) (hx : GX M0 z g p O P K V F ns sf ef L cnt Ab0 Be0 C0 M Ab Be C) (hw : wgF M1 g M) (hc : c < cnt) (hn : n ≤ 8) (hch : chz M g n) (hmu : 1 ≤ mu ∧ mu < 1000000000) (h6 : mI M (g + 6) cc = ((mu : Nat) : Int)) (hm9 : muq9 (lch9 M g n) 1 = ((mu : Nat) : Int)) (hdv : ∀ b, b < n → (mI M (g + 22) b) ∣ ((mu : Nat) : Int)) : ∀ (t i : Nat), n ≤ i + t → i ≤ n → 0 ≤ shS M g mu i → shS M g mu i ≤ i * 1000000000 → h_Ga_weighChances_232 G d g c n mu (shS M g mu i) i M (fun r M' => weQ M0 z g p O P K V F ns sf ef L cnt Ab0 Be0 C0 M1 n cc r M' ∧ weX (mI M (p + 10) c) g cc (lch9 M g n) MA r M') := by
  obtain ⟨h1, h2, h3, h4, h5, -⟩ := id hx
  obtain ⟨g0, ⟨-, -, -, -, -, -, -, -, -, -, -, g17, g18⟩, ⟨-, -, -, -, -, -, -, -, -, -, k21, k22⟩, ⟨-, -, -, -, -, -, -, -, -, -, n21, n22⟩⟩ := h2
  have p14 := h4.1.2.2.2.2.2.2.1.2.2.2.2.2.2.2.1
  have kp14 := h4.1.2.2.2.2.2.2.2.1.2.2.2.2.2.2.2.1
  have np14 := h4.1.2.2.2.2.2.2.2.2.2.2.2.2.2.2.2.1
  have c60 := h4.2.2.2.2.1.2
  intro t
  induction t with
  | zero =>
    intro i hi hi2 s0 s1
    have cm := (cmpz (shS M g mu i) mu).2.2.2.1
    have en : i = n := by omega
    refine k_Ga_weighChances_232 h1 (i32s (by omega) (by omega)) (i32s (by omega) (by omega)) ⟨by omega, by omega⟩ ⟨by omega, by omega⟩ (i32s (by omega) (by omega)) ⟨fun _ => ⟨fun y => ?_, fun y => ?_⟩, fun y => absurd y (by omega)⟩
    · rw [cm] at y
      rw [en] at y
      exact k_Ga_weighChances_296 h1 ⟨by decide, by decide⟩ ⟨⟨⟨by decide, by decide⟩, hw, ⟨Ab, Be, C, hx⟩, fun _ => ⟨hch, mu, h6, hmu.1, hmu.2, y, hdv⟩⟩, Or.inr (Or.inr ⟨by rw [hm9]; omega, by rw [hm9, shs_smq hch (by omega)]; exact y, rfl, by rw [hm9]; exact h6, fA⟩)⟩
    · rw [h5.1, p14, np14]
      refine ⟨g0, h4.1.1, kp14, by omega, (x_Ga_fault ⟨by decide, by decide⟩ (h1 _ _).1 h1 g0).mono (fun r M' q => ?_)⟩
      rw [q.1]
      exact ⟨⟨by decide, by decide⟩, q.2.1.1, k_Ga_weighChances_296 q.2.1.1 ⟨by decide, by decide⟩ ⟨pl_we hx hw q.2.1 ⟨by decide, by decide⟩ (by decide), Or.inr (Or.inl ⟨by rw [hm9]; omega, by rw [hm9, shs_smq hch (by omega)]; intro y9; exact y (cm.mpr (by rw [show i = n by first | rfl | omega]; exact y9)), rfl, by rw [q.2.2, Int.toNat_natCast]⟩)⟩⟩
  | succ t ih =>
    intro i hi hi2 s0 s1
    have cm := (cmpz (shS M g mu i) mu).2.2.2.1
    refine k_Ga_weighChances_232 h1 (i32s (by omega) (by omega)) (i32s (by omega) (by omega)) ⟨by omega, by omega⟩ ⟨by omega, by omega⟩ (i32s (by omega) (by omega)) ⟨fun yy => ⟨fun y => ?_, fun y => ?_⟩, fun y => ?_⟩
    · have en : i = n := by omega
      rw [cm] at y
      rw [en] at y
      exact k_Ga_weighChances_296 h1 ⟨by decide, by decide⟩ ⟨⟨⟨by decide, by decide⟩, hw, ⟨Ab, Be, C, hx⟩, fun _ => ⟨hch, mu, h6, hmu.1, hmu.2, y, hdv⟩⟩, Or.inr (Or.inr ⟨by rw [hm9]; omega, by rw [hm9, shs_smq hch (by omega)]; exact y, rfl, by rw [hm9]; exact h6, fA⟩)⟩
    · rw [h5.1, p14, np14]
      refine ⟨g0, h4.1.1, kp14, by omega, (x_Ga_fault ⟨by decide, by decide⟩ (h1 _ _).1 h1 g0).mono (fun r M' q => ?_)⟩
      rw [q.1]
      exact ⟨⟨by decide, by decide⟩, q.2.1.1, k_Ga_weighChances_296 q.2.1.1 ⟨by decide, by decide⟩ ⟨pl_we hx hw q.2.1 ⟨by decide, by decide⟩ (by decide), Or.inr (Or.inl ⟨by rw [hm9]; omega, by rw [hm9, shs_smq hch (by omega)]; intro y9; exact y (cm.mpr (by rw [show i = n by first | rfl | omega]; exact y9)), rfl, by rw [q.2.2, Int.toNat_natCast]⟩)⟩⟩
    · have inn : i < n := by omega
      obtain ⟨b1, b2, b3, b4⟩ := hch i inn
      rw [g18, g17, n22, n21, Int.toNat_natCast]
      have e : shS M g mu (i + 1) = shS M g mu i + Int.tdiv mu (mI M (g + 22) i) * mI M (g + 21) i := rfl
      have tb : 0 ≤ Int.tdiv mu (mI M (g + 22) i) * mI M (g + 21) i ∧ Int.tdiv mu (mI M (g + 22) i) * mI M (g + 21) i ≤ 1000000000 := by
        have q0 := Int.tdiv_nonneg (show (0 : Int) ≤ mu by omega) (show (0 : Int) ≤ mI M (g + 22) i by omega)
        refine ⟨Int.mul_nonneg q0 b1, ?_⟩
        have q1 := Int.mul_le_mul_of_nonneg_left b2 q0
        have q2 : Int.tdiv mu (mI M (g + 22) i) * mI M (g + 22) i ≤ mu := by
          rw [Int.tdiv_eq_ediv_of_nonneg (by omega)]
          exact Int.ediv_mul_le _ (by omega)
        omega
      refine ⟨g0, k22, by omega, by omega, k21, by omega, ?_⟩
      rw [← e, show ((i : Int) + 1) = ((i + 1 : Nat) : Int) by first | rfl | omega]
      exact ih (i + 1) (by omega) (by omega) (by rw [e]; omega) (by rw [e]; omega)
theorem x_we150 (hx : GX M0 z g p O P K V F ns sf ef L cnt Ab0 Be0 C0 M Ab Be C) (hw : wgF M1 g M) (hc : c < cnt) (hn : n ≤ 8) (hch : chz M g n) (hcc : mI M g 12 = ((cc : Nat) : Int)) (hcc2 : cc ≤ 4096) (hcc1 : mI M1 g 12 = ((cc : Nat) : Int)) : ∀ (t i mu : Nat), n ≤ i + t → i ≤ n → (1 ≤ mu ∧ mu < 1000000000) → muq9 (lch9 M g i) 1 = ((mu : Nat) : Int) → (∀ b, b < i → (mI M (g + 22) b) ∣ ((mu : Nat) : Int)) → h_Ga_weighChances_150 G (d + 1) g c n mu i M (fun r M' => weQ M0 z g p O P K V F ns sf ef L cnt Ab0 Be0 C0 M1 n cc r M' ∧ weX (mI M (p + 10) c) g cc (lch9 M g n) M r M') := by
  obtain ⟨h1, h2, h3, h4, h5, -⟩ := id hx
  obtain ⟨g0, ⟨-, -, -, -, -, g6, -, -, -, -, -, g17, g18⟩, ⟨-, -, -, -, -, k6, -, -, -, -, k21, k22⟩, ⟨-, -, -, -, -, n6, -, -, -, -, n21, n22⟩⟩ := h2
  have p14 := h4.1.2.2.2.2.2.2.1.2.2.2.2.2.2.2.1
  have kp14 := h4.1.2.2.2.2.2.2.2.1.2.2.2.2.2.2.2.1
  have np14 := h4.1.2.2.2.2.2.2.2.2.2.2.2.2.2.2.2.1
  have c60 := h4.2.2.2.2.1.2
  have fin : ∀ {mu : Nat}, (1 ≤ mu ∧ mu < 1000000000) → muq9 (lch9 M g n) 1 = ((mu : Nat) : Int) → (∀ b, b < n → (mI M (g + 22) b) ∣ ((mu : Nat) : Int)) → mK M g = 7 ∧ mK M (mR M g 6) = 30 ∧ ((0 : Int) ≤ mI M g 12 ∧ mI M g 12 < (mN M (mR M g 6) : Int)) ∧ i32 ((mu : Nat) : Int) ∧ ∀ M66, M66 = mUI M (mR M g 6) (Int.toNat (mI M g 12)) mu → h_Ga_weighChances_232 G (d + 1) g c n mu 0 0 M66 (fun r M' => weQ M0 z g p O P K V F ns sf ef L cnt Ab0 Be0 C0 M1 n cc r M' ∧ weX (mI M (p + 10) c) g cc (lch9 M g n) M r M') := fun {mu} hmu hm9 hd => by
    rw [g6, n6, hcc, Int.toNat_natCast]
    refine ⟨g0, k6, by omega, ⟨by omega, by omega⟩, fun M66 e66 => ?_⟩
    have f66 : FI (fun x => x = g + 6) M M66 := by rw [e66]; exact FI.ui rfl
    have nb : ∀ x, x ≠ g + 6 → mI M66 x = mI M x := fun x hx => f66.2.2.2.2.2.2 x hx
    have o66 : mOk M66 := by rw [e66]; exact mOk_UI h1 ⟨by omega, by omega⟩
    have x66 := hx.fi o66 (f66.mono (fun x y => Or.inl (by have y' : x = g + 6 := y; omega)))
    have w66 : wgF M g M66 := ⟨fun i _ => by rw [nb g (by omega)], fun i i1 i9 i6 => nb _ (by omega), nb _ (by omega), fun i hi => by rw [mI_ui _ i e66, if_neg (fun t => hi (by rw [hcc, Int.toNat_natCast]; exact t.2))], by rw [nb _ (by omega)]⟩
    have e21 := nb (g + 21) (by omega)
    have e22 := nb (g + 22) (by omega)
    have ep : mI M66 (p + 10) c = mI M (p + 10) c := by rw [nb _ (by have := hx.2.2.2.2.2.1.2.1; omega)]
    have el : lch9 M66 g n = lch9 M g n := lch_cg n (fun b _ => by rw [e21, e22]; exact ⟨rfl, rfl⟩)
    rw [← ep, ← el]
    exact x_we232 (cc := cc) (MA := M) f66 x66 (hw.trans w66) hc hn (fun b hb => by rw [e21, e22]; exact hch b hb) hmu (by rw [mI_ui _ _ e66, if_pos ⟨rfl, rfl⟩]) (by rw [el]; exact hm9) (fun b hb => by rw [e22]; exact hd b hb) n 0 (by omega) (by omega) (Int.le_refl _) (by show (0 : Int) ≤ _; omega)
  intro t
  induction t with
  | zero =>
    intro i mu hi hi2 hmu hm hd
    exact k_Ga_weighChances_150 h1 (i32s (by omega) (by omega)) (i32s (by omega) (by omega)) ⟨by omega, by omega⟩ (i32s (by omega) (by omega)) ⟨fun _ => fin hmu (by rw [show n = i by first | rfl | omega]; exact hm) (fun b hb => hd b (by omega)), fun y => absurd y (by omega)⟩
  | succ t ih =>
    intro i mu hi hi2 hmu hm hd
    refine k_Ga_weighChances_150 h1 (i32s (by omega) (by omega)) (i32s (by omega) (by omega)) ⟨by omega, by omega⟩ (i32s (by omega) (by omega)) ⟨fun y => fin hmu (by rw [show n = i by first | rfl | omega]; exact hm) (fun b hb => hd b (by omega)), fun y => ?_⟩
    have inn : i < n := by omega
    obtain ⟨b1, b2, b3, b4⟩ := hch i inn
    rw [g18, n22, Int.toNat_natCast]
    obtain ⟨bl, ebl⟩ : ∃ bl : Nat, mI M (g + 22) i = ((bl : Nat) : Int) := ⟨(mI M (g + 22) i).toNat, by omega⟩
    rw [ebl]
    refine ⟨g0, k22, by omega, (x_Ma_commonDivisor (x := (mu : Int)) (y := (bl : Int)) (by omega) (by omega) h1).mono (fun r M' q => ?_)⟩
    obtain ⟨e', ⟨w1, -⟩, ew⟩ := q
    obtain ⟨w, ewn⟩ : ∃ w : Nat, w = Nat.gcd mu bl := ⟨_, rfl⟩
    have ew : r = ((w : Nat) : Int) := by rw [ew, ewn]; rfl
    have w1 : 1 ≤ w := by omega
    obtain ⟨q1, wd1⟩ : w ∣ mu := by rw [ewn]; exact Nat.gcd_dvd_left _ _
    obtain ⟨q2, wd2⟩ : w ∣ bl := by rw [ewn]; exact Nat.gcd_dvd_right _ _
    subst e'
    have ed : Int.tdiv (mu : Int) r = ((q1 : Nat) : Int) := by
      rw [ew, Int.tdiv_eq_ediv_of_nonneg (by omega), wd1]
      rw [Int.natCast_mul]
      exact Int.mul_ediv_cancel_left _ (by omega)
    have q10 : 1 ≤ q1 := by
      by_cases u : q1 = 0
      · rw [u] at wd1; omega
      · omega
    have wm : w ≤ mu := by rw [wd1]; exact Nat.le_mul_of_pos_right _ (by omega)
    have q1m : q1 ≤ mu := by rw [wd1]; exact Nat.le_mul_of_pos_left _ (by omega)
    rw [ed, g18, n22, ebl, ← Int.natCast_mul]
    have pb : q1 * bl ≤ 1000000000 * 1000000000 := Nat.mul_le_mul (by omega) (by omega)
    have p1 : 1 ≤ q1 * bl := Nat.mul_pos (by omega) (by omega)
    have cm := (cmpz ((q1 * bl : Nat) : Int) 1000000000).2.2.1
    have nx9 : muq9 (lch9 M' g (i + 1)) 1 = if (1000000000 : Int) ≤ ((q1 * bl : Nat) : Int) then 0 else ((q1 * bl : Nat) : Int) := by
      show muq9 (lch9 M' g i ++ [(mI M' (g + 21) i, mI M' (g + 22) i)]) 1 = _
      rw [muq_app, hm, if_neg (by omega), ebl]
      show (if (1000000000 : Int) ≤ (mu : Int) / (Int.gcd (mu : Int) (bl : Int) : Int) * (bl : Int) then 0 else (mu : Int) / (Int.gcd (mu : Int) (bl : Int) : Int) * (bl : Int)) = _
      have e3 : (mu : Int) / (Int.gcd (mu : Int) (bl : Int) : Int) * (bl : Int) = ((q1 * bl : Nat) : Int) := by
        have e4 : (Int.gcd (mu : Int) (bl : Int) : Int) = ((w : Nat) : Int) := by rw [ewn]; rfl
        rw [e4, Int.natCast_mul, ← ed, ew, Int.tdiv_eq_ediv_of_nonneg (by omega)]
      rw [e3]
    refine ⟨by rw [ew]; exact ⟨by omega, by omega⟩, h1, by omega, g0, k22, by omega, ⟨by omega, by omega⟩, fun y1 => ?_, fun y1 => ?_⟩
    · rw [cm] at y1
      rw [show ((i : Int) + 1) = ((i + 1 : Nat) : Int) by first | rfl | omega]
      refine ih (i + 1) (q1 * bl) (by omega) (by omega) ⟨p1, by omega⟩ (by rw [nx9, if_neg (by omega)]) (fun b hb => ?_)
      by_cases yb : b = i
      · rw [yb, ebl, Int.natCast_mul]
        exact Int.dvd_mul_left _ _
      · have e2 : ((q1 * bl : Nat) : Int) = (mu : Int) * (q2 : Int) := by
          rw [wd1, wd2, ← Int.natCast_mul]
          congr 1
          rw [Nat.mul_left_comm, Nat.mul_assoc]
        rw [e2]
        exact Int.dvd_trans (hd b (by omega)) (Int.dvd_mul_right _ _)
    · rw [h5.1, p14, np14]
      refine ⟨h4.1.1, kp14, by omega, (x_Ga_fault ⟨by decide, by decide⟩ (h1 _ _).1 h1 g0).mono (fun r2 M2 q => ?_)⟩
      rw [q.1]
      rw [cm] at y1
      exact ⟨⟨by decide, by decide⟩, q.2.1.1, pl_we hx hw q.2.1 ⟨by decide, by decide⟩ (by decide), Or.inl ⟨muq_up (by rw [nx9, if_pos (by omega)]) n (by omega), rfl, by rw [q.2.2, Int.toNat_natCast]⟩⟩
end GAV
end
section
/-! The class's machine, exactly: a rule that was read when only the first H consts and formulas were known. -/
section QAJ
variable {G : mG} {d z m U Ab0 Be0 C0 cc p O P K L F0 H s0 : Nat} {M0 : mM} {w E pl : Nat → Int} {cv : Nat → vrs} {ec : Nat → Int × Int} {fv : Nat → vrs} {ns : Nat → Int} {sf ef : Nat → Nat} {X : Nat → Prop}
theorem x_Ma_runw {i j s e : Nat} (hH : H ≤ F0) (hF : FMx G) (ok : mOk M0) (hk : MK M0 z m U Ab0 Be0 C0) (hT : MT M0 m X) (hV : MVp m fv ns F0 M0) (hE : Rnv M0 z m Ab0 Be0 p O P K L) (hF0 : F0 ≤ 60) (hU : ¬ mcS m Ab0 Be0 U ∧ U < mZ M0) (fr : ∀ x, x < F0 → ns x = 7 → Frq M0 p m U O P L pl w fv ns sf ef X x) (hy : ∀ x, x < H → ns x = 7 → ef x < s) (hlf : ∀ k, (w k = 1 ∨ w k = 2 ∨ w k = 12 ∨ w k = 13) → (w k = 1 → E k ≠ -1) → Lfq M0 p m U fv ns H w E cv ec k) (eo : Eo w 6 i j) (hf : (fl w E pl 0 i j).1 = 0) (hc : Cd w ec pl (mI M0 O) (mI M0 P) 0 0 0 i j s e) (he : e < L) (oe : mI M0 O e = 0) : Ci G y_Ma_run (d + 4) [vr m, vi s] M0 (fun r M' => rnQ M0 z m U Ab0 Be0 C0 X 1 r M' ∧ rnx m (vlq w cv pl 0 0 i j) r M' ∧ MVp m fv ns F0 M') := by
  have c64 := hk.2.2.2.2.2.2.2
  have hLn := hE.2.2.2.2.2
  have lse := hc.lt
  refine k_Ma_run ok (i32s (by omega) (by omega)) ⟨hk.1, fun M2 e2 M4 e4 => ?_⟩
  have f2 : FI (fun b => b = m) M0 M2 := by rw [e2]; exact FI.ui rfl
  have f4 : FI (fun b => b = m) M2 M4 := by rw [e4]; exact FI.ui rfl
  have ff := f2.trans f4
  have g : ∀ i, mI M4 m i = if i = 15 then 0 else if i = 8 then 0 else mI M0 m i := fun i => by
    rw [mI_ui m i e4]
    by_cases y : i = 15
    · rw [if_pos ⟨rfl, y⟩, if_pos y]
    · rw [if_neg (fun q => y q.2), if_neg y, mI_ui m i e2]
      by_cases y8 : i = 8
      · rw [if_pos ⟨rfl, y8⟩, if_pos y8]
      · rw [if_neg (fun q => y8 q.2), if_neg y8]
  have o4 : mOk M4 := by rw [e4]; exact mOk_UI (by rw [e2]; exact mOk_UI ok (i32s (by omega) (by omega))) (i32s (by omega) (by omega))
  have hM : MS M0 z m U Ab0 Be0 C0 M4 0 0 := ms_step (M := M0) (t' := 0) (c' := 0) o4 hk FA.refl ⟨Or.inl rfl, Or.inl rfl⟩ ⟨rfl, Nat.le_refl _⟩ ⟨rfl, rfl, rfl⟩ (ff.mono (fun _ q => Or.inl q)) (by rw [g, if_neg (by decide), if_neg (by decide)]) (by rw [g, if_neg (by decide), if_neg (by decide)]) (by rw [g, if_neg (by decide), if_pos rfl]; rfl) (by omega) (fun j hj => absurd hj (by omega)) (by rw [g, if_pos rfl]; rfl)
  have hb : mtq m M0 M4 := mtq.fi ff
  have g9 : mI M4 m 9 = mI M0 m 9 := by rw [g, if_neg (by decide), if_neg (by decide)]
  have hT4 : MT M4 m X := hT.mtb hb.mtb g9
  have hv4 : MSv M0 z m U Ab0 Be0 C0 fv ns F0 X M4 0 0 := ⟨hM, fun x hx h7 u => by
    rw [hb (m + 5) (by omega), g9] at u
    rw [hb (m + 6) (by omega), hb (m + 7) (by omega)]
    exact hV x hx h7 u, hT4⟩
  have pt := ptl_le (m := m) (sf := sf) (ef := ef) (M := M4) (fun x hx h7 => by
    have := (fr x hx h7).2.2.2.1
    omega) H hH
  refine run_allv (cv := cv) (H := H) (s0 := s) hF hE (fun k h1 h2 => lfq_rc hE hF0 hH (fun _ => by decide) hU hy (fun x hx h7 => ⟨fr x (by omega) h7, frm_rc hF hE hF0 hU fr x (by omega) h7 1 (by omega)⟩) (hlf k h1 h2)) _ 0 i j (Nat.le_refl _) (Or.inl ⟨rfl, eo⟩) hf (fun u => absurd u (by decide)) 0 0 0 s e (fun u => absurd u (by decide)) hc (by omega) 0 0 M4 _ (by omega) (by omega) hv4 (fun M' i' z1 l1 h1 b1 _ t1 => ?_) (fun M' z1 e1 e2 h1 b1 => ?_)
  · exact run_end hE he (by omega) h1.1 oe ⟨⟨h1.2.2, Or.inr ⟨rfl, h1.1⟩⟩, Or.inr ⟨rfl, z1, t1⟩, h1.2.1⟩
  · obtain ⟨t2, c2, h2⟩ := h1
    exact ⟨⟨b1.2, Or.inl ⟨rfl, by rw [e1]; exact z1, t2, c2, h2⟩⟩, Or.inl ⟨rfl, z1, e1, e2⟩, b1.1⟩
end QAJ
section QAK
variable {G : mG} {d z m U Ab0 Be0 C0 cc p O P K L F0 H s0 : Nat} {M0 : mM} {w E pl lo hi : Nat → Int} {cv : Nat → vrs} {Φ : (Nat → Int × Int) → Prop} {fv : Nat → vrs} {ns : Nat → Int} {sf ef : Nat → Nat} {X : Nat → Prop}
theorem run_stw (hH : H ≤ F0) (hF : FMx G) (hE : Rnv M0 z m Ab0 Be0 p O P K L) (hF0 : F0 ≤ 60) (hU : ¬ mcS m Ab0 Be0 U ∧ U < mZ M0) (fr : ∀ x, x < F0 → ns x = 7 → Frq M0 p m U O P L pl w fv ns sf ef X x) (hy : ∀ x, x < H → ns x = 7 → ef x < s0) (hlf : ∀ ec, Φ ec → ∀ k, (w k = 1 ∨ w k = 2 ∨ w k = 12 ∨ w k = 13) → (w k = 1 → E k ≠ -1) → Lfq M0 p m U fv ns H w E cv ec k) (elo : ∀ v, v < 12 → lo v = mI M0 (p + 3) v) (ehi : ∀ v, v < 12 → hi v = mI M0 (p + 4) v) {Q : Int → mM → Prop} : ∀ (l : List (Nat × Nat × Nat × Nat)) (s e i : Nat) (M : mM) (nx : Nat → Int), (∀ q, q ∈ l → Eo w 6 q.2.1 q.2.2.1 ∧ (fl w E pl 0 q.2.1 q.2.2.1).1 = 0 ∧ q.1 < 12 ∧ 0 ≤ pl q.2.2.2 ∧ pl q.2.2.2 ≤ 16384) → Scw Φ w pl (mI M0 O) (mI M0 P) l s e → e < L → mI M0 O e = 0 → s0 ≤ s → i + (e - s) + ptl m ns sf ef M H < 1000000 → MSv M0 z m U Ab0 Be0 C0 fv ns F0 X M 0 0 → (∀ j, j < 12 → mI M (m + 2) j = nx j) →
  ((stq9 w cv pl lo hi l nx).1.1 = 0 → ∀ M', MSv M0 z m U Ab0 Be0 C0 fv ns F0 X M' 0 0 → (∀ j, j < 12 → mI M' (m + 2) j = (stq9 w cv pl lo hi l nx).2 j) → Q 1 M') →
  ((stq9 w cv pl lo hi l nx).1.1 ≠ 0 → ∀ M', mI M' m 1 = (stq9 w cv pl lo hi l nx).1.1 → mI M' m 2 = (stq9 w cv pl lo hi l nx).1.2 → (∃ t2 c2, MS M0 z m U Ab0 Be0 C0 M' t2 c2) → (MVp m fv ns F0 M' ∧ MT M' m X) → Q 0 M') → h_Ma_run_14 G (d + 3) m (s : Int) (i : Int) M Q := by
  have hL := hE.2.2.2.2.2
  intro l
  induction l with
  | nil =>
    intro s e i M nx _ hc he oe _ hi hM hn next _
    have hc : s = e := hc
    subst hc
    exact run_end hE he (by omega) hM.1 oe (next rfl M hM hn)
  | cons q r ih =>
    intro s e i M nx hq hc he oe hs0 hi hM hn next flt
    obtain ⟨q1, q2, q3, q4, q5⟩ := hq q List.mem_cons_self
    have cl := Scw.le _ hc
    obtain ⟨a, ec, hφ, c1, o1, p1, c2⟩ := hc
    have l1 := c1.lt
    have l2 := Scw.le _ c2
    rw [stq9] at next flt
    have rc : Rcv G d M0 z m U Ab0 Be0 C0 fv ns sf ef F0 X 0 H s0 (vlq w cv pl 0 0 q.2.1 q.2.2.1) s a := run_allv hF hE (fun k h1 h2 => lfq_rc hE hF0 hH (fun _ => by decide) hU hy (fun x hx h7 => ⟨fr x (by omega) h7, frm_rc hF hE hF0 hU fr x (by omega) h7 1 (by omega)⟩) (hlf ec hφ k h1 h2)) _ 0 q.2.1 q.2.2.1 (Nat.le_refl _) (Or.inl ⟨rfl, q1⟩) q2 (fun u => absurd u (by decide)) 0 0 0 s a (fun u => absurd u (by decide)) c1 (by omega)
    generalize vlq w cv pl 0 0 q.2.1 q.2.2.1 = v at rc next flt
    refine rc 0 i M Q (by omega) (by omega) hM (fun M1 i1 z1 b1 h1 k1 _ t1 => ?_) (fun M1 z1 e1 e2 h1 b1 => ?_)
    · rw [if_neg (show ¬ v.1 ≠ 0 from fun u => u z1), elo q.1 q3, ehi q.1 q3] at next flt
      refine run_set hE (by omega) (by omega) h1.1 o1 p1 q3 ⟨q4, q5⟩ t1 (fun z2 M2 h2 b2 _ n2 => ?_) (fun z2 M2 e1 e2 h2 b2 => ?_)
      · obtain ⟨h2', v2⟩ := h1.ofb (H := H) (sf := sf) (ef := ef) h2 b2
        rw [if_neg (fun u => u z2)] at next flt
        refine ih (a + 1) e (i1 + 1) M2 _ (fun q' h' => hq q' (List.mem_cons_of_mem _ h')) c2 he oe (by omega) (by omega) h2' (fun j hj => ?_) next flt
        rw [n2 j, k1.2.2, hn j hj]
      · obtain ⟨h2', -⟩ := h1.ofb (H := H) (sf := sf) (ef := ef) h2 b2
        rw [if_pos z2] at flt
        exact flt z2 M2 e1 e2 ⟨_, _, h2⟩ h2'.2
    · rw [if_pos z1] at flt
      exact flt z1 M1 e1 e2 h1 b1
/-- a branch's sets -/
theorem x_Ma_runt (hH : H ≤ F0) {s e : Nat} {l : List (Nat × Nat × Nat × Nat)} {nx : Nat → Int} (hF : FMx G) (ok : mOk M0) (hk : MK M0 z m U Ab0 Be0 C0) (hT : MT M0 m X) (hV : MVp m fv ns F0 M0) (hE : Rnv M0 z m Ab0 Be0 p O P K L) (hF0 : F0 ≤ 60) (hU : ¬ mcS m Ab0 Be0 U ∧ U < mZ M0) (fr : ∀ x, x < F0 → ns x = 7 → Frq M0 p m U O P L pl w fv ns sf ef X x) (hy : ∀ x, x < H → ns x = 7 → ef x < s) (hlf : ∀ ec, Φ ec → ∀ k, (w k = 1 ∨ w k = 2 ∨ w k = 12 ∨ w k = 13) → (w k = 1 → E k ≠ -1) → Lfq M0 p m U fv ns H w E cv ec k) (elo : ∀ v, v < 12 → lo v = mI M0 (p + 3) v) (ehi : ∀ v, v < 12 → hi v = mI M0 (p + 4) v) (hq : ∀ q, q ∈ l → Eo w 6 q.2.1 q.2.2.1 ∧ (fl w E pl 0 q.2.1 q.2.2.1).1 = 0 ∧ q.1 < 12 ∧ 0 ≤ pl q.2.2.2 ∧ pl q.2.2.2 ≤ 16384) (hc : Scw Φ w pl (mI M0 O) (mI M0 P) l s e) (he : e < L) (oe : mI M0 O e = 0) (hn : ∀ j, j < 12 → mI M0 (m + 2) j = nx j) : Ci G y_Ma_run (d + 4) [vr m, vi s] M0 (fun r M' => rnQ M0 z m U Ab0 Be0 C0 X 0 r M' ∧ ((r = 0 ∧ (stq9 w cv pl lo hi l nx).1.1 ≠ 0 ∧ mI M' m 1 = (stq9 w cv pl lo hi l nx).1.1 ∧ mI M' m 2 = (stq9 w cv pl lo hi l nx).1.2) ∨ (r = 1 ∧ (stq9 w cv pl lo hi l nx).1.1 = 0 ∧ ∀ j, j < 12 → mI M' (m + 2) j = (stq9 w cv pl lo hi l nx).2 j)) ∧ MVp m fv ns F0 M') := by
  have lse := Scw.le _ hc
  have c64 := hk.2.2.2.2.2.2.2
  have hLn := hE.2.2.2.2.2
  refine k_Ma_run ok (i32s (by omega) (by omega)) ⟨hk.1, fun M2 e2 M4 e4 => ?_⟩
  have f2 : FI (fun b => b = m) M0 M2 := by rw [e2]; exact FI.ui rfl
  have f4 : FI (fun b => b = m) M2 M4 := by rw [e4]; exact FI.ui rfl
  have ff := f2.trans f4
  have g : ∀ i, mI M4 m i = if i = 15 then 0 else if i = 8 then 0 else mI M0 m i := fun i => by
    rw [mI_ui m i e4]
    by_cases y : i = 15
    · rw [if_pos ⟨rfl, y⟩, if_pos y]
    · rw [if_neg (fun q => y q.2), if_neg y, mI_ui m i e2]
      by_cases y8 : i = 8
      · rw [if_pos ⟨rfl, y8⟩, if_pos y8]
      · rw [if_neg (fun q => y8 q.2), if_neg y8]
  have o4 : mOk M4 := by rw [e4]; exact mOk_UI (by rw [e2]; exact mOk_UI ok (i32s (by omega) (by omega))) (i32s (by omega) (by omega))
  have hM : MS M0 z m U Ab0 Be0 C0 M4 0 0 := ms_step (M := M0) (t' := 0) (c' := 0) o4 hk FA.refl ⟨Or.inl rfl, Or.inl rfl⟩ ⟨rfl, Nat.le_refl _⟩ ⟨rfl, rfl, rfl⟩ (ff.mono (fun _ q => Or.inl q)) (by rw [g, if_neg (by decide), if_neg (by decide)]) (by rw [g, if_neg (by decide), if_neg (by decide)]) (by rw [g, if_neg (by decide), if_pos rfl]; rfl) (by omega) (fun j hj => absurd hj (by omega)) (by rw [g, if_pos rfl]; rfl)
  have hb : mtq m M0 M4 := mtq.fi ff
  have g9 : mI M4 m 9 = mI M0 m 9 := by rw [g, if_neg (by decide), if_neg (by decide)]
  have hT4 : MT M4 m X := hT.mtb hb.mtb g9
  have hv4 : MSv M0 z m U Ab0 Be0 C0 fv ns F0 X M4 0 0 := ⟨hM, fun x hx h7 u => by
    rw [hb (m + 5) (by omega), g9] at u
    rw [hb (m + 6) (by omega), hb (m + 7) (by omega)]
    exact hV x hx h7 u, hT4⟩
  have pt := ptl_le (m := m) (sf := sf) (ef := ef) (M := M4) (fun x hx h7 => by
    have := (fr x hx h7).2.2.2.1
    omega) H hH
  refine run_stw (cv := cv) (s0 := s) hH hF hE hF0 hU fr hy hlf elo ehi l s e 0 M4 nx hq hc he oe (Nat.le_refl _) (by omega) hv4 (fun j hj => by rw [hb (m + 2) (Or.inl rfl)]; exact hn j hj) (fun z1 M' h1 n1 => ?_) (fun z1 M' e1 e2 h1 b1 => ?_)
  · exact ⟨⟨h1.2.2, Or.inr ⟨rfl, h1.1⟩⟩, Or.inr ⟨rfl, z1, n1⟩, h1.2.1⟩
  · obtain ⟨t2, c2, h2⟩ := h1
    exact ⟨⟨b1.2, Or.inl ⟨rfl, by rw [e1]; exact z1, t2, c2, h2⟩⟩, Or.inl ⟨rfl, z1, e1, e2⟩, b1.1⟩
end QAK
end
section
/-! The class's game, exactly: a rule is worked out in a state. -/
section GBA
variable {G : mG} {d z g m U p O P K V F L cnt Ab Be C Ab0 Be0 C0 n N : Nat} {M0 M M' : mM} {ns : Nat → Int} {sf ef : Nat → Nat} {F1 : Nat} {ns1 : Nat → Int} {sf1 ef1 : Nat → Nat} {W pl nq : Nat → Int} {sm : Nat → Nat → Prop} {nms : List nm9} {sg : Nat → Int} {X : Nat → Prop}
/-- what a leaf's order pushes in a state -/
theorem lf_st {r l : List nm9} {ec : Nat → Int × Int} (hq : NqO W nq n) (hn : NmO W pl sm N n nms) (hs : SgO sg nms) (fm : FmC M p O P L W pl nq sm N n ns sf ef nms) (hr : nms = r ++ l) (hV : vcn nms ≤ 12) (hF : rcn nms ≤ 60) (hst : ∀ v, v < vcn nms → mI M U ((mI M m 4).toNat + v) = sg v) (lf : LfC W nq sm n r ec) : ∀ k, (W k = 1 ∨ W k = 2 ∨ W k = 12 ∨ W k = 13) → (W k = 1 → E9 sm r 0 k ≠ -1) → Lfq M p m U (fvs W pl nq sm N sg nms.reverse) ns (rcn r) W (E9 sm r 0) (cvb W pl nq sm N sg n r.reverse) ec k := by
  intro k hk hne
  refine ⟨cvb_ok hq (fun a e' b u => nvs_ok hq hn hs _ a e' (b ++ l) (Nat.le_refl _) (by rw [hr, u]; simp)) k hk hne, ?_⟩
  unfold cvb
  by_cases kn : k < n
  · rw [if_pos kn]
    obtain ⟨c2, c12, c13, c1⟩ := lf.2 k kn
    by_cases h1 : W k = 1
    · obtain ⟨l1, e, l2, q1, q2, q3, q4⟩ := E9_sp (hne h1)
      have hc := c1 h1 l1 e l2 q1 q2 q3
      have b := cvs_old (pl := pl) (nq := nq) (N := N) (sg := sg) (l := []) h1 q1 q2 q3
      rw [List.append_nil] at b
      have hm : nms = l1 ++ e :: (l2 ++ l) := by rw [hr, q1]; simp
      obtain ⟨⟨e1, e3⟩, -⟩ := hn l1 e (l2 ++ l) hm
      rw [b, hc]
      have rl : rcn r = rcn l1 + rcn (e :: l2) := by rw [q1, rcn_app]
      have vl : vcn nms = vcn l1 + vcn (e :: (l2 ++ l)) := by rw [hm, vcn_app]
      have rn : rcn nms = rcn r + rcn l := by rw [hr, rcn_app]
      by_cases y3 : e.2.1 = 3
      · have vl2 : vcn (e :: (l2 ++ l)) = vcn (l2 ++ l) + 1 := by
          show vcn (l2 ++ l) + (if e.2.1 = 3 then 1 else 0) = _
          rw [if_pos y3]
        refine Or.inr (Or.inr (Or.inl ⟨?_, vcn l1, ?_, by omega, ?_⟩))
        · show srt9 e.2.1 = 5
          rw [y3]; rfl
        · show (if e.2.1 = 3 then ((vcn l1 : Nat) : Int) else ((rcn l1 : Nat) : Int)) = _
          rw [if_pos y3]
        · unfold nvs
          rw [if_neg (by omega), if_pos y3, vcn_rev, hst _ (by omega)]
      · have rl2 : rcn (e :: l2) = rcn l2 + 1 := by
          show rcn l2 + (if e.2.1 = 3 then 0 else 1) = _
          rw [if_neg y3]
        obtain ⟨f1, f2, f3⟩ := fm l1 e (l2 ++ l) hm y3
        by_cases y1 : e.2.1 = 1
        · obtain ⟨g1, g2⟩ := f2 y1
          refine Or.inr (Or.inl ⟨?_, rcn l1, ?_, by omega, g2, ?_⟩)
          · show srt9 e.2.1 = 4
            rw [y1]; rfl
          · show (if e.2.1 = 3 then ((vcn l1 : Nat) : Int) else ((rcn l1 : Nat) : Int)) = _
            rw [if_neg y3]
          · unfold nvs
            rw [if_pos y1]
            exact g1
        · have y2 : e.2.1 = 2 := by omega
          refine Or.inr (Or.inr (Or.inr ⟨?_, rcn l1, ?_, by omega, ?_, ?_⟩))
          · show srt9 e.2.1 = 7
            rw [y2]; rfl
          · show (if e.2.1 = 3 then ((vcn l1 : Nat) : Int) else ((rcn l1 : Nat) : Int)) = _
            rw [if_neg y3]
          · rw [f1, y2]; rfl
          · have e9 : nms.reverse = (l2 ++ l).reverse ++ e :: l1.reverse := by rw [hm]; simp
            rw [e9, ← rcn_rev l1]
            exact (fvs_at y3 _).symm
    · rw [cvs_no h1]
      refine Or.inl ?_
      by_cases h2 : W k = 2
      · rw [if_pos h2, c2 h2]
        exact ⟨rfl, rfl⟩
      · rw [if_neg h2]
        by_cases h3 : W k = 12
        · rw [if_pos h3, c12 h3]
          exact ⟨rfl, rfl⟩
        · rw [if_neg h3, c13 (by omega)]
          exact ⟨rfl, rfl⟩
  · rw [if_neg kn, lf.1 k (by omega)]
    exact Or.inl ⟨rfl, rfl⟩
theorem fr_st (hq : NqO W nq n) (hn : NmO W pl sm N n nms) (hs : SgO sg nms) (fm : FmC M p O P L W pl nq sm N n ns sf ef nms) (hV : vcn nms ≤ 12) (hF : rcn nms ≤ 60) (hst : ∀ v, v < vcn nms → mI M U ((mI M m 4).toNat + v) = sg v) (hX : ∀ x, x < 60 → X x) : ∀ x, x < rcn nms → ns x = 7 → Frq M p m U O P L pl W (fvs W pl nq sm N sg nms.reverse) ns sf ef X x := by
  intro x hx h7
  obtain ⟨l1, e, l2, q1, q2, q3⟩ := rcn_sp nms x hx
  obtain ⟨f1, f2, f3⟩ := fm l1 e l2 q1 q2
  rw [q3] at f1 f2 f3
  have y2 : e.2.1 = 2 := srt_7 (by rw [← f1]; exact h7)
  obtain ⟨g1, g2, g3, g4, g5, ec, g6, g7⟩ := f3 y2
  obtain ⟨-, -, -, hf⟩ := hn l1 e l2 q1
  obtain ⟨t1, t2, t3, t4⟩ := hf y2
  refine ⟨hX x (by omega), g1, g2, g3, g4, g5, e.1 + 2, nxq W 34 N e.1, E9 sm l1 0, cvb W pl nq sm N sg n l1.reverse, ec, t1, t3, g7, ?_, ?_⟩
  · have e9 : nms.reverse = l2.reverse ++ e :: l1.reverse := by rw [q1]; simp
    rw [cvb_vl t1 t2, e9]
    have := fvs_at (w := W) (pl := pl) (nq := nq) (sm := sm) (N := N) (sg := sg) (r := l1.reverse) q2 l2.reverse
    rw [rcn_rev, q3] at this
    rw [this]
    unfold nvs
    rw [if_neg (by omega), if_neg q2]
  · have := lf_st (m := m) (U := U) hq hn hs fm q1 hV hF hst g6
    rw [q3] at this
    exact this
/-- what the game's runs hang on -/
def gcx (M0 : mM) (g p O P L V F Ab0 Be0 : Nat) (ns : Nat → Int) (sf ef : Nat → Nat) (W pl nq : Nat → Int) (sm : Nat → Nat → Prop) (N n : Nat) (nms : List nm9) : Prop := (¬ gaS g Ab0 Be0 O ∧ ¬ gaS g Ab0 Be0 P ∧ O < mZ M0 ∧ P < mZ M0 ∧ F ≤ 60) ∧ NqO W nq n ∧ NmO W pl sm N n nms ∧ FmC M0 p O P L W pl nq sm N n ns sf ef nms ∧ rcn nms = F ∧ vcn nms = V
/-- the machine stands in state k, whose values are sg -/
def gst9 (M : mM) (g V F : Nat) (ns W pl nq : Nat → Int) (sm : Nat → Nat → Prop) (N : Nat) (nms : List nm9) (k : Nat) (sg : Nat → Int) : Prop := mI M (g + 10) 4 = ((12 * k : Nat) : Int) ∧ (∀ v, v < V → mI M (g + 1) (12 * k + v) = sg v) ∧ SgO sg nms ∧ MVp (g + 10) (fvs W pl nq sm N sg nms.reverse) ns F M
theorem gst9.cg {k : Nat} (h : gst9 M g V F ns W pl nq sm N nms k sg) (e10 : ∀ i, i = 4 ∨ i = 9 → mI M' (g + 10) i = mI M (g + 10) i) (e1 : ∀ v, v < V → mI M' (g + 1) (12 * k + v) = mI M (g + 1) (12 * k + v)) (e5 : mI M' (g + 15) = mI M (g + 15)) (e6 : mI M' (g + 16) = mI M (g + 16)) (e7 : mI M' (g + 17) = mI M (g + 17)) : gst9 M' g V F ns W pl nq sm N nms k sg := by
  obtain ⟨h1, h2, h3, h4⟩ := h
  refine ⟨by rw [e10 4 (Or.inl rfl)]; exact h1, fun v hv => by rw [e1 v hv]; exact h2 v hv, h3, fun x hx h7 u => ?_⟩
  have u : mI M' (g + 15) x = mI M' (g + 10) 9 := u
  rw [e5, e10 9 (Or.inr rfl)] at u
  have := h4 x hx h7 u
  show _ = (0, mI M' (g + 16) x, mI M' (g + 17) x)
  rw [e6, e7]
  exact this
theorem gx_O (hx : GX M0 z g p O P K V F1 ns1 sf1 ef1 L cnt Ab0 Be0 C0 M Ab Be C) (cx : gcx M0 g p O P L V F Ab0 Be0 ns sf ef W pl nq sm N n nms) : mI M O = mI M0 O ∧ mI M P = mI M0 P := by
  obtain ⟨⟨a, b, c, e, -⟩, -⟩ := cx
  obtain ⟨-, -, -, -, -, -, -, ⟨f, -⟩, -⟩ := hx
  exact ⟨(f.2 O c).2.2.2.2 a, (f.2 P e).2.2.2.2 b⟩
theorem gx_p (hx : GX M0 z g p O P K V F1 ns1 sf1 ef1 L cnt Ab0 Be0 C0 M Ab Be C) : ∀ i, i ≤ 15 → mI M (p + i) = mI M0 (p + i) := hx.2.2.2.2.2.2.2.2.2
/-- what a run of the game's machine comes to -/
def grQ (M0 : mM) (z g p O P K V F1 : Nat) (ns1 : Nat → Int) (sf1 ef1 : Nat → Nat) (L cnt Ab0 Be0 C0 : Nat) (M : mM) (Ab Be : Nat) (r : Int) (M' : mM) : Prop := i32 r ∧ mOk M' ∧ (r = 0 ∨ r = 1) ∧ ∃ Ab' Be' C', GX M0 z g p O P K V F1 ns1 sf1 ef1 L cnt Ab0 Be0 C0 M' Ab' Be' C' ∧ FA (mcS (g + 10) Ab Be) (fun x => x = g + 10) M M' ∧ (mI M' (g + 10) 9 = mI M (g + 10) 9 ∧ mI M' (g + 10) 4 = mI M (g + 10) 4)
theorem gr_mk {h0 : Nat} {r : Int} (hx : GX M0 z g p O P K V F1 ns1 sf1 ef1 L cnt Ab0 Be0 C0 M Ab Be C) (k : rnQ M z (g + 10) (g + 1) Ab Be C (fun x => x < 60 ∧ 1 = 1) h0 r M') : grQ M0 z g p O P K V F1 ns1 sf1 ef1 L cnt Ab0 Be0 C0 M Ab Be r M' := by
  have ne := hx.ne
  obtain ⟨h1, h2, h3, h4, h5, ⟨h61, h62, h63⟩, h7, h8, h9, h10⟩ := hx
  obtain ⟨p1, -⟩ := id h4
  obtain ⟨o1, o2, -, o4⟩ := p1.2.2.2.1
  obtain ⟨a1, a2, a3, a4⟩ := h3.2.2.2.2.2.1
  obtain ⟨k1, k2⟩ := k
  have hr : r = 0 ∨ r = 1 := k2.imp (fun u => u.1) (fun u => u.1)
  have fin : ∀ {t c : Nat}, MS M z (g + 10) (g + 1) Ab Be C M' t c → grQ M0 z g p O P K V F1 ns1 sf1 ef1 L cnt Ab0 Be0 C0 M Ab Be r M' := fun {t c} hM => by
    obtain ⟨Ab', Be', C', ok, hk, hf, hab, hr', ⟨m8, mt, mb⟩, -, hm⟩ := hM
    have hf9 : FA (gaS g Ab Be) (gaR g) M M' := hf.mono (fun x _ y => by
      have y' : x = g + 10 ∨ x = g + 10 + 2 ∨ (g + 10 + 5 ≤ x ∧ x ≤ g + 10 + 9) ∨ x = Ab ∨ x = Be := y
      show (g ≤ x ∧ x ≤ g + 22) ∨ x = Ab ∨ x = Be
      omega) (fun x _ y => Or.inr y)
    obtain ⟨z1, zA, zB, zU⟩ := h3.2.2.2.2.2.2.1
    obtain ⟨pz0, pz1, pz2⟩ := p1.2.2.2.2.1
    have cl : ∀ i, i ≤ 22 → mK M' (g + i) = mK M (g + i) ∧ mN M' (g + i) = mN M (g + i) := fun i hi => ⟨(hf.2 (g + i) (by omega)).1, (hf.2 (g + i) (by omega)).2.1⟩
    have rg : mR M' g = mR M g := (hf.2 g (by omega)).2.2.2.1 (show ¬ g = g + 10 by first | rfl | omega)
    refine ⟨m_b32 hr, ok, hr, Ab', Be', C', ⟨ok, h2.eq2 cl (fun i _ => by rw [rg]), hk, h4.fa hf9 ne.2.2.2 ne.1 ne.2.1 ne.2.2.1, ⟨by rw [rg]; exact h5.1, by rw [hm.2.2]; exact h5.2⟩, ⟨h61, h62, ?_⟩, k1, h8.trans ⟨hf9, hab, hr'⟩, fun x hx => (k1 x ⟨hx, rfl⟩).1, fun i hi => by rw [(hf9.2 (p + i) (by omega)).2.2.2.2 (ne.1 i hi)]; exact h10 i hi⟩, hf, hm.1, hm.2.1⟩
    clear h1 h2 h3 h4 h5 h7 h8 h9 h10 k1 k2 hk hf hf9 cl rg mb hr' hm hr ne
    omega
  rcases k2 with ⟨e1, f0, t, c, hM⟩ | ⟨e1, hM⟩
  · exact fin hM
  · exact fin hM
theorem gx_env (hx : GX M0 z g p O P K V F1 ns1 sf1 ef1 L cnt Ab0 Be0 C0 M Ab Be C) : Rnv M z (g + 10) Ab Be p O P K L ∧ (¬ mcS (g + 10) Ab Be (g + 1) ∧ g + 1 < mZ M) ∧ V ≤ 12 := by
  obtain ⟨h1, h2, h3, h4, h5, ⟨h61, h62, h63⟩, h7, h8, h9, h10⟩ := hx
  obtain ⟨p1, ⟨p2, p3, p4⟩, ⟨p5, p6⟩, p7, ⟨p8, p9⟩, p10, -⟩ := id h4
  obtain ⟨o1, o2, -, o4⟩ := p1.2.2.2.1
  obtain ⟨a1, a2, a3, a4⟩ := h3.2.2.2.2.2.1
  have zz := h3.2.2.2.2.2.2.1.1
  refine ⟨⟨p1, h5.2, ⟨by omega, h63, by omega, o4, a1, a2⟩, p2, p3, p4⟩, ⟨fun y => ?_, by omega⟩, p6⟩
  have y' : g + 1 = g + 10 ∨ g + 1 = g + 10 + 2 ∨ (g + 10 + 5 ≤ g + 1 ∧ g + 1 ≤ g + 10 + 9) ∨ g + 1 = Ab ∨ g + 1 = Be := y
  omega
theorem gst9.at {k : Nat} (st : gst9 M g V F ns W pl nq sm N nms k sg) (hv : vcn nms = V) : ∀ v, v < vcn nms → mI M (g + 1) ((mI M (g + 10) 4).toNat + v) = sg v := fun v hv' => by
  rw [st.1, Int.toNat_natCast]
  exact st.2.1 v (by omega)
theorem gst9.run {k : Nat} {r : Int} (st : gst9 M g V F ns W pl nq sm N nms k sg) (hx : GX M0 z g p O P K V F1 ns1 sf1 ef1 L cnt Ab0 Be0 C0 M Ab Be C) (q : grQ M0 z g p O P K V F1 ns1 sf1 ef1 L cnt Ab0 Be0 C0 M Ab Be r M') (hv : MVp (g + 10) (fvs W pl nq sm N sg nms.reverse) ns F M') : gst9 M' g V F ns W pl nq sm N nms k sg := by
  obtain ⟨-, -, -, Ab', Be', C', -, f, -, e4⟩ := q
  obtain ⟨ce, -⟩ := ga_ce hx f
  exact ⟨by rw [e4]; exact st.1, fun v hv => by rw [ce 1 (by omega)]; exact st.2.1 v hv, st.2.2.1, hv⟩
/-- a rule is worked out in a state -/
theorem x_Ga_run {k i j s : Nat} (hF : FMx G) (hx : GX M0 z g p O P K V F1 ns1 sf1 ef1 L cnt Ab0 Be0 C0 M Ab Be C) (cx : gcx M0 g p O P L V F Ab0 Be0 ns sf ef W pl nq sm N n nms) (st : gst9 M g V F ns W pl nq sm N nms k sg) (ru : RuC M0 O P L W pl nq sm n ns ef nms i j s) : Ci G y_Ma_run (d + 4) [vr (g + 10), vi s] M (fun r M' => grQ M0 z g p O P K V F1 ns1 sf1 ef1 L cnt Ab0 Be0 C0 M Ab Be r M' ∧ rnx (g + 10) (vlq W (cvs W pl nq sm N sg nms.reverse) pl 0 0 i j) r M' ∧ gst9 M' g V F ns W pl nq sm N nms k sg) := by
  obtain ⟨env, hU, V12⟩ := gx_env hx
  have F60 := cx.1.2.2.2.2
  obtain ⟨eO, eP⟩ := gx_O hx cx
  have ep := gx_p hx
  obtain ⟨-, hq, hn, fm, hrc, hvc⟩ := id cx
  have fm' := fm.cg (ep 6 (by omega)) (ep 7 (by omega)) (ep 8 (by omega)) eO eP
  obtain ⟨r, l, ec, e, u1, u2, u3, u4, u5, u6, u7, u8, u9⟩ := ru
  have hst := st.at hvc
  have rl : rcn nms = rcn r + rcn l := by rw [u1, rcn_app]
  have fr := fr_st (m := g + 10) (U := g + 1) (X := fun x => x < 60 ∧ 1 = 1) hq hn st.2.2.1 fm' (by omega) (by omega) hst (fun x hx => ⟨hx, rfl⟩)
  have lf := lf_st (m := g + 10) (U := g + 1) hq hn st.2.2.1 fm' u1 (by omega) (by omega) hst u5
  rw [hrc] at fr
  refine (x_Ma_runw (H := rcn r) (F0 := F) (by omega) hF hx.1 hx.2.2.1 hx.2.2.2.2.2.2.1 st.2.2.2 env F60 hU fr u6 lf u2 u4 (by rw [eO, eP]; exact u7) u8 (by rw [eO]; exact u9)).mono (fun r' M' k => ?_)
  obtain ⟨k1, k2, k3⟩ := k
  have q := gr_mk hx k1
  rw [vls_r u1 u2 u3 u4] at k2
  exact ⟨q, k2, st.run hx q k3⟩
theorem stq_cg {cv cv' : Nat → vrs} {lo hi : Nat → Int} : ∀ (l : List (Nat × Nat × Nat × Nat)) (nx : Nat → Int), (∀ q, q ∈ l → vlq W cv pl 0 0 q.2.1 q.2.2.1 = vlq W cv' pl 0 0 q.2.1 q.2.2.1) → stq9 W cv pl lo hi l nx = stq9 W cv' pl lo hi l nx
  | [], nx, _ => rfl
  | q :: l, nx, h => by
    rw [stq9, stq9, h q List.mem_cons_self]
    rw [stq_cg l _ (fun q' h' => h q' (List.mem_cons_of_mem _ h'))]
/-- a branch's sets are worked out in a state -/
theorem x_Ga_runs {k s : Nat} {l : List (Nat × Nat × Nat × Nat)} {nx : Nat → Int} (hF : FMx G) (hx : GX M0 z g p O P K V F1 ns1 sf1 ef1 L cnt Ab0 Be0 C0 M Ab Be C) (cx : gcx M0 g p O P L V F Ab0 Be0 ns sf ef W pl nq sm N n nms) (st : gst9 M g V F ns W pl nq sm N nms k sg) (ru : SeC M0 O P L V W pl nq sm n ns ef nms l s) (hnx : ∀ j, j < 12 → mI M (g + 12) j = nx j) : Ci G y_Ma_run (d + 4) [vr (g + 10), vi s] M (fun r M' => grQ M0 z g p O P K V F1 ns1 sf1 ef1 L cnt Ab0 Be0 C0 M Ab Be r M' ∧ ((r = 0 ∧ (stq9 W (cvs W pl nq sm N sg nms.reverse) pl (mI M0 (p + 3)) (mI M0 (p + 4)) l nx).1.1 ≠ 0 ∧ mI M' (g + 10) 1 = (stq9 W (cvs W pl nq sm N sg nms.reverse) pl (mI M0 (p + 3)) (mI M0 (p + 4)) l nx).1.1 ∧ mI M' (g + 10) 2 = (stq9 W (cvs W pl nq sm N sg nms.reverse) pl (mI M0 (p + 3)) (mI M0 (p + 4)) l nx).1.2) ∨ (r = 1 ∧ (stq9 W (cvs W pl nq sm N sg nms.reverse) pl (mI M0 (p + 3)) (mI M0 (p + 4)) l nx).1.1 = 0 ∧ ∀ j, j < 12 → mI M' (g + 12) j = (stq9 W (cvs W pl nq sm N sg nms.reverse) pl (mI M0 (p + 3)) (mI M0 (p + 4)) l nx).2 j)) ∧ gst9 M' g V F ns W pl nq sm N nms k sg) := by
  obtain ⟨env, hU, V12⟩ := gx_env hx
  have F60 := cx.1.2.2.2.2
  obtain ⟨eO, eP⟩ := gx_O hx cx
  have ep := gx_p hx
  obtain ⟨-, hq, hn, fm, hrc, hvc⟩ := id cx
  have fm' := fm.cg (ep 6 (by omega)) (ep 7 (by omega)) (ep 8 (by omega)) eO eP
  obtain ⟨r, l', e, u1, u2, u6, u7, u8, u9⟩ := ru
  have hst := st.at hvc
  have rl : rcn nms = rcn r + rcn l' := by rw [u1, rcn_app]
  have fr := fr_st (m := g + 10) (U := g + 1) (X := fun x => x < 60 ∧ 1 = 1) hq hn st.2.2.1 fm' (by omega) (by omega) hst (fun x hx => ⟨hx, rfl⟩)
  have lf := fun (ec : Nat → Int × Int) (u5 : LfC W nq sm n r ec) => lf_st (m := g + 10) (U := g + 1) hq hn st.2.2.1 fm' u1 (by omega) (by omega) hst u5
  rw [hrc] at fr
  have ecg := stq_cg (W := W) (pl := pl) (cv := cvs W pl nq sm N sg nms.reverse) (cv' := cvb W pl nq sm N sg n r.reverse) (lo := mI M0 (p + 3)) (hi := mI M0 (p + 4)) l nx (fun q hq' => (vls_r u1 (u2 q hq').1 (u2 q hq').2.1 (u2 q hq').2.2.1).symm)
  rw [ecg]
  refine (x_Ma_runt (Φ := LfC W nq sm n r) (H := rcn r) (F0 := F) (lo := mI M0 (p + 3)) (hi := mI M0 (p + 4)) (by omega) hF hx.1 hx.2.2.1 hx.2.2.2.2.2.2.1 st.2.2.2 env F60 hU fr u6 lf (fun v _ => by rw [ep 3 (by omega)]) (fun v _ => by rw [ep 4 (by omega)]) (fun q h' => ⟨(u2 q h').1, (u2 q h').2.2.1, by have := (u2 q h').2.2.2.1; omega, (u2 q h').2.2.2.2⟩) (by rw [eO, eP]; exact u7) u8 (by rw [eO]; exact u9) hnx).mono (fun r' M' k => ?_)
  obtain ⟨k1, k2, k3⟩ := k
  have q := gr_mk hx k1
  exact ⟨q, k2, st.run hx q k3⟩
theorem x_Ga_machineFault (hO : mOk M) (hk : mK M g = 7) (hr : mR M g 15 = g + 10) (hm : mK M (g + 10) = 5) : Ci G y_Ga_machineFault d [vr g] M (fun r M' => i32 r ∧ r = mI M (g + 10) 1 ∧ plQ M g M' ∧ mI M' g 10 = mI M (g + 10) 2) := by
  refine k_Ga_machineFault hO ⟨hk, by rw [hr]; exact hm, fun M3 e3 => ?_⟩
  have f3 : FI (fun x => x = g) M M3 := by rw [e3]; exact FI.ui rfl
  have o3 : mOk M3 := by rw [e3]; exact mOk_UI hO (hO _ _).1
  rw [f3.1, f3.2.2.1, hr]
  refine ⟨hm, (o3 _ _).1, by rw [f3.2.2.2.2.2.2 (g + 10) (show ¬ g + 10 = g by first | rfl | omega)], ⟨o3, f3, fun i hi => ?_⟩, by rw [mI_ui g 10 e3, if_pos ⟨rfl, rfl⟩, hr]⟩
  rw [mI_ui g i e3, if_neg (fun u => hi u.2)]
end GBA
end
section
/-! The class's game, exactly: weighChances, the whole. -/
section GBB
variable {ev : List Int → Nat → Nat → vrs} {sg : List Int} {b : br9} {r : List br9}
theorem chq_f (h : (ev sg b.2.1.1 b.2.1.2).1 ≠ 0) : chq9 ev sg (b :: r) = (((ev sg b.2.1.1 b.2.1.2).1, (ev sg b.2.1.1 b.2.1.2).2.1), []) := if_pos h
theorem chq_r (h0 : (ev sg b.2.1.1 b.2.1.2).1 = 0) (h : (ev sg b.2.1.1 b.2.1.2).2.1 < 0 ∨ (ev sg b.2.1.1 b.2.1.2).2.2 < (ev sg b.2.1.1 b.2.1.2).2.1) : chq9 ev sg (b :: r) = ((11, b.1), []) := (if_neg (fun u => u h0)).trans (if_pos h)
theorem chq_s (h0 : (ev sg b.2.1.1 b.2.1.2).1 = 0) (h : ¬ ((ev sg b.2.1.1 b.2.1.2).2.1 < 0 ∨ (ev sg b.2.1.1 b.2.1.2).2.2 < (ev sg b.2.1.1 b.2.1.2).2.1)) : chq9 ev sg (b :: r) = ((chq9 ev sg r).1, (ev sg b.2.1.1 b.2.1.2).2 :: (chq9 ev sg r).2) := (if_neg (fun u => u h0)).trans (if_neg h)
end GBB
section GBC
variable {G : mG} {d z g p O P K V F L cnt Ab Be C Ab0 Be0 C0 n N c cc u v k : Nat} {M0 M M' M1 : mM} {ns : Nat → Int} {sf ef : Nat → Nat} {F1 : Nat} {ns1 : Nat → Int} {sf1 ef1 : Nat → Nat} {W pl nq : Nat → Int} {sm : Nat → Nat → Prop} {nms : List nm9} {sgL : List Int} {brs : List br9}
/-- what weighing comes to -/
def weY (ch : (Int × Int) × List (Int × Int)) (pc : Int) (g V F : Nat) (ns W pl nq : Nat → Int) (sm : Nat → Nat → Prop) (N : Nat) (nms : List nm9) (k : Nat) (sgL : List Int) (cc nb : Nat) (r : Int) (M' : mM) : Prop := (ch.1.1 ≠ 0 ∧ r = ch.1.1 ∧ mI M' g 10 = ch.1.2) ∨ (ch.1.1 = 0 ∧ muq9 ch.2 1 = 0 ∧ r = 6 ∧ mI M' g 10 = pc) ∨ (ch.1.1 = 0 ∧ muq9 ch.2 1 ≠ 0 ∧ smq9 (muq9 ch.2 1) ch.2 ≠ muq9 ch.2 1 ∧ r = 11 ∧ mI M' g 10 = pc) ∨ (ch.1.1 = 0 ∧ muq9 ch.2 1 ≠ 0 ∧ smq9 (muq9 ch.2 1) ch.2 = muq9 ch.2 1 ∧ r = 0 ∧ mI M' (g + 6) cc = muq9 ch.2 1 ∧ lch9 M' g nb = ch.2 ∧ gst9 M' g V F ns W pl nq sm N nms k (fun v => sgL.getD v 0))
theorem we_end (hx : GX M0 z g p O P K V F1 ns1 sf1 ef1 L cnt Ab0 Be0 C0 M Ab Be C) (hw : wgF M1 g M) (hc : c < cnt) (hn : v - u ≤ 8) (hch : chz M g (v - u)) (hcc : mI M g 12 = ((cc : Nat) : Int)) (hcc2 : cc ≤ 4096) (hcc1 : mI M1 g 12 = ((cc : Nat) : Int)) (st : gst9 M g V F ns W pl nq sm N nms k (fun v => sgL.getD v 0)) {ch : (Int × Int) × List (Int × Int)} (e : ch = ((0, 0), lch9 M g (v - u))) : h_Ga_weighChances_150 G (d + 1) g c ((v - u : Nat) : Int) 1 0 M (fun r M' => weQ M0 z g p O P K V F1 ns1 sf1 ef1 L cnt Ab0 Be0 C0 M1 (v - u) cc r M' ∧ weY ch (mI M0 (p + 10) c) g V F ns W pl nq sm N nms k sgL cc (v - u) r M') := by
  have key := x_we150 (G := G) (d := d) hx hw hc hn hch hcc hcc2 hcc1 (v - u) 0 1 (by omega) (by omega) ⟨by omega, by omega⟩ rfl (fun b hb => absurd hb (by omega))
  refine mWm.mono key (fun r9 M' ⟨x, ex, q1, q2⟩ => ⟨x, ex, q1, ?_⟩)
  rw [gx_p hx 10 (by omega)] at q2
  rw [e]
  rcases q2 with ⟨a1, a2, a3⟩ | ⟨a1, a2, a3, a4⟩ | ⟨a1, a2, a3, a4, f⟩
  · exact Or.inr (Or.inl ⟨rfl, a1, a2, a3⟩)
  · exact Or.inr (Or.inr (Or.inl ⟨rfl, a1, a2, a3, a4⟩))
  · have nb : ∀ y, y ≠ g + 6 → mI M' y = mI M y := fun y hy => f.2.2.2.2.2.2 y hy
    exact Or.inr (Or.inr (Or.inr ⟨rfl, a1, a2, a3, a4, lch_cg _ (fun b _ => by rw [nb (g + 21) (by omega), nb (g + 22) (by omega)]; exact ⟨rfl, rfl⟩), st.cg (fun i _ => by rw [nb (g + 10) (by omega)]) (fun v _ => by rw [nb (g + 1) (by omega)]) (nb _ (by omega)) (nb _ (by omega)) (nb _ (by omega))⟩))
theorem x_we27 (hF : FMx G) (cx : gcx M0 g p O P L V F Ab0 Be0 ns sf ef W pl nq sm N n nms) (hc : c < cnt) (hcc2 : cc ≤ 4096) (hcc1 : mI M1 g 12 = ((cc : Nat) : Int)) (huv : u ≤ v ∧ v ≤ u + 8 ∧ v ≤ 480) (hlen : brs.length = v - u) (hbr : ∀ (b : Nat) (x : br9), brs[b]? = some x → mI M0 (p + 13) (u + b) = x.1 ∧ ∃ s : Nat, mI M0 (p + 14) (u + b) = ((s : Nat) : Int) ∧ RuC M0 O P L W pl nq sm n ns ef nms x.2.1.1 x.2.1.2 s) : ∀ (t i : Nat) (M : mM) (Ab Be C : Nat), v - u ≤ i + t → i ≤ v - u → GX M0 z g p O P K V F1 ns1 sf1 ef1 L cnt Ab0 Be0 C0 M Ab Be C → wgF M1 g M → gst9 M g V F ns W pl nq sm N nms k (fun v => sgL.getD v 0) → chz M g i → chq9 (evq W pl nq sm N nms) sgL brs = ((chq9 (evq W pl nq sm N nms) sgL (brs.drop i)).1, lch9 M g i ++ (chq9 (evq W pl nq sm N nms) sgL (brs.drop i)).2) → h_Ga_weighChances_27 G (d + 4) g c u ((v - u : Nat) : Int) i M (fun r M' => weQ M0 z g p O P K V F1 ns1 sf1 ef1 L cnt Ab0 Be0 C0 M1 (v - u) cc r M' ∧ weY (chq9 (evq W pl nq sm N nms) sgL brs) (mI M0 (p + 10) c) g V F ns W pl nq sm N nms k sgL cc (v - u) r M') := by
  intro t
  have fin : ∀ {i : Nat} {M : mM} {Ab Be C : Nat}, i = v - u → GX M0 z g p O P K V F1 ns1 sf1 ef1 L cnt Ab0 Be0 C0 M Ab Be C → wgF M1 g M → gst9 M g V F ns W pl nq sm N nms k (fun v => sgL.getD v 0) → chz M g i → chq9 (evq W pl nq sm N nms) sgL brs = ((chq9 (evq W pl nq sm N nms) sgL (brs.drop i)).1, lch9 M g i ++ (chq9 (evq W pl nq sm N nms) sgL (brs.drop i)).2) → h_Ga_weighChances_150 G (d + 4) g c ((v - u : Nat) : Int) 1 0 M (fun r M' => weQ M0 z g p O P K V F1 ns1 sf1 ef1 L cnt Ab0 Be0 C0 M1 (v - u) cc r M' ∧ weY (chq9 (evq W pl nq sm N nms) sgL brs) (mI M0 (p + 10) c) g V F ns W pl nq sm N nms k sgL cc (v - u) r M') := fun {i M Ab Be C} en hx hw st hch hcq => by
    rw [en] at hch hcq
    rw [List.drop_eq_nil_of_le (by omega)] at hcq
    exact we_end (d := d + 3) hx hw hc (by omega) hch (by rw [hw.1 12 (by decide)]; exact hcc1) hcc2 hcc1 st (by rw [hcq]; show ((0, 0), lch9 M g (v - u) ++ []) = _; rw [List.append_nil])
  induction t with
  | zero =>
    intro i M Ab Be C hi hi2 hx hw st hch hcq
    have c60 := hx.2.2.2.1.2.2.2.2.1.2
    exact k_Ga_weighChances_27 hx.1 (i32s (by omega) (by omega)) (i32s (by omega) (by omega)) (i32s (by omega) (by omega)) (i32s (by omega) (by omega)) ⟨fun _ => fin (by omega) hx hw st hch hcq, fun y => absurd y (by omega)⟩
  | succ t ih =>
    intro i M Ab Be C hi hi2 hx hw st hch hcq
    have c60 := hx.2.2.2.1.2.2.2.2.1.2
    refine k_Ga_weighChances_27 hx.1 (i32s (by omega) (by omega)) (i32s (by omega) (by omega)) (i32s (by omega) (by omega)) (i32s (by omega) (by omega)) ⟨fun y => fin (by omega) hx hw st hch hcq, fun y => ?_⟩
    have inn : i < v - u := by omega
    obtain ⟨h1, h2, h3, h4, h5, -⟩ := id hx
    obtain ⟨g0, ⟨-, -, -, -, -, -, -, -, -, g15, -, g17, g18⟩, -, -⟩ := id h2
    obtain ⟨x, hxb⟩ : ∃ x, brs[i]? = some x := ⟨brs[i], List.getElem?_eq_getElem (by omega)⟩
    have hdr : brs.drop i = x :: brs.drop (i + 1) := by
      rw [List.drop_eq_getElem_cons (by omega)]
      rw [List.getElem?_eq_getElem (by omega)] at hxb
      rw [Option.some.inj hxb]
    obtain ⟨hpl, s1, b1, ru⟩ := hbr i x hxb
    obtain ⟨r9, l9, ec9, e9, u1, u2, u3, u4, -⟩ := id ru
    have gd : vgd (kdq W (E9 sm r9 0) 0 x.2.1.1 x.2.1.2) (evq W pl nq sm N nms sgL x.2.1.1 x.2.1.2) := vls_ok cx.2.1 cx.2.2.1 st.2.2.1 u1 u2 u3 u4
    rw [hdr] at hcq
    have p18 := h4.1.2.2.2.2.2.2.1.2.2.2.2.2.2.2.2.2.2.2.1
    have kp18 := h4.1.2.2.2.2.2.2.2.1.2.2.2.2.2.2.2.2.2.2.2.1
    have np18 := h4.1.2.2.2.2.2.2.2.2.2.2.2.2.2.2.2.2.2.2.2.1
    rw [h5.1, p18, np18, g15, show Int.toNat ((u : Int) + (i : Int)) = u + i by first | rfl | omega, gx_p hx 14 (by omega), b1]
    refine ⟨g0, h4.1.1, kp18, by omega, h3.1, (x_Ga_run hF hx cx st ru).mono (fun x14 M13 kk => ?_)⟩
    obtain ⟨⟨i14, o13, hx14, Ab', Be', C', hx13, f13, s13, -⟩, rx, st13⟩ := kk
    have rx : rnx (g + 10) (evq W pl nq sm N nms sgL x.2.1.1 x.2.1.2) x14 M13 := rx
    have w13 := hw.trans (ga_wg hx f13 s13)
    obtain ⟨ce1, ce2⟩ := ga_ce hx f13
    obtain ⟨-, k2, k3, k4, k5, -⟩ := id hx13
    obtain ⟨j0, ⟨-, -, -, -, -, -, -, -, -, j15, -, j17, j18⟩, ⟨-, -, -, -, -, -, -, -, -, -, jk21, jk22⟩, ⟨-, -, -, -, -, -, -, -, -, -, jn21, jn22⟩⟩ := id k2
    have mA := k3.2.1.2.2.1
    have mB := k3.2.1.2.2.2.1
    have kA := k3.2.2.1.2.2.1
    have kB := k3.2.2.1.2.2.2.1
    have nA := k3.2.2.2.1.2.1
    have nB := k3.2.2.2.1.2.2.1
    have c64 := k3.2.2.2.2.2.2.2.1
    obtain ⟨sA, sB, sne, sz⟩ := k3.2.2.2.2.2.1
    have h61 := hx13.2.2.2.2.2.1.1
    refine ⟨i14, o13, fun y14 => ⟨j0, (x_Ga_machineFault o13 j0 j15 k3.1).mono (fun r M' q => ?_)⟩, fun y14 => ?_⟩
    · obtain ⟨-, rx1, rx2, rx3⟩ := rx.resolve_right (fun u => by have := u.1; omega)
      obtain ⟨q1, q2, q3, q4⟩ := q
      refine ⟨q1, q3.1, pl_we hx13 w13 q3 q1 (by rw [q2, rx2]; exact rx1), Or.inl ?_⟩
      rw [hcq, chq_f rx1]
      exact ⟨rx1, by rw [q2, rx2], by rw [q4, rx3]⟩
    · obtain ⟨-, rx1, rx2, rx3⟩ := rx.resolve_left (fun u => y14 u.1)
      obtain ⟨-, gd1, gd2, gd3, -⟩ := gd.resolve_right (fun u => by omega)
      rw [mA] at rx2
      rw [mB] at rx3
      have p17 := k4.1.2.2.2.2.2.2.1.2.2.2.2.2.2.2.2.2.2.1
      have kp17 := k4.1.2.2.2.2.2.2.2.1.2.2.2.2.2.2.2.2.2.2.1
      have np17 := k4.1.2.2.2.2.2.2.2.2.2.2.2.2.2.2.2.2.2.2.1
      have B21 : Be' ≠ g + 21 ∧ Be' ≠ g + 22 := by
        clear hx hx13 k2 k3 k4 h2 h3 h4 ih hch f13 w13 hw ce1 ce2 hcq hbr gd1 gd2 gd3 rx1 rx2 rx3 rx gd fin ru cx st st13 hxb hdr u1 u2 u3 u4
        omega
      rw [j15, mA, j17, nA, jn21, Int.toNat_natCast]
      refine ⟨j0, k3.1, kA, ⟨by omega, by omega⟩, jk21, by omega, fun M28 e28 => ?_⟩
      have f28 : FI (fun x => x = g + 21) M13 M28 := by rw [e28]; exact FI.ui rfl
      have iB : mI M28 Be' 0 = mI M13 Be' 0 := by rw [f28.2.2.2.2.2.2 Be' B21.1]
      rw [f28.1, f28.2.1, f28.2.2.1, j15, mB, j18, nB, jn22, iB]
      refine ⟨k3.1, kB, ⟨by omega, by omega⟩, jk22, by omega, fun M35 e35 => ?_⟩
      have f35 : FI (fun x => x = g + 22) M28 M35 := by rw [e35]; exact FI.ui rfl
      have ff : FI (fun x => x = g + 21 ∨ x = g + 22) M13 M35 := (f28.mono (fun _ y => Or.inl y)).trans (f35.mono (fun _ y => Or.inr y))
      have o35 : mOk M35 := by rw [e35]; exact mOk_UI (by rw [e28]; exact mOk_UI o13 (o13 _ _).1) (o13 _ _).1
      have nb : ∀ x, x ≠ g + 21 → x ≠ g + 22 → mI M35 x = mI M13 x := fun x a b => ff.2.2.2.2.2.2 x (fun y => y.elim a b)
      have e21 : ∀ j, mI M35 (g + 21) j = if j = i then mI M13 Ab' 0 else mI M13 (g + 21) j := fun j => by
        rw [f35.2.2.2.2.2.2 _ (show ¬ g + 21 = g + 22 by first | rfl | omega), mI_ui _ j e28]
        by_cases yj : j = i
        · rw [if_pos ⟨rfl, yj⟩, if_pos yj]
        · rw [if_neg (fun t => yj t.2), if_neg yj]
      have e22 : ∀ j, mI M35 (g + 22) j = if j = i then mI M13 Be' 0 else mI M13 (g + 22) j := fun j => by
        rw [mI_ui _ j e35]
        by_cases yj : j = i
        · rw [if_pos ⟨rfl, yj⟩, if_pos yj]
        · rw [if_neg (fun t => yj t.2), if_neg yj, f28.2.2.2.2.2.2 _ (show ¬ g + 22 = g + 21 by first | rfl | omega)]
      have x35 := hx13.fi o35 (ff.mono (fun x y => Or.inr (Or.inr (by have y' : x = g + 21 ∨ x = g + 22 := y; omega))))
      have w35 : wgF M1 g M35 := w13.trans ⟨fun j _ => by rw [nb g (by omega) (by omega)], fun j j1 j9 _ => nb _ (by omega) (by omega), nb _ (by omega) (by omega), fun j _ => by rw [nb _ (by omega) (by omega)], by rw [nb _ (by omega) (by omega)]⟩
      have st35 : gst9 M35 g V F ns W pl nq sm N nms k (fun v => sgL.getD v 0) := st13.cg (fun i _ => by rw [nb _ (by omega) (by omega)]) (fun v _ => by rw [nb _ (by omega) (by omega)]) (nb _ (by omega) (by omega)) (nb _ (by omega) (by omega)) (nb _ (by omega) (by omega))
      have v21 : mI M35 (g + 21) i = (evq W pl nq sm N nms sgL x.2.1.1 x.2.1.2).2.1 := by rw [e21, if_pos rfl]; exact rx2
      have v22 : mI M35 (g + 22) i = (evq W pl nq sm N nms sgL x.2.1.1 x.2.1.2).2.2 := by rw [e22, if_pos rfl]; exact rx3
      rw [ff.1, ff.2.1, ff.2.2.1, j17, j18, jn21, jn22, k5.1, p17, np17]
      refine ⟨jk21, by omega, fun _ => ⟨by omega, jk22, by omega⟩, fun y => ⟨k4.1.1, kp17, by omega, ?_⟩, fun y => ?_⟩
      · refine (x_Ga_fault ⟨by decide, by decide⟩ (o35 _ _).1 o35 (by rw [ff.1]; exact j0)).mono (fun r M' q => ?_)
        rw [q.1]
        refine ⟨⟨by decide, by decide⟩, q.2.1.1, pl_we x35 w35 q.2.1 ⟨by decide, by decide⟩ (by decide), Or.inl ?_⟩
        rw [v21, v22] at y
        rw [hcq, chq_r rx1 (y.imp id (fun u => by omega))]
        refine ⟨by show (11 : Int) ≠ 0; decide, rfl, ?_⟩
        rw [q.2.2, gx_p x35 13 (by omega)]
        exact hpl
      · have y := y
        have yy : 0 ≤ mI M35 (g + 21) i ∧ mI M35 (g + 21) i ≤ mI M35 (g + 22) i := by
          by_cases y1 : mI M35 (g + 21) i < 0
          · exact absurd (Or.inl y1) y
          · by_cases y2 : mI M35 (g + 21) i ≤ mI M35 (g + 22) i
            · exact ⟨by omega, y2⟩
            · exact absurd (Or.inr y2) y
        have le : lch9 M35 g (i + 1) = lch9 M g i ++ [(evq W pl nq sm N nms sgL x.2.1.1 x.2.1.2).2] := by
          show lch9 M35 g i ++ [(mI M35 (g + 21) i, mI M35 (g + 22) i)] = _
          rw [v21, v22, lch_cg (M := M) (M' := M35) i (fun b hb => by rw [e21, e22, if_neg (by omega), if_neg (by omega), ce1 21 (by omega), ce1 22 (by omega)]; exact ⟨rfl, rfl⟩)]
        rw [v21, v22] at yy
        rw [show ((i : Int) + 1) = ((i + 1 : Nat) : Int) by first | rfl | omega]
        refine ih (i + 1) M35 Ab' Be' C' (by omega) (by omega) x35 w35 st35 (fun b hb => ?_) ?_
        · by_cases yb : b = i
          · subst yb
            rw [v21, v22]
            exact ⟨yy.1, yy.2, gd2.1, by omega⟩
          · rw [e21, e22, if_neg yb, if_neg yb, ce1 21 (by omega), ce1 22 (by omega)]
            exact hch b (by omega)
        · rw [hcq, chq_s rx1 (fun u => by omega), le]
          show (_, _ ++ _ :: _) = (_, _)
          rw [List.append_assoc]
          rfl
theorem x_Ga_weighChances (hF : FMx G) (cx : gcx M0 g p O P L V F Ab0 Be0 ns sf ef W pl nq sm N n nms) (hx : GX M0 z g p O P K V F1 ns1 sf1 ef1 L cnt Ab0 Be0 C0 M Ab Be C) (st : gst9 M g V F ns W pl nq sm N nms k (fun v => sgL.getD v 0)) (hc : c < cnt) (hcc2 : cc ≤ 4096) (hcc : mI M g 12 = ((cc : Nat) : Int)) (hu : mI M0 (p + 12) c = ((u : Nat) : Int)) (hv : mI M0 (p + 12) (c + 1) = ((v : Nat) : Int)) (huv : u ≤ v ∧ v ≤ u + 8 ∧ v ≤ 480) (hlen : brs.length = v - u) (hbr : ∀ (b : Nat) (x : br9), brs[b]? = some x → mI M0 (p + 13) (u + b) = x.1 ∧ ∃ s : Nat, mI M0 (p + 14) (u + b) = ((s : Nat) : Int) ∧ RuC M0 O P L W pl nq sm n ns ef nms x.2.1.1 x.2.1.2 s) : Ci G y_Ga_weighChances (d + 5) [vr g, vi c] M (fun r M' => weQ M0 z g p O P K V F1 ns1 sf1 ef1 L cnt Ab0 Be0 C0 M (v - u) cc r M' ∧ weY (chq9 (evq W pl nq sm N nms) sgL brs) (mI M0 (p + 10) c) g V F ns W pl nq sm N nms k sgL cc (v - u) r M') := by
  obtain ⟨h1, h2, h3, h4, h5, -⟩ := id hx
  have c60 := h4.2.2.2.2.1.2
  have p16 := h4.1.2.2.2.2.2.2.1.2.2.2.2.2.2.2.2.2.1
  have kp16 := h4.1.2.2.2.2.2.2.2.1.2.2.2.2.2.2.2.2.2.1
  have np16 := h4.1.2.2.2.2.2.2.2.2.2.2.2.2.2.2.2.2.2.1
  refine k_Ga_weighChances h1 (i32s (by omega) (by omega)) ?_
  rw [h5.1, p16, np16, Int.toNat_natCast, show Int.toNat ((c : Int) + 1) = c + 1 by first | rfl | omega, gx_p hx 12 (by omega), hu, hv, show ((v : Nat) : Int) - ((u : Nat) : Int) = ((v - u : Nat) : Int) by first | rfl | omega]
  exact ⟨h2.1, h4.1.1, kp16, by omega, by omega, x_we27 hF cx hc hcc2 hcc huv hlen hbr (v - u) 0 M Ab Be C (by omega) (by omega) hx wgF.refl st (fun b hb => absurd hb (by omega)) rfl⟩
end GBC
end
section
/-! The class's game, exactly: states and branches as lists; a branch is put to its command. -/
section GBD
variable {M M' : mM} {g V cn k a m : Nat}
/-- state k -/
def lsm (M : mM) (g V k : Nat) : List Int := (List.range V).map (fun v => mI M (g + 1) (12 * k + v))
/-- all states -/
def Sm9 (M : mM) (g V cn : Nat) : List (List Int) := (List.range cn).map (lsm M g V)
/-- the next state -/
def nxm (M : mM) (g V : Nat) : List Int := (List.range V).map (fun v => mI M (g + 10 + 2) v)
/-- m branches from a on -/
def brl (M : mM) (g a : Nat) : Nat → List (Nat × Int)
  | 0 => []
  | m + 1 => brl M g a m ++ [((mI M (g + 8) (a + m)).toNat, mI M (g + 9) (a + m))]
theorem lsm_nx : lsm M g V k = nxm M g V ↔ mtk M g V k := by
  unfold lsm nxm mtk
  rw [List.map_inj_left]
  exact ⟨fun h v hv => h v (List.mem_range.mpr hv), fun h v hv => h v (List.mem_range.mp hv)⟩
theorem lsm_cg (h : ∀ v, v < V → mI M' (g + 1) (12 * k + v) = mI M (g + 1) (12 * k + v)) : lsm M' g V k = lsm M g V k := by
  unfold lsm
  exact List.map_congr_left (fun v hv => h v (List.mem_range.mp hv))
theorem Sm9_cg (hV : V ≤ 12) (h : ∀ j, j < 12 * cn → mI M' (g + 1) j = mI M (g + 1) j) : Sm9 M' g V cn = Sm9 M g V cn := by
  unfold Sm9
  exact List.map_congr_left (fun k hk => lsm_cg (fun v hv => h _ (by have := List.mem_range.mp hk; omega)))
theorem Sm9_len : (Sm9 M g V cn).length = cn := by
  unfold Sm9
  rw [List.length_map, List.length_range]
theorem Sm9_get (h : k < cn) : (Sm9 M g V cn)[k]? = some (lsm M g V k) := by
  unfold Sm9
  rw [List.getElem?_map, List.getElem?_range h]
  rfl
theorem Sm9_s (h1 : ∀ v, v < 12 → mI M' (g + 1) (12 * cn + v) = mI M (g + 10 + 2) v) (hV : V ≤ 12) (h2 : ∀ j, j < 12 * cn → mI M' (g + 1) j = mI M (g + 1) j) : Sm9 M' g V (cn + 1) = Sm9 M g V cn ++ [nxm M g V] := by
  have e : Sm9 M' g V (cn + 1) = Sm9 M' g V cn ++ [lsm M' g V cn] := by
    unfold Sm9
    rw [List.range_succ, List.map_append]
    rfl
  rw [e, Sm9_cg hV h2]
  congr 2
  unfold lsm nxm
  exact List.map_congr_left (fun v hv => h1 v (by have := List.mem_range.mp hv; omega))
theorem enq_k (sm : SLm M g V cn) (hk : k < cn) (mt : mtk M g V k) : enq9 (Sm9 M g V cn) (nxm M g V) = some (k, Sm9 M g V cn) := by
  have f : (Sm9 M g V cn).findIdx? (fun y => y == nxm M g V) = some k := by
    rw [List.findIdx?_eq_some_iff_getElem]
    have gt : ∀ (j : Nat) (h : j < (Sm9 M g V cn).length), (Sm9 M g V cn)[j] = lsm M g V j := fun j h => by
      have := Sm9_get (M := M) (g := g) (V := V) (k := j) (cn := cn) (by rw [Sm9_len] at h; exact h)
      rw [List.getElem?_eq_getElem h] at this
      exact Option.some.inj this
    refine ⟨by rw [Sm9_len]; exact hk, ?_, fun j hj => ?_⟩
    · rw [gt k]
      exact beq_iff_eq.mpr (lsm_nx.mpr mt)
    · rw [gt j]
      intro u
      have mj := lsm_nx.mp (beq_iff_eq.mp u)
      have := sm.2 j k (by omega) hk (fun v hv => by rw [mj v hv, mt v hv])
      omega
  unfold enq9
  rw [f]
theorem enqN9 (h : ∀ k, k < cn → ¬ mtk M g V k) : enq9 (Sm9 M g V cn) (nxm M g V) = if cn = 512 then none else some (cn, Sm9 M g V cn ++ [nxm M g V]) := by
  have f : (Sm9 M g V cn).findIdx? (fun y => y == nxm M g V) = none := by
    rw [List.findIdx?_eq_none_iff]
    intro y hy
    unfold Sm9 at hy
    obtain ⟨k, hk, e⟩ := List.mem_map.mp hy
    rw [← e]
    exact beq_eq_false_iff_ne.mpr (fun u => h k (List.mem_range.mp hk) (lsm_nx.mp u))
  unfold enq9
  rw [f]
  show (if (Sm9 M g V cn).length = 512 then none else some ((Sm9 M g V cn).length, Sm9 M g V cn ++ [nxm M g V])) = _
  rw [Sm9_len]
theorem jnq_n {to : Nat} {wt : Int} : ∀ l : List (Nat × Int), (∀ x, x ∈ l → x.1 ≠ to) → jnq9 to wt l = none
  | [], _ => rfl
  | x :: l, h => by
    show (if x.1 = to then some ((x.1, x.2 + wt) :: l) else (jnq9 to wt l).map (fun l => x :: l)) = none
    rw [if_neg (h x List.mem_cons_self), jnq_n l (fun y hy => h y (List.mem_cons_of_mem _ hy))]
    rfl
theorem jnq_s {to : Nat} {wt : Int} {y : Nat × Int} {l2 : List (Nat × Int)} (hy : y.1 = to) : ∀ l : List (Nat × Int), (∀ x, x ∈ l → x.1 ≠ to) → jnq9 to wt (l ++ y :: l2) = some (l ++ (y.1, y.2 + wt) :: l2)
  | [], _ => by
    show (if y.1 = to then some ((y.1, y.2 + wt) :: l2) else (jnq9 to wt l2).map (fun l => y :: l)) = _
    rw [if_pos hy]
    rfl
  | x :: l, h => by
    show (if x.1 = to then some ((x.1, x.2 + wt) :: (l ++ y :: l2)) else (jnq9 to wt (l ++ y :: l2)).map (fun l => x :: l)) = _
    rw [if_neg (h x List.mem_cons_self), jnq_s hy l (fun z hz => h z (List.mem_cons_of_mem _ hz))]
    rfl
theorem brl_cg : ∀ m, (∀ i, a ≤ i → i < a + m → mI M' (g + 8) i = mI M (g + 8) i ∧ mI M' (g + 9) i = mI M (g + 9) i) → brl M' g a m = brl M g a m
  | 0, _ => rfl
  | m + 1, h => by
    show brl M' g a m ++ [((mI M' (g + 8) (a + m)).toNat, mI M' (g + 9) (a + m))] = brl M g a m ++ [((mI M (g + 8) (a + m)).toNat, mI M (g + 9) (a + m))]
    rw [brl_cg m (fun i h1 h2 => h i h1 (by omega)), (h (a + m) (by omega) (by omega)).1, (h (a + m) (by omega) (by omega)).2]
theorem brl_len : ∀ m, (brl M g a m).length = m
  | 0 => rfl
  | m + 1 => by
    show (brl M g a m ++ [_]).length = m + 1
    rw [List.length_append, brl_len m]
    rfl
theorem brl_mem {x : Nat × Int} : ∀ m, x ∈ brl M g a m → ∃ i, a ≤ i ∧ i < a + m ∧ x = ((mI M (g + 8) i).toNat, mI M (g + 9) i)
  | 0, h => absurd h (by simp [brl])
  | m + 1, h => by
    rcases List.mem_append.mp h with h | h
    · obtain ⟨i, h1, h2, h3⟩ := brl_mem m h
      exact ⟨i, h1, by omega, h3⟩
    · exact ⟨a + m, by omega, by omega, List.mem_singleton.mp h⟩
theorem brl_sp {i : Nat} : ∀ m, brl M g a (i + 1 + m) = brl M g a i ++ ((mI M (g + 8) (a + i)).toNat, mI M (g + 9) (a + i)) :: brl M g (a + i + 1) m
  | 0 => rfl
  | m + 1 => by
    show brl M g a (i + 1 + m) ++ [((mI M (g + 8) (a + (i + 1 + m))).toNat, mI M (g + 9) (a + (i + 1 + m)))] = _
    rw [brl_sp m, show a + (i + 1 + m) = a + i + 1 + m by first | rfl | omega]
    show _ = brl M g a i ++ _ :: (brl M g (a + i + 1) m ++ [_])
    rw [List.append_assoc]
    rfl
end GBD
/-- all states are sound -/
def SoO (nms : List nm9) (S : List (List Int)) : Prop := ∀ s, s ∈ S → SgO (fun v => s.getD v 0) nms
/-- the states in memory are S -/
def gxe (M : mM) (g V cn : Nat) (S : List (List Int)) : Prop := mI M g 0 = ((cn : Nat) : Int) ∧ SLm M g V cn ∧ Sm9 M g V cn = S
section GBE
variable {G : mG} {d z g p O P K V F L cnt Ab Be C Ab0 Be0 C0 n N c cc u v k cn bc bc0 : Nat} {M0 M M' M1 : mM} {ns : Nat → Int} {sf ef : Nat → Nat} {F1 : Nat} {ns1 : Nat → Int} {sf1 ef1 : Nat → Nat} {W pl nq : Nat → Int} {sm : Nat → Nat → Prop} {nms : List nm9} {sgL : List Int} {sum9 : Int}
theorem gxe.cg {S : List (List Int)} (h : gxe M g V cn S) (hV : V ≤ 12) (e0 : mI M' g 0 = mI M g 0) (e1 : mI M' (g + 1) = mI M (g + 1)) (e20 : mI M' (g + 20) = mI M (g + 20)) : gxe M' g V cn S := by
  obtain ⟨h1, h2, h3⟩ := h
  refine ⟨by rw [e0]; exact h1, ?_, by rw [Sm9_cg (M := M) (M' := M') hV (fun j _ => by rw [e1])]; exact h3⟩
  unfold SLm at h2 ⊢
  rw [e1, e20]
  exact h2
/-- what following a branch comes to; fq what the pure following is: of the rest, the states and the branches -/
def foX (fq : List (br9 × (Int × Int)) → List (List Int) → List (Nat × Int) → (Int × Int) × List (List Int) × List (Nat × Int)) (x : br9 × (Int × Int)) (S : List (List Int)) (B : List (Nat × Int)) (g V F : Nat) (ns W pl nq : Nat → Int) (sm : Nat → Nat → Prop) (N : Nat) (nms : List nm9) (k : Nat) (sgL : List Int) (bc0 : Nat) (r : Int) (M' : mM) : Prop := (r ≠ 0 ∧ ∀ rest, (fq (x :: rest) S B).1 = (r, mI M' g 10)) ∨ (r = 0 ∧ ∃ (S' : List (List Int)) (B' : List (Nat × Int)) (cn' bc' : Nat), (∀ rest, fq (x :: rest) S B = fq rest S' B') ∧ SoO nms S' ∧ gxe M' g V cn' S' ∧ mI M' g 13 = ((bc' : Nat) : Int) ∧ brl M' g bc0 (bc' - bc0) = B' ∧ gst9 M' g V F ns W pl nq sm N nms k (fun v => sgL.getD v 0))
theorem x_fo69 {sh to : Int} {tn : Nat} {fq : List (br9 × (Int × Int)) → List (List Int) → List (Nat × Int) → (Int × Int) × List (List Int) × List (Nat × Int)} {x : br9 × (Int × Int)} {S S2 : List (List Int)} {B : List (Nat × Int)} (cx : gcx M0 g p O P L V F Ab0 Be0 ns sf ef W pl nq sm N n nms) (st : gst9 M g V F ns W pl nq sm N nms k (fun v => sgL.getD v 0)) (so : SoO nms S2) (ge : gxe M g V cn S2) (hB : B = brl M g bc0 (bc - bc0)) (etn : to = ((tn : Nat) : Int)) (hfq : ∀ rest, fq (x :: rest) S B = match jnq9 tn sh B with | some B' => fq rest S2 B' | none => if bc0 + B.length = 4096 then ((5, mI M0 (p + 10) c), S2, B) else fq rest S2 (B ++ [(tn, sh)])) (hb1 : mI M1 g 13 = ((bc : Nat) : Int)) (hx : GX M0 z g p O P K V F1 ns1 sf1 ef1 L cnt Ab0 Be0 C0 M Ab Be C) (hf : flF M1 g p bc0 M) (hc : c < cnt) (hcn5 : cn ≤ 512) (hbc : mI M g 13 = ((bc : Nat) : Int)) (hip : ipG M g cn bc0 bc sum9) (hsh : 1 ≤ sh) (hsm : sum9 + sh < 1000000000) (hto : 0 ≤ to ∧ to < cn) (hcc : v ≤ cn) : ∀ (t i : Nat), bc ≤ i + t → bc0 ≤ i → i ≤ bc → (∀ j, bc0 ≤ j → j < i → mI M (g + 8) j ≠ to) → h_Ga_follow_69 G d g c sh to i M (fun r M' => foQ M0 z g p O P K V F1 ns1 sf1 ef1 L cnt Ab0 Be0 C0 M1 bc0 v (sum9 + sh) r M' ∧ foX fq x S B g V F ns W pl nq sm N nms k sgL bc0 r M') := by
  have hcn := ge.1
  have hsl : SLt M g cn := fun i hi => (ge.2.1.1.1 i hi).imp id (fun ⟨k, k1, k2⟩ => ⟨by omega, by omega⟩)
  obtain ⟨h1, h2, h3, h4, h5, -⟩ := id hx
  obtain ⟨g0, ⟨-, -, -, -, -, -, -, g8, g9, -⟩, ⟨-, -, -, -, -, -, -, k8, k9, -⟩, ⟨-, -, -, -, -, -, -, n8, n9, -⟩⟩ := h2
  have p14 := h4.1.2.2.2.2.2.2.1.2.2.2.2.2.2.2.1
  have kp14 := h4.1.2.2.2.2.2.2.2.1.2.2.2.2.2.2.2.1
  have np14 := h4.1.2.2.2.2.2.2.2.2.2.2.2.2.2.2.2.1
  have c60 := h4.2.2.2.2.1.2
  have V12 := h4.2.2.1.2
  have ep := gx_p hx
  obtain ⟨ip1, ip2, ip3, ip4⟩ := hip
  have off := ga_off hx
  have wpos : ∀ i, bc0 ≤ i → i < bc0 + (bc - bc0) → 1 ≤ mI M (g + 9) i := fun i a b => (ip3 i a (by omega)).2.2
  have smb := wsm_ge wpos (bc - bc0) (Nat.le_refl _)
  rw [ip4] at smb
  have lB : B.length = bc - bc0 := by rw [hB, brl_len]
  have jn : (∀ j, bc0 ≤ j → j < bc → mI M (g + 8) j ≠ to) → jnq9 tn sh B = none := fun hh => jnq_n B (fun y hy => by
    rw [hB] at hy
    obtain ⟨i, i1, i2, i3⟩ := brl_mem _ hy
    rw [i3]
    have a := hh i i1 (by omega)
    have b := (ip3 i i1 (by omega)).1
    show (mI M (g + 8) i).toNat ≠ tn
    omega)
  -- no branch has that goal yet
  have new : (∀ j, bc0 ≤ j → j < bc → mI M (g + 8) j ≠ to) → mK M g = 7 ∧ (((mI M g 13 = 4096) → (mK M (mR M g 14) = 6 ∧ mK M (mR M (mR M g 14) 14) = 30 ∧ ((0 : Int) ≤ c ∧ (c : Int) < (mN M (mR M (mR M g 14) 14) : Int)) ∧ Ci G y_Ga_fault d [vr g, vi 5, vi (mI M (mR M (mR M g 14) 14) (Int.toNat c))] M (fun x62 M61 => i32 x62 ∧ mOk M61 ∧ (foQ M0 z g p O P K V F1 ns1 sf1 ef1 L cnt Ab0 Be0 C0 M1 bc0 v (sum9 + sh) x62 M61 ∧ foX fq x S B g V F ns W pl nq sm N nms k sgL bc0 x62 M61)))) ∧ (¬ (mI M g 13 = 4096) → (mK M (mR M g 8) = 30 ∧ ((0 : Int) ≤ mI M g 13 ∧ mI M g 13 < (mN M (mR M g 8) : Int)) ∧ ∀ M66, M66 = mUI M (mR M g 8) (Int.toNat (mI M g 13)) to → mK M66 (mR M66 g 9) = 30 ∧ ((0 : Int) ≤ mI M66 g 13 ∧ mI M66 g 13 < (mN M66 (mR M66 g 9) : Int)) ∧ ∀ M70, M70 = mUI M66 (mR M66 g 9) (Int.toNat (mI M66 g 13)) sh → i32 ((mI M70 g 13) + 1) ∧ ∀ M73, M73 = mUI M70 g 13 ((mI M70 g 13) + 1) → foQ M0 z g p O P K V F1 ns1 sf1 ef1 L cnt Ab0 Be0 C0 M1 bc0 v (sum9 + sh) 0 M73 ∧ foX fq x S B g V F ns W pl nq sm N nms k sgL bc0 0 M73))) := fun hno => by
    have jn0 := jn hno
    refine ⟨g0, fun y => ?_, fun y => ?_⟩
    · rw [h5.1, p14, np14, Int.toNat_natCast]
      refine ⟨h4.1.1, kp14, by omega, (x_Ga_fault ⟨by decide, by decide⟩ (h1 _ _).1 h1 g0).mono (fun r M' q => ?_)⟩
      obtain ⟨e, ⟨q1, q2, q3⟩, q4⟩ := q
      rw [e]
      have nb : ∀ x, x ≠ g → mI M' x = mI M x := fun x hx => q2.2.2.2.2.2.2 x hx
      refine ⟨⟨by decide, by decide⟩, q1, ⟨⟨by decide, by decide⟩, hf.trans ⟨fun i _ i10 _ => q3 i i10, fun i i2 _ => nb _ (by omega), ⟨nb _ (by omega), nb _ (by omega)⟩, by rw [nb _ (by omega)], fun i hi => nb _ (by have := off i 0 hi (by omega); omega), fun i _ => ⟨by rw [nb _ (by omega)], by rw [nb _ (by omega)]⟩⟩, ⟨Ab, Be, C, hx.fi q1 (q2.mono (fun x y => Or.inl (by have y' : x = g := y; omega)))⟩, cn, bc, ⟨by rw [q3 0 (by decide)]; exact hcn, hcc, hcn5, fun i hi => by rw [nb _ (by omega)]; exact hsl i hi⟩, by rw [q3 13 (by decide)]; exact hbc, ip1, ⟨ip2, by omega⟩, fun u => absurd u (by decide)⟩, Or.inl ⟨by decide, fun rest => ?_⟩⟩
      rw [hfq rest, jn0]
      show (if bc0 + B.length = 4096 then ((5, mI M0 (p + 10) c), S2, B) else fq rest S2 (B ++ [(tn, sh)])).1 = _
      rw [if_pos (by rw [lB]; omega), q4, ep 10 (by omega)]
    · rw [g8, n8, hbc, Int.toNat_natCast]
      refine ⟨k8, by omega, fun M66 e66 => ?_⟩
      have f66 : FI (fun x => x = g + 8) M M66 := by rw [e66]; exact FI.ui rfl
      rw [f66.1, f66.2.1, f66.2.2.1, g9, n9, f66.2.2.2.2.2.2 g (show ¬ g = g + 8 by first | rfl | omega), hbc, Int.toNat_natCast]
      refine ⟨k9, by omega, fun M70 e70 => ?_⟩
      have f70 : FI (fun x => x = g + 9) M66 M70 := by rw [e70]; exact FI.ui rfl
      rw [f70.2.2.2.2.2.2 g (show ¬ g = g + 9 by first | rfl | omega), f66.2.2.2.2.2.2 g (show ¬ g = g + 8 by first | rfl | omega), hbc]
      refine ⟨⟨by omega, by omega⟩, fun M73 e73 => ?_⟩
      have f73 : FI (fun x => x = g) M70 M73 := by rw [e73]; exact FI.ui rfl
      have ff : FI (fun x => x = g ∨ x = g + 8 ∨ x = g + 9) M M73 := ((f66.mono (fun _ y => Or.inr (Or.inl y))).trans (f70.mono (fun _ y => Or.inr (Or.inr y)))).trans (f73.mono (fun _ y => Or.inl y))
      have o73 : mOk M73 := by rw [e73]; exact mOk_UI (by rw [e70]; exact mOk_UI (by rw [e66]; exact mOk_UI h1 ⟨by omega, by omega⟩) ⟨by omega, by omega⟩) ⟨by omega, by omega⟩
      have nb : ∀ x, x ≠ g → x ≠ g + 8 → x ≠ g + 9 → mI M73 x = mI M x := fun x a b c => ff.2.2.2.2.2.2 x (fun y => y.elim a (fun y => y.elim b c))
      have i73 : ∀ i, mI M73 g i = if i = 13 then (bc : Int) + 1 else mI M g i := fun i => by
        rw [mI_ui g i e73]
        by_cases y : i = 13
        · rw [if_pos ⟨rfl, y⟩, if_pos y]
        · rw [if_neg (fun t => y t.2), if_neg y, f70.2.2.2.2.2.2 g (show ¬ g = g + 9 by first | rfl | omega), f66.2.2.2.2.2.2 g (show ¬ g = g + 8 by first | rfl | omega)]
      have w73 : ∀ i, mI M73 (g + 9) i = if i = bc then sh else mI M (g + 9) i := fun i => by
        rw [f73.2.2.2.2.2.2 _ (show ¬ g + 9 = g by first | rfl | omega), mI_ui _ i e70]
        by_cases y : i = bc
        · rw [if_pos ⟨rfl, y⟩, if_pos y]
        · rw [if_neg (fun t => y t.2), if_neg y, f66.2.2.2.2.2.2 _ (show ¬ g + 9 = g + 8 by first | rfl | omega)]
      have v73 : ∀ i, mI M73 (g + 8) i = if i = bc then to else mI M (g + 8) i := fun i => by
        rw [f73.2.2.2.2.2.2 _ (show ¬ g + 8 = g by first | rfl | omega), f70.2.2.2.2.2.2 _ (show ¬ g + 8 = g + 9 by first | rfl | omega), mI_ui _ i e66]
        by_cases y : i = bc
        · rw [if_pos ⟨rfl, y⟩, if_pos y]
        · rw [if_neg (fun t => y t.2), if_neg y]
      have i13 : mI M73 g 13 = ((bc + 1 : Nat) : Int) := by rw [i73, if_pos rfl]; omega
      refine ⟨⟨⟨by decide, by decide⟩, hf.trans ⟨fun i _ _ i13 => by rw [i73, if_neg i13], fun i i2 i7 => nb _ (by omega) (by omega) (by omega), ⟨nb _ (by omega) (by omega) (by omega), nb _ (by omega) (by omega) (by omega)⟩, by rw [nb _ (by omega) (by omega) (by omega)], fun i hi => nb _ (off i 0 hi (by omega)) (off i 8 hi (by omega)) (off i 9 hi (by omega)), fun i hi => ⟨by rw [v73, if_neg (by omega)], by rw [w73, if_neg (by omega)]⟩⟩, ⟨Ab, Be, C, hx.fi o73 (ff.mono (fun x y => Or.inl (by have y' : x = g ∨ x = g + 8 ∨ x = g + 9 := y; omega)))⟩, cn, bc + 1, ⟨by rw [i73, if_neg (by decide)]; exact hcn, hcc, hcn5, fun i hi => by rw [nb _ (by omega) (by omega) (by omega)]; exact hsl i hi⟩, i13, by omega, ⟨by omega, by omega⟩, fun _ => ⟨by omega, by omega, fun i a b => ?_, ?_⟩⟩, Or.inr ⟨rfl, S2, B ++ [(tn, sh)], cn, bc + 1, fun rest => ?_, so, ge.cg V12 (by rw [i73, if_neg (by decide)]) (nb _ (by omega) (by omega) (by omega)) (nb _ (by omega) (by omega) (by omega)), i13, ?_, st.cg (fun i _ => by rw [nb _ (by omega) (by omega) (by omega)]) (fun v _ => by rw [nb _ (by omega) (by omega) (by omega)]) (nb _ (by omega) (by omega) (by omega)) (nb _ (by omega) (by omega) (by omega)) (nb _ (by omega) (by omega) (by omega))⟩⟩
      · rw [v73, w73]
        by_cases y : i = bc
        · rw [if_pos y, if_pos y]
          exact ⟨hto.1, hto.2, hsh⟩
        · rw [if_neg y, if_neg y]
          exact ip3 i a (by omega)
      · rw [show bc + 1 - bc0 = (bc - bc0) + 1 by first | rfl | omega]
        show wsm M73 g bc0 (bc - bc0) + mI M73 (g + 9) (bc0 + (bc - bc0)) = sum9 + sh
        rw [wsm_cg (M := M) (bc - bc0) (fun i a b => by rw [w73, if_neg (by omega)]), ip4, w73, if_pos (by omega)]
      · rw [hfq rest, jn0]
        show (if bc0 + B.length = 4096 then ((5, mI M0 (p + 10) c), S2, B) else fq rest S2 (B ++ [(tn, sh)])) = _
        rw [if_neg (by rw [lB]; omega)]
      · rw [show bc + 1 - bc0 = (bc - bc0) + 1 by first | rfl | omega]
        show brl M73 g bc0 (bc - bc0) ++ [((mI M73 (g + 8) (bc0 + (bc - bc0))).toNat, mI M73 (g + 9) (bc0 + (bc - bc0)))] = _
        rw [brl_cg (M := M) (bc - bc0) (fun i a b => by rw [v73, w73, if_neg (by omega), if_neg (by omega)]; exact ⟨rfl, rfl⟩), v73, w73, if_pos (by omega), if_pos (by omega), ← hB, etn, Int.toNat_natCast]
  intro t
  induction t with
  | zero =>
    intro i hi hi0 hi2 hno
    refine k_Ga_follow_69 h1 (i32s (by omega) (by omega)) ⟨by omega, by omega⟩ ⟨by omega, by omega⟩ (i32s (by omega) (by omega)) ⟨g0, fun _ => (new (fun j a b => hno j a (by omega))).2, fun y => absurd y (by omega)⟩
  | succ t ih =>
    intro i hi hi0 hi2 hno
    refine k_Ga_follow_69 h1 (i32s (by omega) (by omega)) ⟨by omega, by omega⟩ ⟨by omega, by omega⟩ (i32s (by omega) (by omega)) ⟨g0, fun y => (new (fun j a b => hno j a (by omega))).2, fun y => ?_⟩
    have ib : i < bc := by omega
    rw [g8, n8, g9, n9, Int.toNat_natCast]
    have wl := wsm_le wpos (bc - bc0) (Nat.le_refl _) i hi0 (by omega)
    have w1 := (ip3 i hi0 ib).2.2
    rw [ip4] at wl
    refine ⟨k8, by omega, fun y1 => ⟨k9, by omega, by omega, ⟨by omega, by omega⟩, fun M87 e87 => ?_⟩, fun y1 => ?_⟩
    · have f87 : FI (fun x => x = g + 9) M M87 := by rw [e87]; exact FI.ui rfl
      have nb : ∀ x, x ≠ g + 9 → mI M87 x = mI M x := fun x hx => f87.2.2.2.2.2.2 x hx
      have o87 : mOk M87 := by rw [e87]; exact mOk_UI h1 ⟨by omega, by omega⟩
      have w87 : ∀ j, mI M87 (g + 9) j = if j = i then mI M (g + 9) i + sh else mI M (g + 9) j := fun j => by
        rw [mI_ui _ j e87]
        by_cases y : j = i
        · rw [if_pos ⟨rfl, y⟩, if_pos y]
        · rw [if_neg (fun t => y t.2), if_neg y]
      have sp : B = brl M g bc0 (i - bc0) ++ ((mI M (g + 8) i).toNat, mI M (g + 9) i) :: brl M g (i + 1) (bc - (i + 1)) := by
        rw [hB, show bc - bc0 = (i - bc0) + 1 + (bc - (i + 1)) by first | rfl | omega, brl_sp, show bc0 + (i - bc0) = i by first | rfl | omega]
      have js : jnq9 tn sh B = some (brl M g bc0 (i - bc0) ++ ((mI M (g + 8) i).toNat, mI M (g + 9) i + sh) :: brl M g (i + 1) (bc - (i + 1))) := by
        rw [sp]
        refine jnq_s (by show (mI M (g + 8) i).toNat = tn; omega) _ (fun q hq => ?_)
        obtain ⟨j, j1, j2, j3⟩ := brl_mem _ hq
        rw [j3]
        have a := hno j j1 (by omega)
        have b := (ip3 j j1 (by omega)).1
        show (mI M (g + 8) j).toNat ≠ tn
        omega
      refine ⟨⟨⟨by decide, by decide⟩, hf.trans ⟨fun i _ _ _ => by rw [nb g (by omega)], fun i i2 i7 => nb _ (by omega), ⟨nb _ (by omega), nb _ (by omega)⟩, by rw [nb _ (by omega)], fun i hi => nb _ (off i 9 hi (by omega)), fun j hj => ⟨by rw [nb _ (by omega)], by rw [w87, if_neg (by omega)]⟩⟩, ⟨Ab, Be, C, hx.fi o87 (f87.mono (fun x y => Or.inl (by have y' : x = g + 9 := y; omega)))⟩, cn, bc, ⟨by rw [nb g (by omega)]; exact hcn, hcc, hcn5, fun j hj => by rw [nb _ (by omega)]; exact hsl j hj⟩, by rw [nb g (by omega)]; exact hbc, ip1, ⟨ip2, by omega⟩, fun _ => ⟨ip1, ip2, fun j a b => ?_, ?_⟩⟩, Or.inr ⟨rfl, S2, brl M g bc0 (i - bc0) ++ ((mI M (g + 8) i).toNat, mI M (g + 9) i + sh) :: brl M g (i + 1) (bc - (i + 1)), cn, bc, fun rest => ?_, so, ge.cg V12 (by rw [nb g (by omega)]) (nb _ (by omega)) (nb _ (by omega)), by rw [nb g (by omega)]; exact hbc, ?_, st.cg (fun i _ => by rw [nb _ (by omega)]) (fun v _ => by rw [nb _ (by omega)]) (nb _ (by omega)) (nb _ (by omega)) (nb _ (by omega))⟩⟩
      · rw [nb (g + 8) (by omega), w87]
        obtain ⟨c1, c2, c3⟩ := ip3 j a b
        refine ⟨c1, c2, ?_⟩
        by_cases y : j = i
        · rw [if_pos y]; omega
        · rw [if_neg y]; exact c3
      · rw [wsm_add w87 hi0, if_pos (by omega), ip4]
      · rw [hfq rest, js]
      · rw [show bc - bc0 = (i - bc0) + 1 + (bc - (i + 1)) by first | rfl | omega, brl_sp, show bc0 + (i - bc0) = i by first | rfl | omega, brl_cg (M := M) (i - bc0) (fun j a b => by rw [nb (g + 8) (by omega), w87, if_neg (by omega)]; exact ⟨rfl, rfl⟩), brl_cg (M := M) (bc - (i + 1)) (fun j a b => by rw [nb (g + 8) (by omega), w87, if_neg (by omega)]; exact ⟨rfl, rfl⟩), w87, if_pos rfl, nb (g + 8) (by omega)]
    · rw [show ((i : Int) + 1) = ((i + 1 : Nat) : Int) by first | rfl | omega]
      refine ih (i + 1) (by omega) (by omega) (by omega) (fun j a b => ?_)
      by_cases yj : j = i
      · rw [yj]; exact y1
      · exact hno j a (by omega)
end GBE
end
section
/-! The class's game, exactly: follow, the whole. -/
section GBF
variable {stp : List Int → List (Nat × Nat × Nat × Nat) → (Int × Int) × List Int} {sg : List Int} {pc m : Int} {nb : Nat} {x : br9 × (Int × Int)} {r : List (br9 × (Int × Int))} {S S2 : List (List Int)} {B : List (Nat × Int)}
theorem flq_0 (h : x.2.1 = 0) : flq9 stp sg pc m nb (x :: r) S B = flq9 stp sg pc m nb r S B := if_pos h
theorem flq_f (h : x.2.1 ≠ 0) (h1 : (stp sg x.1.2.2).1.1 ≠ 0) : flq9 stp sg pc m nb (x :: r) S B = ((stp sg x.1.2.2).1, S, B) := (if_neg h).trans (if_pos h1)
theorem flq_n (h : x.2.1 ≠ 0) (h1 : (stp sg x.1.2.2).1.1 = 0) (h2 : enq9 S (stp sg x.1.2.2).2 = none) : flq9 stp sg pc m nb (x :: r) S B = ((5, x.1.1), S, B) := by
  refine (if_neg h).trans ((if_neg (fun u => u h1)).trans ?_)
  rw [h2]
theorem flq_e {to : Nat} (h : x.2.1 ≠ 0) (h1 : (stp sg x.1.2.2).1.1 = 0) (h2 : enq9 S (stp sg x.1.2.2).2 = some (to, S2)) : flq9 stp sg pc m nb (x :: r) S B = match jnq9 to (m / x.2.2 * x.2.1) B with | some B' => flq9 stp sg pc m nb r S2 B' | none => if nb + B.length = 4096 then ((5, pc), S2, B) else flq9 stp sg pc m nb r S2 (B ++ [(to, m / x.2.2 * x.2.1)]) := by
  refine (if_neg h).trans ((if_neg (fun u => u h1)).trans ?_)
  rw [h2]
  rfl
theorem getD_map {V v : Nat} {f : Nat → Int} (h : v < V) : ((List.range V).map f).getD v 0 = f v := by
  rw [List.getD_eq_getElem?_getD, List.getElem?_map, List.getElem?_range h]
  rfl
variable {w pl lo hi : Nat → Int} {cv : Nat → vrs} {V : Nat}
theorem stq_nx : ∀ (l : List (Nat × Nat × Nat × Nat)) (nx nx' : Nat → Int), (∀ v, v < V → nx v = nx' v) → (stq9 w cv pl lo hi l nx).1 = (stq9 w cv pl lo hi l nx').1 ∧ ∀ v, v < V → (stq9 w cv pl lo hi l nx).2 v = (stq9 w cv pl lo hi l nx').2 v
  | [], nx, nx', h => ⟨rfl, h⟩
  | q :: l, nx, nx', h => by
    rw [stq9, stq9]
    by_cases c1 : (vlq w cv pl 0 0 q.2.1 q.2.2.1).1 ≠ 0
    · rw [if_pos c1, if_pos c1]
      exact ⟨rfl, h⟩
    · rw [if_neg c1, if_neg c1]
      by_cases c2 : (stfq (vlq w cv pl 0 0 q.2.1 q.2.2.1).2.1 (vlq w cv pl 0 0 q.2.1 q.2.2.1).2.2 (lo q.1) (hi q.1) (pl q.2.2.2)).1 ≠ 0
      · rw [if_pos c2, if_pos c2]
        exact ⟨rfl, h⟩
      · rw [if_neg c2, if_neg c2]
        refine stq_nx l _ _ (fun v hv => ?_)
        show (if v = q.1 then _ else nx v) = (if v = q.1 then _ else nx' v)
        rw [h v hv]
/-- sets keep the ranges -/
theorem stq_in : ∀ (l : List (Nat × Nat × Nat × Nat)) (nx : Nat → Int), (stq9 w cv pl lo hi l nx).1.1 = 0 → ∀ v, (stq9 w cv pl lo hi l nx).2 v = nx v ∨ (lo v ≤ (stq9 w cv pl lo hi l nx).2 v ∧ (stq9 w cv pl lo hi l nx).2 v ≤ hi v)
  | [], nx, _, v => Or.inl rfl
  | q :: l, nx, h, v => by
    rw [stq9] at h ⊢
    by_cases c1 : (vlq w cv pl 0 0 q.2.1 q.2.2.1).1 ≠ 0
    · rw [if_pos c1] at h
      exact absurd h c1
    · rw [if_neg c1] at h ⊢
      by_cases c2 : (stfq (vlq w cv pl 0 0 q.2.1 q.2.2.1).2.1 (vlq w cv pl 0 0 q.2.1 q.2.2.1).2.2 (lo q.1) (hi q.1) (pl q.2.2.2)).1 ≠ 0
      · rw [if_pos c2] at h
        exact absurd h c2
      · rw [if_neg c2] at h ⊢
        rcases stq_in l _ h v with y | y
        · rw [y]
          by_cases e : v = q.1
          · rw [if_pos e]
            right
            unfold stfq at c2
            by_cases d1 : (vlq w cv pl 0 0 q.2.1 q.2.2.1).2.2 ≠ 1
            · rw [if_pos d1] at c2
              exact absurd (show (8 : Int) ≠ 0 by decide) c2
            · rw [if_neg d1] at c2
              by_cases d2 : (vlq w cv pl 0 0 q.2.1 q.2.2.1).2.1 < lo q.1 ∨ hi q.1 < (vlq w cv pl 0 0 q.2.1 q.2.2.1).2.1
              · rw [if_pos d2] at c2
                exact absurd (show (12 : Int) ≠ 0 by decide) c2
              · rw [e]
                omega
          · rw [if_neg e]
            exact Or.inl rfl
        · exact Or.inr y
end GBF
section GBG
variable {W pl nq lo hi : Nat → Int} {sm : Nat → Nat → Prop} {N V : Nat} {nms : List nm9} {sg : List Int}
theorem stp_ok (hv : vcn nms = V) (vo : VrO nms lo hi) (so : SgO (fun v => sg.getD v 0) nms) {l : List (Nat × Nat × Nat × Nat)} (h : (stpq W pl nq sm N nms V lo hi sg l).1.1 = 0) : SgO (fun v => (stpq W pl nq sm N nms V lo hi sg l).2.getD v 0) nms := by
  intro l1 e l2 he h3
  have e9 : vcn (e :: l2) = vcn l2 + 1 := by
    show vcn l2 + (if e.2.1 = 3 then 1 else 0) = _
    rw [if_pos h3]
  have vl : vcn l1 < V := by
    rw [← hv, he, vcn_app, e9]
    omega
  obtain ⟨⟨v1, v2⟩, v3⟩ := vo l1 e l2 he h3
  obtain ⟨s1, s2⟩ := so l1 e l2 he h3
  have hin := stq_in l _ h (vcn l1)
  have eq9 : (stpq W pl nq sm N nms V lo hi sg l).2.getD (vcn l1) 0 = _ := getD_map vl
  show ((stpq W pl nq sm N nms V lo hi sg l).2.getD (vcn l1) 0).natAbs ≤ 999999999 ∧ (e.2.2.1 = 1 → (stpq W pl nq sm N nms V lo hi sg l).2.getD (vcn l1) 0 = 0 ∨ (stpq W pl nq sm N nms V lo hi sg l).2.getD (vcn l1) 0 = 1)
  rw [eq9]
  rcases hin with y | y
  · rw [y]
    exact ⟨s1, s2⟩
  · refine ⟨by omega, fun u => ?_⟩
    obtain ⟨w1, w2⟩ := v3 u
    rw [w1, w2] at y
    omega
end GBG
section GBH
variable {G : mG} {d z g p O P K V F L cnt Ab Be C Ab0 Be0 C0 n N c cc u v k cn bc bc0 br : Nat} {M0 M M' M1 : mM} {ns : Nat → Int} {sf ef : Nat → Nat} {F1 : Nat} {ns1 : Nat → Int} {sf1 ef1 : Nat → Nat} {W pl nq : Nat → Int} {sm : Nat → Nat → Prop} {nms : List nm9} {sgL : List Int} {sum9 m : Int} {x : br9 × (Int × Int)} {S : List (List Int)} {B : List (Nat × Int)}
theorem x_Ga_follow (hF : FMx G) (cx : gcx M0 g p O P L V F Ab0 Be0 ns sf ef W pl nq sm N n nms) (vo : VrO nms (mI M0 (p + 3)) (mI M0 (p + 4))) (hx : GX M0 z g p O P K V F1 ns1 sf1 ef1 L cnt Ab0 Be0 C0 M Ab Be C) (st : gst9 M g V F ns W pl nq sm N nms k (fun v => sgL.getD v 0)) (hk : k < cn) (so : SoO nms S) (ge : gxe M g V cn S) (hB : B = brl M g bc0 (bc - bc0)) (hc : c < cnt) (hcn5 : cn ≤ 512) (hbc : mI M g 13 = ((bc : Nat) : Int)) (hip : ipG M g cn bc0 bc sum9) (hx0 : x.2.1 ≠ 0) {sh : Int} (esh : sh = m / x.2.2 * x.2.1) (hsh : 1 ≤ sh) (hsm : sum9 + sh < 1000000000) (hcc : mI M g 12 = ((cc : Nat) : Int)) (hcc2 : cc ≤ 4096) (h7 : mI M (g + 7) cc = ((bc0 : Nat) : Int)) (hbr : br < 480) (hpl : mI M0 (p + 13) br = x.1.1) (hs : ∃ s2 : Nat, mI M0 (p + 15) br = ((s2 : Nat) : Int) ∧ SeC M0 O P L V W pl nq sm n ns ef nms x.1.2.2 s2) : Ci G y_Ga_follow (d + 5) [vr g, vi c, vi br, vi sh] M (fun r M' => foQ M0 z g p O P K V F1 ns1 sf1 ef1 L cnt Ab0 Be0 C0 M bc0 cn (sum9 + sh) r M' ∧ foX (flq9 (stpq W pl nq sm N nms V (mI M0 (p + 3)) (mI M0 (p + 4))) sgL (mI M0 (p + 10) c) m bc0) x S B g V F ns W pl nq sm N nms k sgL bc0 r M') := by
  have hcn := ge.1
  have hsl : SLt M g cn := fun i hi => (ge.2.1.1.1 i hi).imp id (fun ⟨k, k1, k2⟩ => ⟨by omega, by omega⟩)
  obtain ⟨h1, h2, h3, h4, h5, -⟩ := id hx
  obtain ⟨g0, ⟨-, -, -, -, -, -, -, -, -, g15, -⟩, -, -⟩ := id h2
  have c60 := h4.2.2.2.2.1.2
  have V12 := h4.2.2.1.2
  have off := ga_off hx
  obtain ⟨ip1, ip2, ip3, ip4⟩ := id hip
  have smb := wsm_ge (M := M) (g := g) (x := bc0) (n := bc - bc0) (fun i a b => (ip3 i a (by omega)).2.2) (bc - bc0) (Nat.le_refl _)
  rw [ip4] at smb
  refine k_Ga_follow h1 (i32s (by omega) (by omega)) (i32s (by omega) (by omega)) ⟨by omega, by omega⟩ ?_
  rw [g15]
  refine ⟨g0, h3.1, ?_⟩
  refine k_Ma_beginSets h1 ?_
  rw [h3.2.1.1, h3.2.1.2.1]
  have hbs := h3.2.2.2.2.1
  have nm := h3.2.2.2.1.1
  refine ⟨h3.1, h3.2.2.1.1, h3.2.2.1.2.1, ⟨hbs.1, by omega, by omega, hbs.2, by rw [nm]; omega⟩, fun M3 e3 => ?_⟩
  have f3 : FI (fun x => x = g + 12) M M3 := by
    rw [e3]
    refine ⟨rfl, rfl, rfl, rfl, rfl, rfl, fun x hx => ?_⟩
    funext j
    exact if_neg (fun t => hx t.1)
  have o3 : mOk M3 := by rw [e3]; exact mOk_Cpy h1
  have x3 := hx.fi o3 (f3.mono (fun x y => Or.inr (Or.inl y)))
  have nb3 : ∀ x, x ≠ g + 12 → mI M3 x = mI M x := fun x hx => f3.2.2.2.2.2.2 x hx
  have n3 : ∀ v, v < V → mI M3 (g + 12) v = sgL.getD v 0 := fun v hv => by
    rw [e3]
    show (if g + 12 = g + 12 ∧ Int.toNat 0 ≤ v ∧ v < Int.toNat 0 + 12 then mI M (g + 1) (Int.toNat (mI M (g + 10) 4) + (v - Int.toNat 0)) else mI M (g + 12) v) = _
    rw [if_pos ⟨rfl, Nat.zero_le _, by show v < 0 + 12; omega⟩, st.1, Int.toNat_natCast]
    exact st.2.1 v hv
  have fl3 : flF M g p bc0 M3 := ⟨fun i _ _ _ => by rw [nb3 g (by omega)], fun i _ _ => nb3 _ (by omega), ⟨nb3 _ (by omega), nb3 _ (by omega)⟩, by rw [nb3 _ (by omega)], fun i hi => nb3 _ (off i 12 hi (by omega)), fun i _ => ⟨by rw [nb3 _ (by omega)], by rw [nb3 _ (by omega)]⟩⟩
  obtain ⟨s2, sb1, sb2⟩ := hs
  have st3 : gst9 M3 g V F ns W pl nq sm N nms k (fun v => sgL.getD v 0) := st.cg (fun i _ => by rw [nb3 _ (by omega)]) (fun v _ => by rw [nb3 _ (by omega)]) (nb3 _ (by omega)) (nb3 _ (by omega)) (nb3 _ (by omega))
  have ge3 : gxe M3 g V cn S := ge.cg V12 (by rw [nb3 g (by omega)]) (nb3 _ (by omega)) (nb3 _ (by omega))
  have cn3 : mI M3 g 0 = ((cn : Nat) : Int) := ge3.1
  have bc3 : mI M3 g 13 = ((bc : Nat) : Int) := by rw [nb3 g (by omega)]; exact hbc
  have cc3 : mI M3 g 12 = ((cc : Nat) : Int) := by rw [nb3 g (by omega)]; exact hcc
  have sl3 : SLt M3 g cn := fun i hi => by rw [nb3 _ (by omega)]; exact hsl i hi
  have ip3' : ipG M3 g cn bc0 bc sum9 := ⟨ip1, ip2, fun i a b => by rw [nb3 _ (by omega), nb3 _ (by omega)]; exact ip3 i a b, by rw [wsm_cg (M := M) _ (fun i _ _ => by rw [nb3 _ (by omega)])]; exact ip4⟩
  obtain ⟨-, k2, k3, k4, k5, -⟩ := id x3
  obtain ⟨j0, ⟨-, -, -, -, -, -, -, -, -, j15, -⟩, -, -⟩ := id k2
  have p19 := k4.1.2.2.2.2.2.2.1.2.2.2.2.2.2.2.2.2.2.2.2
  have kp19 := k4.1.2.2.2.2.2.2.2.1.2.2.2.2.2.2.2.2.2.2.2.2
  have np19 := k4.1.2.2.2.2.2.2.2.2.2.2.2.2.2.2.2.2.2.2.2.2
  rw [k5.1, p19, np19, j15, Int.toNat_natCast, gx_p x3 15 (by omega), sb1]
  refine ⟨o3, j0, k4.1.1, kp19, by omega, k3.1, (x_Ga_runs (nx := fun j => mI M3 (g + 12) j) hF x3 cx st3 sb2 (fun j _ => rfl)).mono (fun x12 M11 kk => ?_)⟩
  obtain ⟨⟨i12, o11, hx12, Ab', Be', C', hx11, f11, s11, -⟩, rx, st11⟩ := kk
  obtain ⟨nx1, nx2⟩ := stq_nx (V := V) (w := W) (cv := cvs W pl nq sm N (fun v => sgL.getD v 0) nms.reverse) (pl := pl) (lo := mI M0 (p + 3)) (hi := mI M0 (p + 4)) x.1.2.2 (fun j => mI M3 (g + 12) j) (fun v => sgL.getD v 0) n3
  rw [nx1] at rx
  obtain ⟨ce1, ce2⟩ := ga_ce x3 f11
  have ce0 := ce1 0 (by omega)
  rw [Nat.add_zero] at ce0
  have fl11 : flF M g p bc0 M11 := fl3.trans ⟨fun i _ _ _ => by rw [ce0], fun i _ _ => ce1 i (by omega), ⟨ce1 21 (by omega), ce1 22 (by omega)⟩, s11, ce2, fun i _ => ⟨by rw [ce1 8 (by omega)], by rw [ce1 9 (by omega)]⟩⟩
  have ge11 : gxe M11 g V cn S := ge3.cg V12 (by rw [ce0]) (ce1 1 (by omega)) (ce1 20 (by omega))
  have cn11 : mI M11 g 0 = ((cn : Nat) : Int) := ge11.1
  have bc11 : mI M11 g 13 = ((bc : Nat) : Int) := by rw [ce0]; exact bc3
  have cc11 : mI M11 g 12 = ((cc : Nat) : Int) := by rw [ce0]; exact cc3
  have sl11 : SLt M11 g cn := fun i hi => by rw [ce1 20 (by omega)]; exact sl3 i hi
  have ip11 : ipG M11 g cn bc0 bc sum9 := ⟨ip1, ip2, fun i a b => by rw [ce1 8 (by omega), ce1 9 (by omega)]; exact ip3'.2.2.1 i a b, by rw [wsm_cg (M := M3) _ (fun i _ _ => by rw [ce1 9 (by omega)])]; exact ip3'.2.2.2⟩
  have hB11 : B = brl M11 g bc0 (bc - bc0) := by
    rw [hB]
    exact (brl_cg _ (fun i _ _ => by rw [ce1 8 (by omega), ce1 9 (by omega), nb3 _ (by omega), nb3 _ (by omega)]; exact ⟨rfl, rfl⟩)).symm
  have h711 : mI M11 (g + 7) cc = ((bc0 : Nat) : Int) := by rw [ce1 7 (by omega), nb3 _ (by omega)]; exact h7
  clear ce1 ce2 ce0 f3 nb3 fl3 cn3 bc3 cc3 sl3 ip3' k2 k3 k4 k5 x3 f11 s11 e3 o3 p19 kp19 np19 nx1 n3 st3 ge3
  obtain ⟨-, l2, l3, l4, l5, -⟩ := id hx11
  obtain ⟨m0, ⟨-, -, -, -, -, -, m7, -, -, m15, -⟩, ⟨-, -, -, -, -, -, mk7, -⟩, ⟨-, -, -, -, -, -, mn7, -⟩⟩ := id l2
  refine ⟨i12, o11, fun y => ⟨m0, (x_Ga_machineFault o11 m0 m15 l3.1).mono (fun r M' q => ?_)⟩, fun y => ⟨m0, (x_Ga_enter (d := d + 2) hx11 cn11 hcn5 ge11.2.1).mono (fun x22 M21 kk => ?_)⟩⟩
  · obtain ⟨-, rx1, rx2, rx3⟩ := rx.resolve_right (fun u => by have := u.1; omega)
    obtain ⟨q1, q2, q3, q4⟩ := q
    have r0 : r ≠ 0 := by rw [q2, rx2]; exact rx1
    refine ⟨q1, q3.1, pl_fo hbc hx11 fl11 cn11 (Nat.le_refl _) hcn5 sl11 bc11 ⟨ip1, ip2⟩ q3 q1 r0, Or.inl ⟨r0, fun rest => ?_⟩⟩
    rw [flq_f hx0 (show (stpq W pl nq sm N nms V (mI M0 (p + 3)) (mI M0 (p + 4)) sgL x.1.2.2).1.1 ≠ 0 from rx1)]
    show (stq9 W (cvs W pl nq sm N (fun v => sgL.getD v 0) nms.reverse) pl (mI M0 (p + 3)) (mI M0 (p + 4)) x.1.2.2 (fun v => sgL.getD v 0)).1 = _
    rw [q2, rx2, q4, rx3]
  obtain ⟨-, rx1, rx2⟩ := rx.resolve_left (fun u => y u.1)
  have nx9 : nxm M11 g V = (stpq W pl nq sm N nms V (mI M0 (p + 3)) (mI M0 (p + 4)) sgL x.1.2.2).2 := by
    unfold nxm stpq
    refine List.map_congr_left (fun v hv => ?_)
    have hv := List.mem_range.mp hv
    rw [← nx2 v hv]
    exact rx2 v (by omega)
  have so9 := stp_ok cx.2.2.2.2.2 vo st.2.2.1 (show (stpq W pl nq sm N nms V (mI M0 (p + 3)) (mI M0 (p + 4)) sgL x.1.2.2).1.1 = 0 from rx1)
  obtain ⟨⟨hx21, f21, r21, cn', cn21, cnn, cn5', sl21, hto, i22, -⟩, ex⟩ := kk
  have off21 := ga_off hx21
  have nb : ∀ x, x ≠ g → x ≠ g + 1 → x ≠ g + 20 → mI M21 x = mI M11 x := fun x a b c => f21.2.2.2.2.2.2 x (fun y => y.elim a (fun y => y.elim b c))
  have fl21 : flF M g p bc0 M21 := fl11.trans ⟨fun i i0 _ _ => r21 i i0, fun i _ _ => nb _ (by omega) (by omega) (by omega), ⟨nb _ (by omega) (by omega) (by omega), nb _ (by omega) (by omega) (by omega)⟩, by rw [nb _ (by omega) (by omega) (by omega)], fun i hi => nb _ (off i 0 hi (by omega)) (off i 1 hi (by omega)) (off i 20 hi (by omega)), fun i _ => ⟨by rw [nb _ (by omega) (by omega) (by omega)], by rw [nb _ (by omega) (by omega) (by omega)]⟩⟩
  have bc21 : mI M21 g 13 = ((bc : Nat) : Int) := by rw [r21 13 (by decide)]; exact bc11
  have cc21 : mI M21 g 12 = ((cc : Nat) : Int) := by rw [r21 12 (by decide)]; exact cc11
  have ip21 : ipG M21 g cn' bc0 bc sum9 := ⟨ip1, ip2, fun i a b => by
    rw [nb (g + 8) (by omega) (by omega) (by omega), nb (g + 9) (by omega) (by omega) (by omega)]
    obtain ⟨c1, c2, c3⟩ := ip11.2.2.1 i a b
    exact ⟨c1, by omega, c3⟩, by rw [wsm_cg (M := M11) _ (fun i _ _ => by rw [nb (g + 9) (by omega) (by omega) (by omega)])]; exact ip11.2.2.2⟩
  have hB21 : B = brl M21 g bc0 (bc - bc0) := by
    rw [hB11]
    exact (brl_cg _ (fun i _ _ => by rw [nb (g + 8) (by omega) (by omega) (by omega), nb (g + 9) (by omega) (by omega) (by omega)]; exact ⟨rfl, rfl⟩)).symm
  obtain ⟨o21, a2, a3, a4, a5, -⟩ := id hx21
  obtain ⟨b0, ⟨-, -, -, -, -, -, b7, -⟩, ⟨-, -, -, -, -, -, bk7, -⟩, ⟨-, -, -, -, -, -, bn7, -⟩⟩ := id a2
  have p17 := a4.1.2.2.2.2.2.2.1.2.2.2.2.2.2.2.2.2.2.1
  have kp17 := a4.1.2.2.2.2.2.2.2.1.2.2.2.2.2.2.2.2.2.2.1
  have np17 := a4.1.2.2.2.2.2.2.2.2.2.2.2.2.2.2.2.2.2.2.1
  rw [a5.1, p17, np17, b7, bn7, cc21, Int.toNat_natCast, nb (g + 7) (by omega) (by omega) (by omega), h711]
  refine ⟨i22, o21, fun y => ⟨b0, a4.1.1, kp17, by omega, (x_Ga_fault ⟨by decide, by decide⟩ (o21 _ _).1 o21 b0).mono (fun r M' q => ?_)⟩, fun y => ⟨b0, bk7, by omega, ?_⟩⟩
  · rw [q.1]
    refine ⟨⟨by decide, by decide⟩, q.2.1.1, pl_fo hbc hx21 fl21 cn21 cnn cn5' sl21 bc21 ⟨ip1, ip2⟩ q.2.1 ⟨by decide, by decide⟩ (by decide), Or.inl ⟨by decide, fun rest => ?_⟩⟩
    have en : enq9 S (stpq W pl nq sm N nms V (mI M0 (p + 3)) (mI M0 (p + 4)) sgL x.1.2.2).2 = none := by
      rcases ex with ⟨k', -, -, e1, -⟩ | ⟨no, ⟨e1, -, -⟩ | ⟨-, e1, -⟩⟩
      · rw [y] at e1; omega
      · rw [← nx9, ← ge11.2.2, enqN9 no, if_pos e1]
      · rw [y] at e1; omega
    rw [flq_n hx0 rx1 en, q.2.2, gx_p hx21 13 (by omega), hpl]
  · have hto := hto.resolve_left y
    obtain ⟨tn, etn⟩ : ∃ tn : Nat, x22 = ((tn : Nat) : Int) := ⟨x22.toNat, by omega⟩
    have key : ∃ S2, enq9 S (stpq W pl nq sm N nms V (mI M0 (p + 3)) (mI M0 (p + 4)) sgL x.1.2.2).2 = some (tn, S2) ∧ SoO nms S2 ∧ gxe M21 g V cn' S2 ∧ ∀ j, j < 12 * cn → mI M21 (g + 1) j = mI M11 (g + 1) j := by
      rcases ex with ⟨k', e1, e2, e3, e4⟩ | ⟨no, ⟨-, e1, -⟩ | ⟨e1, e2, e3, e4, e5, e6⟩⟩
      · subst e4
        have cc' : cn' = cn := by rw [cn21] at cn11; omega
        refine ⟨S, ?_, so, by rw [cc']; exact ge11, fun j _ => rfl⟩
        rw [← nx9, ← ge11.2.2, enq_k ge11.2.1 e1 e2, show k' = tn by first | rfl | omega]
      · exact absurd e1 y
      · have cc' : cn' = cn + 1 := by rw [cn21] at e3; omega
        refine ⟨S ++ [nxm M11 g V], ?_, fun s hs => ?_, ?_, e6⟩
        · rw [← nx9, ← ge11.2.2, enqN9 no, if_neg (by omega), show cn = tn by first | rfl | omega]
        · rcases List.mem_append.mp hs with h | h
          · exact so s h
          · rw [List.mem_singleton.mp h, nx9]
            exact so9
        · rw [cc']
          exact ⟨e3, e4, by rw [Sm9_s e5 V12 e6, ge11.2.2]⟩
    obtain ⟨S2, y1, y2, y3, y4⟩ := key
    have st21 : gst9 M21 g V F ns W pl nq sm N nms k (fun v => sgL.getD v 0) := st11.cg (fun i _ => by rw [nb _ (by omega) (by omega) (by omega)]) (fun v hv => y4 _ (by omega)) (nb _ (by omega) (by omega) (by omega)) (nb _ (by omega) (by omega) (by omega)) (nb _ (by omega) (by omega) (by omega))
    exact x_fo69 cx st21 y2 y3 hB21 etn (fun rest => by rw [flq_e hx0 rx1 y1, ← esh]; try rfl) hbc hx21 fl21 hc cn5' bc21 ip21 hsh hsm hto cnn (bc - bc0) bc0 (by omega) (Nat.le_refl _) ip1 (fun j a b => absurd a (by omega))
end GBH
end
section
/-! The class's game, exactly: its tables as lists; a command is tried. -/
section GBI
variable {M M' : mM} {g V cn k a m c cc bc bc0 : Nat}
/-- a command of the game -/
def cmm (M : mM) (g c : Nat) : sc9 := ((mI M (g + 5) c).toNat, mI M (g + 6) c, brl M g (mI M (g + 7) c).toNat ((mI M (g + 7) (c + 1)).toNat - (mI M (g + 7) c).toNat))
/-- m commands from a on -/
def cml (M : mM) (g a : Nat) : Nat → List sc9
  | 0 => []
  | m + 1 => cml M g a m ++ [cmm M g (a + m)]
/-- a state's kind and commands -/
def stm (M : mM) (g j : Nat) : Int × List sc9 := (mI M (g + 2) j, cml M g (mI M (g + 4) j).toNat ((mI M (g + 4) (j + 1)).toNat - (mI M (g + 4) j).toNat))
/-- the first k states -/
def xtm (M : mM) (g : Nat) : Nat → xt9
  | 0 => []
  | k + 1 => xtm M g k ++ [stm M g k]
theorem cml_cg : ∀ m, (∀ c, a ≤ c → c < a + m → cmm M' g c = cmm M g c) → cml M' g a m = cml M g a m
  | 0, _ => rfl
  | m + 1, h => by
    show cml M' g a m ++ [cmm M' g (a + m)] = cml M g a m ++ [cmm M g (a + m)]
    rw [cml_cg m (fun c h1 h2 => h c h1 (by omega)), h (a + m) (by omega) (by omega)]
theorem xtm_cg : ∀ k, (∀ j, j < k → mI M' (g + 2) j = mI M (g + 2) j) → (∀ j, j ≤ k → mI M' (g + 4) j = mI M (g + 4) j) → (∀ j, j < k → (mI M (g + 4) (j + 1)).toNat ≤ cc) → (∀ c, c < cc → cmm M' g c = cmm M g c) → xtm M' g k = xtm M g k
  | 0, _, _, _, _ => rfl
  | k + 1, h1, h2, h3, h4 => by
    show xtm M' g k ++ [stm M' g k] = xtm M g k ++ [stm M g k]
    rw [xtm_cg k (fun j hj => h1 j (by omega)) (fun j hj => h2 j (by omega)) (fun j hj => h3 j (by omega)) h4]
    unfold stm
    rw [h1 k (by omega), h2 k (by omega), h2 (k + 1) (by omega)]
    rw [cml_cg (M' := M') (M := M) _ (fun c c1 c2 => h4 c (by have := h3 k (by omega); omega))]
theorem cmm_cg (h : cmdG M g cn bc c) (e7 : mI M' (g + 7) c = mI M (g + 7) c ∧ mI M' (g + 7) (c + 1) = mI M (g + 7) (c + 1)) (e6 : mI M' (g + 6) c = mI M (g + 6) c) (e5 : mI M' (g + 5) c = mI M (g + 5) c) (e8 : ∀ i, i < bc → mI M' (g + 8) i = mI M (g + 8) i ∧ mI M' (g + 9) i = mI M (g + 9) i) : cmm M' g c = cmm M g c := by
  obtain ⟨x, y, mu, h1, h2, h3, h4, -⟩ := h
  unfold cmm
  rw [e7.1, e7.2, e6, e5, h1, h2, Int.toNat_natCast, Int.toNat_natCast, brl_cg (M' := M') (M := M) _ (fun i i1 i2 => e8 i (by omega))]
theorem nbq_app (l r : List sc9) : nbq9 (l ++ r) = nbq9 l + nbq9 r := by
  induction l with
  | nil => show nbq9 r = 0 + nbq9 r; omega
  | cons x l ih =>
    show x.2.2.length + nbq9 (l ++ r) = x.2.2.length + nbq9 l + nbq9 r
    rw [ih]
    omega
theorem nbx_app (l r : xt9) : nbx9 (l ++ r) = nbx9 l + nbx9 r := by
  induction l with
  | nil => show nbx9 r = 0 + nbx9 r; omega
  | cons x l ih =>
    show nbq9 x.2 + nbx9 (l ++ r) = nbq9 x.2 + nbx9 l + nbx9 r
    rw [ih]
    omega
theorem lch_len : ∀ n, (lch9 M g n).length = n
  | 0 => rfl
  | n + 1 => by
    show (lch9 M g n ++ [_]).length = n + 1
    rw [List.length_append, lch_len n]
    rfl
theorem lch_get {b : Nat} : ∀ n, b < n → (lch9 M g n)[b]? = some (mI M (g + 21) b, mI M (g + 22) b)
  | 0, h => absurd h (Nat.not_lt_zero _)
  | n + 1, h => by
    show (lch9 M g n ++ [(mI M (g + 21) n, mI M (g + 22) n)])[b]? = _
    by_cases y : b < n
    · rw [List.getElem?_append_left (by rw [lch_len]; exact y)]
      exact lch_get n y
    · have e : b = n := by omega
      subst e
      rw [List.getElem?_append_right (by rw [lch_len]; exact Nat.le_refl _), lch_len, Nat.sub_self]
      rfl
end GBI
/-- between two commands of state k, exactly: T the states before, s what has come of this one -/
def GQe (M : mM) (g V : Nat) (nms : List nm9) (k : Nat) (T : xt9) (s : sl9) : Prop := s.1 = (0, 0) ∧ SoO nms s.2.1 ∧ (∃ cn, gxe M g V cn s.2.1) ∧ xtm M g k = T ∧ mI M (g + 2) k = s.2.2.1 ∧ ∃ fc cc bc : Nat, mI M (g + 4) k = ((fc : Nat) : Int) ∧ fc ≤ cc ∧ mI M g 12 = ((cc : Nat) : Int) ∧ mI M g 13 = ((bc : Nat) : Int) ∧ cml M g fc (cc - fc) = s.2.2.2 ∧ nbx9 T + nbq9 s.2.2.2 = bc
/-- what trying a command comes to -/
def tcX (R : sl9) (T : xt9) (g V F : Nat) (ns W pl nq : Nat → Int) (sm : Nat → Nat → Prop) (N : Nat) (nms : List nm9) (k : Nat) (sgL : List Int) (r : Int) (M' : mM) : Prop := (r ≠ 0 ∧ R.1 = (r, mI M' g 10)) ∨ (r = 0 ∧ GQe M' g V nms k T R ∧ gst9 M' g V F ns W pl nq sm N nms k (fun v => sgL.getD v 0))
section GBJ
variable {G : mG} {d z g p O P K V F L cnt U Ab Be C Ab0 Be0 C0 n N c cn k u v cc bc bc0 mu cn0 fc : Nat} {M0 M M' MB : mM} {ns : Nat → Int} {sf ef : Nat → Nat} {F1 : Nat} {ns1 : Nat → Int} {sf1 ef1 : Nat → Nat} {W pl nq : Nat → Int} {sm : Nat → Nat → Prop} {nms : List nm9} {sgL : List Int} {R : sl9} {T : xt9} {zl : List (br9 × (Int × Int))} {S0 : List (List Int)} {cms : List sc9} {pr : Int}
theorem x_tc146 (hF : FMx G) (cx : gcx M0 g p O P L V F Ab0 Be0 ns sf ef W pl nq sm N n nms) (vo : VrO nms (mI M0 (p + 3)) (mI M0 (p + 4))) (hzn : zl.length = v - u) (hzl : ∀ b, b < v - u → ∃ x : br9, zl[b]? = some (x, (mI MB (g + 21) b, mI MB (g + 22) b)) ∧ mI M0 (p + 13) (u + b) = x.1 ∧ ∃ s2 : Nat, mI M0 (p + 15) (u + b) = ((s2 : Nat) : Int) ∧ SeC M0 O P L V W pl nq sm n ns ef nms x.2.2 s2) (hR0 : ∀ S B, flq9 (stpq W pl nq sm N nms V (mI M0 (p + 3)) (mI M0 (p + 4))) sgL (mI M0 (p + 10) c) ((mu : Nat) : Int) bc0 zl S0 [] = ((0, 0), S, B) → R = ((0, 0), S, pr, cms ++ [(c, ((mu : Nat) : Int), B)])) (hR1 : (flq9 (stpq W pl nq sm N nms V (mI M0 (p + 3)) (mI M0 (p + 4))) sgL (mI M0 (p + 10) c) ((mu : Nat) : Int) bc0 zl S0 []).1.1 ≠ 0 → R.1 = (flq9 (stpq W pl nq sm N nms V (mI M0 (p + 3)) (mI M0 (p + 4))) sgL (mI M0 (p + 10) c) ((mu : Nat) : Int) bc0 zl S0 []).1) (hpr : mI MB (g + 2) k = pr) (hxt : xtm MB g k = T) (hfc4 : mI MB (g + 4) k = ((fc : Nat) : Int)) (hfcc : fc ≤ cc) (hcml : cml MB g fc (cc - fc) = cms) (hnb : nbx9 T + nbq9 cms = bc0) (h5c : mI MB (g + 5) cc = ((c : Nat) : Int)) (hkn : k < cn0) (hc : c < cnt) (hcc2 : cc ≤ 4096) (hk : k < 512) (huv : u ≤ v ∧ v ≤ u + 8 ∧ v ≤ 480) (hmu : 1 ≤ mu ∧ mu < 1000000000) (hch : chz MB g (v - u)) (hd : ∀ b, b < v - u → (mI MB (g + 22) b) ∣ ((mu : Nat) : Int)) (hsum : shS MB g mu (v - u) = ((mu : Nat) : Int)) (h6 : mI MB (g + 6) cc = ((mu : Nat) : Int)) (h7 : mI MB (g + 7) cc = ((bc0 : Nat) : Int)) (hcc : mI MB g 12 = ((cc : Nat) : Int)) (h5t : 0 ≤ mI MB (g + 5) cc ∧ mI MB (g + 5) cc < 60) (hu : mI MB (p + 12) c = ((u : Nat) : Int)) (hv : mI MB (p + 12) (c + 1) = ((v : Nat) : Int)) (hccb : cc ≤ bc0) (hcm : ∀ j, j < cc → cmdG MB g cn0 bc0 j) (h70 : 0 < cc → mI MB (g + 7) 0 = 0) (h700 : cc = 0 → bc0 = 0) (hfc : ∀ j, j ≤ k → ∃ x y : Nat, mI MB (g + 4) j = ((x : Nat) : Int) ∧ mI MB (g + 4) (j + 1) = ((y : Nat) : Int) ∧ x ≤ y ∧ y ≤ cc) (hf0 : mI MB (g + 4) 0 = 0) (hgs : ∀ j, j < k → GS1 MB g j) (hgk : ∀ x y : Nat, mI MB (g + 4) k = ((x : Nat) : Int) → mI MB (g + 4) (k + 1) = ((y : Nat) : Int) → 0 ≤ mI MB (g + 3) k ∧ (mI MB (g + 3) k < ((y : Nat) : Int) - ((x : Nat) : Int) ∨ mI MB (g + 3) k = 0)) : ∀ (t b : Nat) (M : mM) (Ab Be C cn bc : Nat) (r : Int), v - u ≤ b + t → b ≤ v - u → i32 r → GX M0 z g p O P K V F1 ns1 sf1 ef1 L cnt Ab0 Be0 C0 M Ab Be C → flF MB g p bc0 M → (mI M g 0 = ((cn : Nat) : Int) ∧ cn0 ≤ cn ∧ cn ≤ 512 ∧ SLt M g cn) → mI M g 13 = ((bc : Nat) : Int) → bc0 ≤ bc → (bc ≤ 4096 ∧ bc ≤ bc0 + b) → (r = 0 → ipG M g cn bc0 bc (shS MB g mu b)) → 0 ≤ shS MB g mu b → (r = 0 → ∃ S B, flq9 (stpq W pl nq sm N nms V (mI M0 (p + 3)) (mI M0 (p + 4))) sgL (mI M0 (p + 10) c) ((mu : Nat) : Int) bc0 zl S0 [] = flq9 (stpq W pl nq sm N nms V (mI M0 (p + 3)) (mI M0 (p + 4))) sgL (mI M0 (p + 10) c) ((mu : Nat) : Int) bc0 (zl.drop b) S B ∧ SoO nms S ∧ gxe M g V cn S ∧ B = brl M g bc0 (bc - bc0) ∧ gst9 M g V F ns W pl nq sm N nms k (fun v => sgL.getD v 0)) → (r ≠ 0 → (flq9 (stpq W pl nq sm N nms V (mI M0 (p + 3)) (mI M0 (p + 4))) sgL (mI M0 (p + 10) c) ((mu : Nat) : Int) bc0 zl S0 []).1 = (r, mI M g 10)) → h_Ga_tryCommand_146 G (d + 5) g k c r ((v - u : Nat) : Int) b M (fun r M' => tcQ M0 z g p O P K V F1 ns1 sf1 ef1 L cnt Ab0 Be0 C0 MB k cn0 r M' ∧ tcX R T g V F ns W pl nq sm N nms k sgL r M') := by
  generalize hfq : flq9 (stpq W pl nq sm N nms V (mI M0 (p + 3)) (mI M0 (p + 4))) sgL (mI M0 (p + 10) c) ((mu : Nat) : Int) bc0 = fq at hR0 hR1 ⊢
  intro t
  have fin : ∀ {b : Nat} {M : mM} {Ab Be C cn bc : Nat} {r : Int}, (r = 0 → b = v - u) → i32 r → GX M0 z g p O P K V F1 ns1 sf1 ef1 L cnt Ab0 Be0 C0 M Ab Be C → flF MB g p bc0 M → (mI M g 0 = ((cn : Nat) : Int) ∧ cn0 ≤ cn ∧ cn ≤ 512 ∧ SLt M g cn) → mI M g 13 = ((bc : Nat) : Int) → bc0 ≤ bc → (bc ≤ 4096 ∧ bc ≤ bc0 + b) → (r = 0 → ipG M g cn bc0 bc (shS MB g mu b)) → (r = 0 → ∃ S B, fq zl S0 [] = fq (zl.drop b) S B ∧ SoO nms S ∧ gxe M g V cn S ∧ B = brl M g bc0 (bc - bc0) ∧ gst9 M g V F ns W pl nq sm N nms k (fun v => sgL.getD v 0)) → (r ≠ 0 → (fq zl S0 []).1 = (r, mI M g 10)) → mK M g = 7 ∧ i32 ((mI M g 12) + 1) ∧ ∀ M84, M84 = mUI M g 12 ((mI M g 12) + 1) → mK M84 (mR M84 g 7) = 30 ∧ ((0 : Int) ≤ mI M84 g 12 ∧ mI M84 g 12 < (mN M84 (mR M84 g 7) : Int)) ∧ ∀ M88, M88 = mUI M84 (mR M84 g 7) (Int.toNat (mI M84 g 12)) (mI M84 g 13) → mK M88 (mR M88 g 4) = 30 ∧ ((0 : Int) ≤ (k : Int) + 1 ∧ (k : Int) + 1 < (mN M88 (mR M88 g 4) : Int)) ∧ ∀ M92, M92 = mUI M88 (mR M88 g 4) (Int.toNat ((k : Int) + 1)) (mI M88 g 12) → tcQ M0 z g p O P K V F1 ns1 sf1 ef1 L cnt Ab0 Be0 C0 MB k cn0 r M92 ∧ tcX R T g V F ns W pl nq sm N nms k sgL r M92 := fun {b M Ab Be C cn bc r} hb ir hx fl hcn hbc hb0 hb4 hip hfr hfl => by
    obtain ⟨h1, h2, h3, h4, h5, -⟩ := id hx
    obtain ⟨g0, ⟨-, -, -, g4, -, -, g7, -⟩, ⟨-, -, -, k4, -, -, k7, -⟩, ⟨-, -, -, n4, -, -, n7, -⟩⟩ := id h2
    have V12 := h4.2.2.1.2
    obtain ⟨fl1, fl2, fl3, fl4, fl5, fl6⟩ := fl
    have ccM : mI M g 12 = ((cc : Nat) : Int) := by rw [fl1 12 (by decide) (by decide) (by decide)]; exact hcc
    rw [ccM]
    refine ⟨g0, ⟨by omega, by omega⟩, fun M84 e84 => ?_⟩
    have f84 : FI (fun x => x = g) M M84 := by rw [e84]; exact FI.ui rfl
    have c84 : mI M84 g 12 = ((cc + 1 : Nat) : Int) := by rw [mI_ui g 12 e84, if_pos ⟨rfl, rfl⟩]; omega
    have b84 : mI M84 g 13 = ((bc : Nat) : Int) := by rw [mI_ui g 13 e84, if_neg (fun t => absurd t.2 (by decide))]; exact hbc
    rw [f84.1, f84.2.1, f84.2.2.1, g7, n7, c84, b84, Int.toNat_natCast]
    refine ⟨k7, by omega, fun M88 e88 => ?_⟩
    have f88 : FI (fun x => x = g + 7) M84 M88 := by rw [e88]; exact FI.ui rfl
    rw [f88.1, f88.2.1, f88.2.2.1, f84.1, f84.2.1, f84.2.2.1, g4, n4, f88.2.2.2.2.2.2 g (show ¬ g = g + 7 by first | rfl | omega), c84, show Int.toNat ((k : Int) + 1) = k + 1 by first | rfl | omega]
    refine ⟨k4, by omega, fun M92 e92 => ?_⟩
    have f92 : FI (fun x => x = g + 4) M88 M92 := by rw [e92]; exact FI.ui rfl
    have ff : FI (fun x => x = g ∨ x = g + 7 ∨ x = g + 4) M M92 := ((f84.mono (fun _ y => Or.inl y)).trans (f88.mono (fun _ y => Or.inr (Or.inl y)))).trans (f92.mono (fun _ y => Or.inr (Or.inr y)))
    have o92 : mOk M92 := by rw [e92]; exact mOk_UI (by rw [e88]; exact mOk_UI (by rw [e84]; exact mOk_UI h1 ⟨by omega, by omega⟩) ⟨by omega, by omega⟩) ⟨by omega, by omega⟩
    have nb : ∀ x, x ≠ g → x ≠ g + 7 → x ≠ g + 4 → mI M92 x = mI M x := fun x a b c => ff.2.2.2.2.2.2 x (fun y => y.elim a (fun y => y.elim b c))
    have i92 : ∀ i, mI M92 g i = if i = 12 then ((cc + 1 : Nat) : Int) else mI M g i := fun i => by
      rw [f92.2.2.2.2.2.2 g (show ¬ g = g + 4 by first | rfl | omega), f88.2.2.2.2.2.2 g (show ¬ g = g + 7 by first | rfl | omega)]
      by_cases y : i = 12
      · rw [if_pos y, y]; exact c84
      · rw [if_neg y, mI_ui g i e84, if_neg (fun t => y t.2)]
    have t7 : ∀ i, mI M92 (g + 7) i = if i = cc + 1 then ((bc : Nat) : Int) else mI MB (g + 7) i := fun i => by
      rw [f92.2.2.2.2.2.2 _ (show ¬ g + 7 = g + 4 by first | rfl | omega), mI_ui _ i e88]
      by_cases y : i = cc + 1
      · rw [if_pos ⟨rfl, y⟩, if_pos y]
      · rw [if_neg (fun t => y t.2), if_neg y, f84.2.2.2.2.2.2 _ (show ¬ g + 7 = g by first | rfl | omega), fl2 7 (by omega) (by omega)]
    have t4 : ∀ i, mI M92 (g + 4) i = if i = k + 1 then ((cc + 1 : Nat) : Int) else mI MB (g + 4) i := fun i => by
      rw [mI_ui _ i e92]
      by_cases y : i = k + 1
      · rw [if_pos ⟨rfl, y⟩, if_pos y]
      · rw [if_neg (fun t => y t.2), if_neg y, f88.2.2.2.2.2.2 _ (show ¬ g + 4 = g + 7 by first | rfl | omega), f84.2.2.2.2.2.2 _ (show ¬ g + 4 = g by first | rfl | omega), fl2 4 (by omega) (by omega)]
    have e8 := nb (g + 8) (by omega) (by omega) (by omega)
    have e9 := nb (g + 9) (by omega) (by omega) (by omega)
    have e6 : mI M92 (g + 6) = mI MB (g + 6) := by rw [nb (g + 6) (by omega) (by omega) (by omega), fl2 6 (by omega) (by omega)]
    have e5 : mI M92 (g + 5) = mI MB (g + 5) := by rw [nb (g + 5) (by omega) (by omega) (by omega), fl2 5 (by omega) (by omega)]
    have e2 : mI M92 (g + 2) = mI MB (g + 2) := by rw [nb (g + 2) (by omega) (by omega) (by omega), fl2 2 (by omega) (by omega)]
    have e3 : mI M92 (g + 3) = mI MB (g + 3) := by rw [nb (g + 3) (by omega) (by omega) (by omega), fl2 3 (by omega) (by omega)]
    refine ⟨⟨ir, ⟨Ab, Be, C, hx.fi o92 (ff.mono (fun x y => Or.inl (by have y' : x = g ∨ x = g + 7 ∨ x = g + 4 := y; omega)))⟩, by rw [nb _ (by omega) (by omega) (by omega)]; exact fl4, fun r0 => ?_⟩, ?_⟩
    · obtain ⟨ip1, ip2, ip3, ip4⟩ := hip r0
      rw [hb r0, hsum] at ip4
      have bcb : bc0 < bc := by
        by_cases y : bc0 < bc
        · exact y
        · rw [show bc - bc0 = 0 by first | rfl | omega] at ip4
          have : (0 : Int) = ((mu : Nat) : Int) := ip4
          omega
      have b8 : bc ≤ bc0 + 8 := by
        have t1 := hb r0
        have t2 := hb4.2
        omega
      refine ⟨cn, cc + 1, bc, ⟨by rw [i92, if_neg (by decide)]; exact hcn.1, hcn.2.1, hcn.2.2.1, fun i hi => by rw [nb _ (by omega) (by omega) (by omega)]; exact hcn.2.2.2 i hi⟩, by rw [i92, if_pos rfl], by rw [i92, if_neg (by decide)]; exact hbc, ⟨by omega, hb4.1, fun j hj => ?_, fun _ => ⟨?_, by rw [t7, if_pos rfl]⟩, fun y => absurd y (by omega), fun j hj => ?_, by rw [t4, if_neg (by omega)]; exact hf0, by rw [t4, if_pos rfl]⟩, fun j hj => ?_⟩
      · by_cases y : j = cc
        · subst y
          refine ⟨bc0, bc, mu, by rw [t7, if_neg (by omega)]; exact h7, by rw [t7, if_pos rfl], ⟨bcb, b8⟩, Nat.le_refl _, fun i a b => by rw [e8, e9]; exact ip3 i a b, by rw [e6]; exact h6, hmu.1, hmu.2, by rw [wsm_cg (M := M) _ (fun i _ _ => by rw [e9])]; exact ip4, by rw [e5]; exact h5t⟩
        · exact (hcm j (by omega)).cg ⟨by rw [t7, if_neg (by omega)], by rw [t7, if_neg (by omega)]⟩ (by rw [e6]) (by rw [e5]) (fun i hi => ⟨by rw [e8]; exact (fl6 i hi).1, by rw [e9]; exact (fl6 i hi).2⟩) hcn.2.1 hb0
      · rw [t7, if_neg (by omega)]
        by_cases y : 0 < cc
        · exact h70 y
        · have c0 : cc = 0 := by omega
          rw [c0] at h7
          rw [h7, h700 c0]
          rfl
      · by_cases y : j = k
        · subst y
          obtain ⟨x, y', f1, f2, f3, f4⟩ := hfc j (Nat.le_refl _)
          exact ⟨x, cc + 1, by rw [t4, if_neg (by omega)]; exact f1, by rw [t4, if_pos rfl], by omega, Nat.le_refl _⟩
        · obtain ⟨x, y', f1, f2, f3, f4⟩ := hfc j hj
          exact ⟨x, y', by rw [t4, if_neg (by omega)]; exact f1, by rw [t4, if_neg (by omega)]; exact f2, f3, by omega⟩
      · by_cases y : j = k
        · subst y
          intro x1 y1 q1 q2
          rw [t4, if_neg (by omega)] at q1
          rw [t4, if_pos rfl] at q2
          obtain ⟨x0, y0, f1, f2, f3, f4⟩ := hfc j (Nat.le_refl _)
          have g1 := hgk x0 y0 f1 f2
          rw [f1] at q1
          rw [e3]
          clear hip hgs hgk hfc hcm hch hd hfr hfl hzl hR0 hR1
          exact ⟨⟨g1.1, Or.inl (by omega)⟩, fun _ => by omega⟩
        · exact (hgs j (by omega)).cg (by rw [e2]) (by rw [e3]) (by rw [t4, if_neg (by omega)]) (by rw [t4, if_neg (by omega)])
    · by_cases r0 : r = 0
      · obtain ⟨S, B, q1, q2, q3, q4, q5⟩ := hfr r0
        rw [hb r0, List.drop_eq_nil_of_le (by omega), ← hfq] at q1
        have q1 : fq zl S0 [] = ((0, 0), S, B) := by
          rw [hfq] at q1
          rw [q1, ← hfq]
          rfl
        have cmo : ∀ c', c' < cc → cmm M92 g c' = cmm MB g c' := fun c' hc' => cmm_cg (hcm c' hc') ⟨by rw [t7, if_neg (by omega)], by rw [t7, if_neg (by omega)]⟩ (by rw [e6]) (by rw [e5]) (fun i hi => ⟨by rw [e8]; exact (fl6 i hi).1, by rw [e9]; exact (fl6 i hi).2⟩)
        have cmn : cmm M92 g cc = (c, ((mu : Nat) : Int), B) := by
          unfold cmm
          rw [e5, h5c, e6, h6, t7, if_neg (by omega), t7, if_pos rfl, h7, Int.toNat_natCast, Int.toNat_natCast, Int.toNat_natCast, q4, brl_cg (M' := M92) (M := M) _ (fun i _ _ => ⟨by rw [e8], by rw [e9]⟩)]
        have cle : cml M92 g fc (cc + 1 - fc) = cms ++ [(c, ((mu : Nat) : Int), B)] := by
          rw [show cc + 1 - fc = (cc - fc) + 1 by first | rfl | omega]
          show cml M92 g fc (cc - fc) ++ [cmm M92 g (fc + (cc - fc))] = _
          rw [show fc + (cc - fc) = cc by first | rfl | omega, cmn, cml_cg (M' := M92) (M := MB) _ (fun c' c1 c2 => cmo c' (by omega)), hcml]
        rw [hR0 S B q1]
        refine Or.inr ⟨r0, ⟨rfl, q2, ⟨cn, q3.cg V12 (by rw [i92, if_neg (by decide)]) (nb _ (by omega) (by omega) (by omega)) (nb _ (by omega) (by omega) (by omega))⟩, ?_, by rw [e2]; exact hpr, fc, cc + 1, bc, by rw [t4, if_neg (by omega)]; exact hfc4, by omega, by rw [i92, if_pos rfl], by rw [i92, if_neg (by decide)]; exact hbc, cle, ?_⟩, q5.cg (fun i _ => by rw [nb _ (by omega) (by omega) (by omega)]) (fun v _ => by rw [nb _ (by omega) (by omega) (by omega)]) (nb _ (by omega) (by omega) (by omega)) (nb _ (by omega) (by omega) (by omega)) (nb _ (by omega) (by omega) (by omega))⟩
        · rw [← hxt]
          refine xtm_cg (cc := cc) k (fun j _ => by rw [e2]) (fun j hj => by rw [t4, if_neg (by omega)]) (fun j hj => ?_) cmo
          obtain ⟨x, y', f1, f2, f3, f4⟩ := hfc j (by omega)
          rw [f2, Int.toNat_natCast]
          exact f4
        · show nbx9 T + nbq9 (cms ++ [(c, ((mu : Nat) : Int), B)]) = bc
          rw [nbq_app]
          show nbx9 T + (nbq9 cms + (B.length + 0)) = bc
          rw [q4, brl_len]
          omega
      · refine Or.inl ⟨r0, ?_⟩
        have q := hfl r0
        rw [hR1 (by rw [q]; exact r0), q, i92, if_neg (by decide)]
  induction t with
  | zero =>
    intro b M Ab Be C cn bc r ht hb ir hx fl hcn hbc hb0 hb4 hip hs0 hfr hfl
    have c60 := hx.2.2.2.1.2.2.2.2.1.2
    exact k_Ga_tryCommand_146 hx.1 (i32s (by omega) (by omega)) (i32s (by omega) (by omega)) ir (i32s (by omega) (by omega)) (i32s (by omega) (by omega)) ⟨fun _ => fin (fun _ => by omega) ir hx fl hcn hbc hb0 hb4 hip hfr hfl, fun y => absurd (Or.inl (by omega)) y⟩
  | succ t ih =>
    intro b M Ab Be C cn bc r ht hb ir hx fl hcn hbc hb0 hb4 hip hs0 hfr hfl
    have c60 := hx.2.2.2.1.2.2.2.2.1.2
    refine k_Ga_tryCommand_146 hx.1 (i32s (by omega) (by omega)) (i32s (by omega) (by omega)) ir (i32s (by omega) (by omega)) (i32s (by omega) (by omega)) ⟨fun y => fin (fun r0 => ?_) ir hx fl hcn hbc hb0 hb4 hip hfr hfl, fun y => ?_⟩
    · rcases y with y | y
      · omega
      · exact absurd r0 y
    have r0 : r = 0 := Classical.byContradiction (fun t => y (Or.inr t))
    have bn : b < v - u := by
      by_cases t : ((v - u : Nat) : Int) ≤ b
      · exact absurd (Or.inl t) y
      · omega
    subst r0
    obtain ⟨S, B, z1, z2, z3, z4, z5⟩ := hfr rfl
    obtain ⟨h1, h2, h3, h4, h5, -⟩ := id hx
    obtain ⟨g0, ⟨-, -, -, -, -, g6, -, -, -, -, -, g17, g18⟩, ⟨-, -, -, -, -, k6, -, -, -, -, k21, k22⟩, ⟨-, -, -, -, -, n6, -, -, -, -, n21, n22⟩⟩ := id h2
    have p16 := h4.1.2.2.2.2.2.2.1.2.2.2.2.2.2.2.2.2.1
    have kp16 := h4.1.2.2.2.2.2.2.2.1.2.2.2.2.2.2.2.2.2.1
    have np16 := h4.1.2.2.2.2.2.2.2.2.2.2.2.2.2.2.2.2.2.1
    have fl0 := fl
    obtain ⟨fl1, fl2, ⟨fl3, fl3'⟩, fl4, fl5, fl6⟩ := fl
    have ccM : mI M g 12 = ((cc : Nat) : Int) := by rw [fl1 12 (by decide) (by decide) (by decide)]; exact hcc
    have e1 : shS MB g mu (b + 1) = shS MB g mu b + Int.tdiv mu (mI MB (g + 22) b) * mI MB (g + 21) b := rfl
    obtain ⟨sh1, sh2⟩ := share_ok hch hd hmu.1 bn
    have shm := shS_mono hch hd hmu.1 (v - u - (b + 1)) (b + 1) (by omega) (by rw [e1]; omega)
    rw [hsum, e1] at shm
    obtain ⟨bb1, bb2, bb3, bb4⟩ := hch b bn
    obtain ⟨x, zx1, zx2, s2, zx3, zx4⟩ := hzl b bn
    have hdr : zl.drop b = (x, (mI MB (g + 21) b, mI MB (g + 22) b)) :: zl.drop (b + 1) := by
      rw [List.drop_eq_getElem_cons (by omega)]
      rw [List.getElem?_eq_getElem (by omega)] at zx1
      rw [Option.some.inj zx1]
    rw [hdr] at z1
    rw [g17, n21, Int.toNat_natCast, fl3, h5.1, p16, np16, g6, n6, g18, n22, ccM, Int.toNat_natCast, Int.toNat_natCast, fl2 6 (by omega) (by omega), h6, fl3', fl5 12 (by omega), hu]
    refine ⟨g0, k21, by omega, fun y0 => ?_, fun y0 => ⟨h4.1.1, kp16, by omega, k6, by omega, k22, by omega, by omega, by omega, ?_⟩⟩
    · refine k_Ga_tryCommand_212 h1 (i32s (by omega) (by omega)) (i32s (by omega) (by omega)) ir (i32s (by omega) (by omega)) (i32s (by omega) (by omega)) ?_
      rw [show ((b : Int) + 1) = ((b + 1 : Nat) : Int) by first | rfl | omega]
      have e2 : shS MB g mu (b + 1) = shS MB g mu b := by rw [e1, y0]; omega
      exact ih (b + 1) M Ab Be C cn bc 0 (by omega) (by omega) ir hx fl0 hcn hbc hb0 ⟨hb4.1, by omega⟩ (fun t => by rw [e2]; exact hip t) (by rw [e2]; exact hs0) (fun _ => ⟨S, B, by rw [z1, ← hfq, flq_0 y0], z2, z3, z4, z5⟩) (fun t => absurd rfl t)
    · have h7M : mI M (g + 7) cc = ((bc0 : Nat) : Int) := by rw [fl2 7 (by omega) (by omega)]; exact h7
      rw [show ((u : Nat) : Int) + (b : Int) = ((u + b : Nat) : Int) by first | rfl | omega]
      refine (x_Ga_follow (m := ((mu : Nat) : Int)) (x := (x, (mI MB (g + 21) b, mI MB (g + 22) b))) hF cx vo hx z5 (by omega) z2 z3 z4 hc hcn.2.2.1 hbc (hip rfl) y0 (by rw [Int.tdiv_eq_ediv_of_nonneg (by omega)]) (sh2 y0) (by omega) ccM hcc2 h7M (by omega) zx2 ⟨s2, zx3, zx4⟩).mono (fun r' M' q => ?_)
      rw [hfq] at q
      obtain ⟨⟨w1, w2, ⟨A', B', C', w3⟩, cn', bc', w4, w5, w6, w7, w8⟩, q⟩ := q
      refine ⟨w1, w3.1, k_Ga_tryCommand_212 w3.1 (i32s (by omega) (by omega)) (i32s (by omega) (by omega)) w1 (i32s (by omega) (by omega)) (i32s (by omega) (by omega)) ?_⟩
      rw [show ((b : Int) + 1) = ((b + 1 : Nat) : Int) by first | rfl | omega]
      refine ih (b + 1) M' A' B' C' cn' bc' r' (by omega) (by omega) w1 w3 (fl0.trans w2) ⟨w4.1, by omega, w4.2.2.1, w4.2.2.2⟩ w5 w6 ⟨w7.1, by omega⟩ (fun t => by rw [e1]; exact w8 t) (by rw [e1]; omega) (fun t => ?_) (fun t => ?_)
      · obtain ⟨-, S', B'', cn2, bc2, v1, v2, v3, v4, v5, v6⟩ := q.resolve_left (fun a => a.1 t)
        have ec : cn2 = cn' := by have a := v3.1; rw [w4.1] at a; omega
        have eb : bc2 = bc' := by rw [w5] at v4; omega
        subst ec
        subst eb
        exact ⟨S', B'', by rw [z1, v1], v2, v3, v5.symm, v6⟩
      · obtain ⟨-, v1⟩ := q.resolve_right (fun a => t a.1)
        rw [z1, v1]
end GBJ
end
section
/-! The class's game, exactly: tryCommand, the whole. -/
section GBK
variable {ev : List Int → Nat → Nat → vrs} {stp : List Int → List (Nat × Nat × Nat × Nat) → (Int × Int) × List Int} {sg : List Int} {nb c : Nat} {cm : cm9} {s : sl9}
theorem tcq_f (h : (ev sg cm.2.2.1.1 cm.2.2.1.2).1 ≠ 0) : tcq9 ev stp sg nb c cm s = (((ev sg cm.2.2.1.1 cm.2.2.1.2).1, (ev sg cm.2.2.1.1 cm.2.2.1.2).2.1), s.2) := if_pos h
theorem tcq_0 (h : (ev sg cm.2.2.1.1 cm.2.2.1.2).1 = 0) (h0 : (ev sg cm.2.2.1.1 cm.2.2.1.2).2.1 = 0) : tcq9 ev stp sg nb c cm s = s := (if_neg (fun u => u h)).trans (if_pos h0)
theorem tcq_m (h : (ev sg cm.2.2.1.1 cm.2.2.1.2).1 = 0) (h0 : (ev sg cm.2.2.1.1 cm.2.2.1.2).2.1 ≠ 0) (h1 : s.2.2.1 ≠ 0 ∧ s.2.2.1 ≠ cm.1) : tcq9 ev stp sg nb c cm s = ((13, cm.2.1), s.2) := (if_neg (fun u => u h)).trans ((if_neg h0).trans (if_pos h1))
theorem tcq_c (h : (ev sg cm.2.2.1.1 cm.2.2.1.2).1 = 0) (h0 : (ev sg cm.2.2.1.1 cm.2.2.1.2).2.1 ≠ 0) (h1 : ¬ (s.2.2.1 ≠ 0 ∧ s.2.2.1 ≠ cm.1)) (h2 : (chq9 ev sg cm.2.2.2).1.1 ≠ 0) : tcq9 ev stp sg nb c cm s = ((chq9 ev sg cm.2.2.2).1, s.2) := (if_neg (fun u => u h)).trans ((if_neg h0).trans ((if_neg h1).trans (if_pos h2)))
theorem tcq_u (h : (ev sg cm.2.2.1.1 cm.2.2.1.2).1 = 0) (h0 : (ev sg cm.2.2.1.1 cm.2.2.1.2).2.1 ≠ 0) (h1 : ¬ (s.2.2.1 ≠ 0 ∧ s.2.2.1 ≠ cm.1)) (h2 : (chq9 ev sg cm.2.2.2).1.1 = 0) (h3 : muq9 (chq9 ev sg cm.2.2.2).2 1 = 0) : tcq9 ev stp sg nb c cm s = ((6, cm.2.1), s.2) := (if_neg (fun u => u h)).trans ((if_neg h0).trans ((if_neg h1).trans ((if_neg (fun u => u h2)).trans (if_pos h3))))
theorem tcq_s (h : (ev sg cm.2.2.1.1 cm.2.2.1.2).1 = 0) (h0 : (ev sg cm.2.2.1.1 cm.2.2.1.2).2.1 ≠ 0) (h1 : ¬ (s.2.2.1 ≠ 0 ∧ s.2.2.1 ≠ cm.1)) (h2 : (chq9 ev sg cm.2.2.2).1.1 = 0) (h3 : muq9 (chq9 ev sg cm.2.2.2).2 1 ≠ 0) (h4 : smq9 (muq9 (chq9 ev sg cm.2.2.2).2 1) (chq9 ev sg cm.2.2.2).2 ≠ muq9 (chq9 ev sg cm.2.2.2).2 1) : tcq9 ev stp sg nb c cm s = ((11, cm.2.1), s.2) := (if_neg (fun u => u h)).trans ((if_neg h0).trans ((if_neg h1).trans ((if_neg (fun u => u h2)).trans ((if_neg h3).trans (if_pos h4)))))
theorem tcq_e (h : (ev sg cm.2.2.1.1 cm.2.2.1.2).1 = 0) (h0 : (ev sg cm.2.2.1.1 cm.2.2.1.2).2.1 ≠ 0) (h1 : ¬ (s.2.2.1 ≠ 0 ∧ s.2.2.1 ≠ cm.1)) (h2 : (chq9 ev sg cm.2.2.2).1.1 = 0) (h3 : muq9 (chq9 ev sg cm.2.2.2).2 1 ≠ 0) (h4 : smq9 (muq9 (chq9 ev sg cm.2.2.2).2 1) (chq9 ev sg cm.2.2.2).2 = muq9 (chq9 ev sg cm.2.2.2).2 1) {fl : (Int × Int) × List (List Int) × List (Nat × Int)} (hf : flq9 stp sg cm.2.1 (muq9 (chq9 ev sg cm.2.2.2).2 1) (nb + nbq9 s.2.2.2) (cm.2.2.2.zip (chq9 ev sg cm.2.2.2).2) s.2.1 [] = fl) : tcq9 ev stp sg nb c cm s = (fl.1, fl.2.1, cm.1, s.2.2.2 ++ [(c, muq9 (chq9 ev sg cm.2.2.2).2 1, fl.2.2)]) := by
  rw [← hf]
  exact (if_neg (fun u => u h)).trans ((if_neg h0).trans ((if_neg h1).trans ((if_neg (fun u => u h2)).trans ((if_neg h3).trans (if_neg (fun u => u h4))))))
end GBK
section GBL
variable {G : mG} {d z g p O P K V F L cnt U Ab Be C Ab0 Be0 C0 n N c cn k u v cc bc bc0 mu cn0 fc a : Nat} {M0 M M' MB : mM} {ns : Nat → Int} {sf ef : Nat → Nat} {F1 : Nat} {ns1 : Nat → Int} {sf1 ef1 : Nat → Nat} {W pl nq : Nat → Int} {sm : Nat → Nat → Prop} {nms : List nm9} {sgL : List Int} {R s : sl9} {T : xt9} {cm : cm9}
theorem cmm_eq (e : ∀ i, 5 ≤ i → i ≤ 9 → mI M' (g + i) = mI M (g + i)) : cmm M' g c = cmm M g c := by
  unfold cmm
  rw [e 5 (by omega) (by omega), e 6 (by omega) (by omega), e 7 (by omega) (by omega), brl_cg (M' := M') (M := M) _ (fun i _ _ => ⟨by rw [e 8 (by omega) (by omega)], by rw [e 9 (by omega) (by omega)]⟩)]
theorem xtm_eq (e : ∀ i, 2 ≤ i → i ≤ 9 → mI M' (g + i) = mI M (g + i)) : ∀ k, xtm M' g k = xtm M g k
  | 0 => rfl
  | k + 1 => by
    show xtm M' g k ++ [stm M' g k] = xtm M g k ++ [stm M g k]
    rw [xtm_eq e k]
    unfold stm
    rw [e 2 (by omega) (by omega), e 4 (by omega) (by omega), cml_cg (M' := M') (M := M) _ (fun c _ _ => cmm_eq (fun i i5 i9 => e i (by omega) i9))]
theorem GQe.eq (h : GQe M g V nms k T s) (hV : V ≤ 12) (e : ∀ i, i ≤ 9 ∨ (20 ≤ i ∧ i ≤ 22) → mI M' (g + i) = mI M (g + i)) : GQe M' g V nms k T s := by
  have e0 := e 0 (by omega)
  rw [Nat.add_zero] at e0
  have e29 : ∀ i, 2 ≤ i → i ≤ 9 → mI M' (g + i) = mI M (g + i) := fun i _ i9 => e i (by omega)
  obtain ⟨h1, h2, ⟨cn, h3⟩, h4, h5, fc, cc, bc, h6, h7, h8, h9, h10, h11⟩ := h
  exact ⟨h1, h2, ⟨cn, h3.cg hV (by rw [e0]) (e 1 (by omega)) (e 20 (by omega))⟩, by rw [xtm_eq e29]; exact h4, by rw [e 2 (by omega)]; exact h5, fc, cc, bc, by rw [e 4 (by omega)]; exact h6, h7, by rw [e0]; exact h8, by rw [e0]; exact h9, by rw [cml_cg (M' := M') (M := M) _ (fun c _ _ => cmm_eq (fun i i5 i9 => e29 i (by omega) i9))]; exact h10, h11⟩
theorem x_tc_bad {l5 l6 r : Int} (i5 : i32 l5) (i6 : i32 l6) (hx : GX M0 z g p O P K V F1 ns1 sf1 ef1 L cnt Ab0 Be0 C0 M Ab Be C) (hk : k < 512) (hc : c < 60) (hcc : mI M g 12 = ((cc : Nat) : Int)) (hcc2 : cc ≤ 4096) (hs : mI M (g + 10) 9 = mI MB (g + 10) 9) (ir : i32 r) (hr : r ≠ 0) (hR : R.1 = (r, mI M g 10)) : h_Ga_tryCommand_146 G (d + 5) g k c r l5 l6 M (fun r M' => tcQ M0 z g p O P K V F1 ns1 sf1 ef1 L cnt Ab0 Be0 C0 MB k cn r M' ∧ tcX R T g V F ns W pl nq sm N nms k sgL r M') := by
  obtain ⟨h1, h2, h3, h4, h5, -⟩ := id hx
  obtain ⟨g0, ⟨-, -, -, g4, -, -, g7, -⟩, ⟨-, -, -, k4, -, -, k7, -⟩, ⟨-, -, -, n4, -, -, n7, -⟩⟩ := id h2
  refine k_Ga_tryCommand_146 h1 (i32s (by omega) (by omega)) (i32s (by omega) (by omega)) ir i5 i6 ⟨fun _ => ?_, fun y => absurd (Or.inr hr) y⟩
  rw [hcc]
  refine ⟨g0, ⟨by omega, by omega⟩, fun M84 e84 => ?_⟩
  have f84 : FI (fun x => x = g) M M84 := by rw [e84]; exact FI.ui rfl
  have c84 : mI M84 g 12 = ((cc + 1 : Nat) : Int) := by rw [mI_ui g 12 e84, if_pos ⟨rfl, rfl⟩]; omega
  have o84 : mOk M84 := by rw [e84]; exact mOk_UI h1 ⟨by omega, by omega⟩
  rw [f84.1, f84.2.1, f84.2.2.1, g7, n7, c84, Int.toNat_natCast]
  refine ⟨k7, by omega, fun M88 e88 => ?_⟩
  have f88 : FI (fun x => x = g + 7) M84 M88 := by rw [e88]; exact FI.ui rfl
  have o88 : mOk M88 := by rw [e88]; exact mOk_UI o84 (o84 _ _).1
  rw [f88.1, f88.2.1, f88.2.2.1, f84.1, f84.2.1, f84.2.2.1, g4, n4, show Int.toNat ((k : Int) + 1) = k + 1 by first | rfl | omega]
  refine ⟨k4, by omega, fun M92 e92 => ?_⟩
  have f92 : FI (fun x => x = g + 4) M88 M92 := by rw [e92]; exact FI.ui rfl
  have ff : FI (fun x => x = g ∨ x = g + 7 ∨ x = g + 4) M M92 := ((f84.mono (fun _ y => Or.inl y)).trans (f88.mono (fun _ y => Or.inr (Or.inl y)))).trans (f92.mono (fun _ y => Or.inr (Or.inr y)))
  have o92 : mOk M92 := by rw [e92]; exact mOk_UI o88 (o88 _ _).1
  have i10 : mI M92 g 10 = mI M g 10 := by
    rw [f92.2.2.2.2.2.2 g (show ¬ g = g + 4 by first | rfl | omega), f88.2.2.2.2.2.2 g (show ¬ g = g + 7 by first | rfl | omega), mI_ui g 10 e84, if_neg (fun t => absurd t.2 (by decide))]
  refine ⟨⟨ir, ⟨Ab, Be, C, hx.fi o92 (ff.mono (fun x y => Or.inl (by have y' : x = g ∨ x = g + 7 ∨ x = g + 4 := y; omega)))⟩, ?_, fun t => absurd t hr⟩, Or.inl ⟨hr, by rw [i10]; exact hR⟩⟩
  rw [ff.2.2.2.2.2.2 (g + 10) (fun y => by have y' : g + 10 = g ∨ g + 10 = g + 7 ∨ g + 10 = g + 4 := y; omega)]
  exact hs
theorem x_Ga_tryCommand (hF : FMx G) (cx : gcx M0 g p O P L V F Ab0 Be0 ns sf ef W pl nq sm N n nms) (vo : VrO nms (mI M0 (p + 3)) (mI M0 (p + 4))) (cC : CmC M0 p O P L V W pl nq sm n ns ef nms c cm) (hx : GX M0 z g p O P K V F1 ns1 sf1 ef1 L cnt Ab0 Be0 C0 M Ab Be C) (st : gst9 M g V F ns W pl nq sm N nms k (fun v => sgL.getD v 0)) (qe : GQe M g V nms k T s) (hkn : k < cn) (hc : c < cnt) (hk : k < 512) (hq : GQ M g cn k cc bc) (hgs : GS M g k) : Ci G y_Ga_tryCommand (d + 6) [vr g, vi k, vi c] M (fun r M' => tcQ M0 z g p O P K V F1 ns1 sf1 ef1 L cnt Ab0 Be0 C0 M k cn r M' ∧ tcX (tcq9 (evq W pl nq sm N nms) (stpq W pl nq sm N nms V (mI M0 (p + 3)) (mI M0 (p + 4))) sgL (nbx9 T) c cm s) T g V F ns W pl nq sm N nms k sgL r M') := by
  obtain ⟨h1, h2, h3, h4, h5, -⟩ := id hx
  obtain ⟨g0, ⟨-, -, -, -, -, -, -, -, -, g15, -⟩, -, -⟩ := id h2
  have c60 := h4.2.2.2.2.1.2
  have V12 := h4.2.2.1.2
  obtain ⟨pl1, pl2, pl3, ⟨sg, e3, ru⟩, u, v, u1, u2, ⟨u3, u4, u5⟩, hlen, hbr⟩ := cC
  have iu9 : i32 ((u : Nat) : Int) := i32s (by omega) (by omega)
  have ivu9 : i32 ((v - u : Nat) : Int) := i32s (by omega) (by omega)
  have evu9 : ((v : Nat) : Int) - ((u : Nat) : Int) = ((v - u : Nat) : Int) := by omega
  have c609 : c < 60 := by omega
  have p15 := h4.1.2.2.2.2.2.2.1.2.2.2.2.2.2.2.2.1
  have kp15 := h4.1.2.2.2.2.2.2.2.1.2.2.2.2.2.2.2.2.1
  have np15 := h4.1.2.2.2.2.2.2.2.2.2.2.2.2.2.2.2.2.1
  refine k_Ga_tryCommand h1 (i32s (by omega) (by omega)) (i32s (by omega) (by omega)) ?_
  rw [h5.1, p15, np15, g15, Int.toNat_natCast, gx_p hx 11 (by omega), e3]
  refine ⟨g0, h4.1.1, kp15, by omega, h3.1, (x_Ga_run (d := d + 1) hF hx cx st ru).mono (fun x7 M6 kk => ?_)⟩
  obtain ⟨⟨i7, o6, hx7, A6, B6, C6, x6, f6, s6, -⟩, rx, st6⟩ := kk
  have rx : rnx (g + 10) (evq W pl nq sm N nms sgL cm.2.2.1.1 cm.2.2.1.2) x7 M6 := rx
  obtain ⟨ce1, ce2⟩ := ga_ce hx f6
  have q6 := hq.eq ce1
  have gs6 := hgs.eq ce1
  have qe6 := qe.eq V12 ce1
  clear hq ce1 ce2 h2 h3 h4 h5 p15 kp15 np15 e3 g0 g15 qe
  obtain ⟨-, l2, l3, l4, l5, -⟩ := id x6
  obtain ⟨m0, ⟨-, m2, -, m4, m5, m6, m7, -, -, m15, -⟩, ⟨-, mk2, -, mk4, mk5, mk6, mk7, -⟩, ⟨-, mn2, -, mn4, mn5, mn6, mn7, -⟩⟩ := id l2
  have mA := l3.2.1.2.2.1
  have kA := l3.2.2.1.2.2.1
  have nA := l3.2.2.2.1.2.1
  have c64 := l3.2.2.2.2.2.2.2.1
  have p13 := l4.1.2.2.2.2.2.2.1.2.2.2.2.2.2.1
  have kp13 := l4.1.2.2.2.2.2.2.2.1.2.2.2.2.2.2.1
  have np13 := l4.1.2.2.2.2.2.2.2.2.2.2.2.2.2.2.1
  have p14 := l4.1.2.2.2.2.2.2.1.2.2.2.2.2.2.2.1
  have kp14 := l4.1.2.2.2.2.2.2.2.1.2.2.2.2.2.2.2.1
  have np14 := l4.1.2.2.2.2.2.2.2.2.2.2.2.2.2.2.2.1
  have off := ga_off x6
  have bad : ∀ {r : Int} {M' : mM}, i32 r → r ≠ 0 → plQ M6 g M' → tcQ M0 z g p O P K V F1 ns1 sf1 ef1 L cnt Ab0 Be0 C0 M k cn r M' := fun {r M'} ir hr q => by
    obtain ⟨q1, q2, q3⟩ := q
    exact ⟨ir, ⟨A6, B6, C6, x6.fi q1 (q2.mono (fun x y => Or.inl (by have y' : x = g := y; omega)))⟩, by rw [q2.2.2.2.2.2.2 _ (show ¬ g + 10 = g by first | rfl | omega)]; exact s6, fun t => absurd t hr⟩
  have k6 := qe6.2.2.2.2.1
  have ep9 : mI M6 (p + 9) c = cm.1 := by rw [gx_p x6 9 (by omega)]; exact pl1
  rw [m15, mA, nA, l5.1, p13, np13, m2, mn2, Int.toNat_natCast, p14, np14, k6, ep9]
  refine ⟨i7, o6, fun y => ⟨m0, (x_Ga_machineFault o6 m0 m15 l3.1).mono (fun r M' q => ?_)⟩, fun y => ?_⟩
  · obtain ⟨-, rx1, rx2, rx3⟩ := rx.resolve_right (fun u => by have := u.1; omega)
    obtain ⟨q1, q2, q3, q4⟩ := q
    have r0 : r ≠ 0 := by rw [q2, rx2]; exact rx1
    refine ⟨q1, q3.1, bad q1 r0 q3, Or.inl ⟨r0, ?_⟩⟩
    rw [tcq_f rx1, q2, rx2, q4, rx3]
  obtain ⟨-, rx1, rx2, -⟩ := rx.resolve_left (fun u => y u.1)
  rw [mA] at rx2
  refine ⟨m0, l3.1, kA, ⟨by omega, by omega⟩, fun y0 => ?_, fun y0 => ⟨l4.1.1, kp13, by omega, mk2, by omega, fun _ => by omega, fun y1 => ⟨by omega, fun M47 e47 => ?_⟩, fun y1 => ⟨kp14, by omega, ?_⟩⟩⟩
  · rw [tcq_0 rx1 (by rw [← rx2]; exact y0)]
    exact ⟨⟨⟨by decide, by decide⟩, ⟨A6, B6, C6, x6⟩, s6, fun _ => ⟨cn, cc, bc, ⟨q6.1.1, Nat.le_refl _, q6.1.2.1, q6.1.2.2⟩, q6.2.1, q6.2.2.1, q6.2.2.2, gs6⟩⟩, Or.inr ⟨rfl, qe6, st6⟩⟩
  · have ev0 : (evq W pl nq sm N nms sgL cm.2.2.1.1 cm.2.2.1.2).2.1 ≠ 0 := by rw [← rx2]; exact y0
    have mix : ¬ (s.2.2.1 ≠ 0 ∧ s.2.2.1 ≠ cm.1) := fun t => y1.elim t.1 t.2
    have f47 : FI (fun x => x = g + 2) M6 M47 := by rw [e47]; exact FI.ui rfl
    have o47 : mOk M47 := by rw [e47]; exact mOk_UI o6 (by rw [← ep9]; exact (o6 _ _).1)
    obtain ⟨⟨q1, q2, q3⟩, q4, q5, t1, t2, t3, t4, t5, t6, t7, t8⟩ := q6
    have g12 : mI M47 g 12 = ((cc : Nat) : Int) := by rw [f47.2.2.2.2.2.2 g (show ¬ g = g + 2 by first | rfl | omega)]; exact q4
    rw [f47.1, f47.2.1, f47.2.2.1, m5, mn5, g12, Int.toNat_natCast]
    refine ⟨mk5, by omega, fun M51 e51 => ?_⟩
    have f51 : FI (fun x => x = g + 5) M47 M51 := by rw [e51]; exact FI.ui rfl
    have r51 : mI M51 g = mI M6 g := by rw [f51.2.2.2.2.2.2 g (show ¬ g = g + 5 by first | rfl | omega), f47.2.2.2.2.2.2 g (show ¬ g = g + 2 by first | rfl | omega)]
    rw [f51.1, f51.2.1, f51.2.2.1, f47.1, f47.2.1, f47.2.2.1, m7, mn7, r51, q4, q5, Int.toNat_natCast]
    refine ⟨mk7, by omega, fun M55 e55 => ?_⟩
    have f55 : FI (fun x => x = g + 7) M51 M55 := by rw [e55]; exact FI.ui rfl
    have ff : FI (fun x => x = g + 2 ∨ x = g + 5 ∨ x = g + 7) M6 M55 := ((f47.mono (fun _ y => Or.inl y)).trans (f51.mono (fun _ y => Or.inr (Or.inl y)))).trans (f55.mono (fun _ y => Or.inr (Or.inr y)))
    have o55 : mOk M55 := by rw [e55]; exact mOk_UI (by rw [e51]; exact mOk_UI o47 ⟨by omega, by omega⟩) ⟨by omega, by omega⟩
    have nb : ∀ x, x ≠ g + 2 → x ≠ g + 5 → x ≠ g + 7 → mI M55 x = mI M6 x := fun x a b c => ff.2.2.2.2.2.2 x (fun y => y.elim a (fun y => y.elim b c))
    have x55 := x6.fi o55 (ff.mono (fun x y => Or.inl (by have y' : x = g + 2 ∨ x = g + 5 ∨ x = g + 7 := y; omega)))
    have e2 : ∀ i, mI M55 (g + 2) i = if i = k then cm.1 else mI M6 (g + 2) i := fun i => by
      rw [f55.2.2.2.2.2.2 _ (show ¬ g + 2 = g + 7 by first | rfl | omega), f51.2.2.2.2.2.2 _ (show ¬ g + 2 = g + 5 by first | rfl | omega), mI_ui _ i e47]
      by_cases y : i = k
      · rw [if_pos ⟨rfl, y⟩, if_pos y]
      · rw [if_neg (fun t => y t.2), if_neg y]
    have e5 : ∀ i, mI M55 (g + 5) i = if i = cc then ((c : Nat) : Int) else mI M6 (g + 5) i := fun i => by
      rw [f55.2.2.2.2.2.2 _ (show ¬ g + 5 = g + 7 by first | rfl | omega), mI_ui _ i e51]
      by_cases y : i = cc
      · rw [if_pos ⟨rfl, y⟩, if_pos y]
      · rw [if_neg (fun t => y t.2), if_neg y, f47.2.2.2.2.2.2 _ (show ¬ g + 5 = g + 2 by first | rfl | omega)]
    have e7 : ∀ i, mI M55 (g + 7) i = if i = cc then ((bc : Nat) : Int) else mI M6 (g + 7) i := fun i => by
      rw [mI_ui _ i e55]
      by_cases y : i = cc
      · rw [if_pos ⟨rfl, y⟩, if_pos y]
      · rw [if_neg (fun t => y t.2), if_neg y, f51.2.2.2.2.2.2 _ (show ¬ g + 7 = g + 5 by first | rfl | omega), f47.2.2.2.2.2.2 _ (show ¬ g + 7 = g + 2 by first | rfl | omega)]
    have r55 := nb g (by omega) (by omega) (by omega)
    have s55 : mI M55 (g + 10) 9 = mI M (g + 10) 9 := by rw [nb _ (by omega) (by omega) (by omega)]; exact s6
    have st55 : gst9 M55 g V F ns W pl nq sm N nms k (fun v => sgL.getD v 0) := st6.cg (fun i _ => by rw [nb _ (by omega) (by omega) (by omega)]) (fun v _ => by rw [nb _ (by omega) (by omega) (by omega)]) (nb _ (by omega) (by omega) (by omega)) (nb _ (by omega) (by omega) (by omega)) (nb _ (by omega) (by omega) (by omega))
    clear f47 o47 f51 r51 f55 ff o55 e47 e51 e55 bad
    refine (x_Ga_weighChances (d := d) (cc := cc) hF cx x55 st55 hc (by omega) (by rw [r55]; exact q4) u1 u2 ⟨u3, u4, u5⟩ hlen (fun b x hb => ⟨(hbr b x hb).1, (hbr b x hb).2.1⟩)).mono (fun x58 M57 kk => ?_)
    obtain ⟨⟨i58, w1, ⟨A7, B7, C7, x57⟩, w2⟩, wy⟩ := kk
    obtain ⟨w11, w12, w13, w14, w15⟩ := w1
    obtain ⟨-, l2', l3', l4', l5', -⟩ := id x57
    have p16 := l4'.1.2.2.2.2.2.2.1.2.2.2.2.2.2.2.2.2.1
    have kp16 := l4'.1.2.2.2.2.2.2.2.1.2.2.2.2.2.2.2.2.2.1
    have np16 := l4'.1.2.2.2.2.2.2.2.2.2.2.2.2.2.2.2.2.2.1
    have u1' : mI M57 (p + 12) c = ((u : Nat) : Int) := by rw [gx_p x57 12 (by omega)]; exact u1
    have u2' : mI M57 (p + 12) (c + 1) = ((v : Nat) : Int) := by rw [gx_p x57 12 (by omega)]; exact u2
    have s57 : mI M57 (g + 10) 9 = mI M (g + 10) 9 := by rw [w15]; exact s55
    have c57 : mI M57 g 12 = ((cc : Nat) : Int) := by rw [w11 12 (by decide), r55]; exact q4
    rw [l5'.1, p16, np16, show Int.toNat ((c : Int) + 1) = c + 1 by first | rfl | omega, u1', u2', evu9]
    refine ⟨i58, x57.1, l2'.1, l4'.1.1, kp16, by omega, by omega, ?_⟩
    have wbad : x58 ≠ 0 → (tcq9 (evq W pl nq sm N nms) (stpq W pl nq sm N nms V (mI M0 (p + 3)) (mI M0 (p + 4))) sgL (nbx9 T) c cm s).1 = (x58, mI M57 g 10) := fun r0 => by
      rcases wy with ⟨a1, a2, a3⟩ | ⟨a1, a2, a3, a4⟩ | ⟨a1, a2, a3, a4, a5⟩ | ⟨-, -, -, a4, -⟩
      · rw [tcq_c rx1 ev0 mix a1, a2, a3]
      · rw [tcq_u rx1 ev0 mix a1 a2, a3, a4, pl3]
      · rw [tcq_s rx1 ev0 mix a1 a2 a3, a4, a5, pl3]
      · exact absurd a4 r0
    by_cases r0 : x58 = 0
    · subst r0
      obtain ⟨hch, mu, m1, m2', m3, m4', m5'⟩ := w2 rfl
      have wy : (chq9 (evq W pl nq sm N nms) sgL cm.2.2.2).1.1 = 0 ∧ muq9 (chq9 (evq W pl nq sm N nms) sgL cm.2.2.2).2 1 ≠ 0 ∧ smq9 (muq9 (chq9 (evq W pl nq sm N nms) sgL cm.2.2.2).2 1) (chq9 (evq W pl nq sm N nms) sgL cm.2.2.2).2 = muq9 (chq9 (evq W pl nq sm N nms) sgL cm.2.2.2).2 1 ∧ mI M57 (g + 6) cc = muq9 (chq9 (evq W pl nq sm N nms) sgL cm.2.2.2).2 1 ∧ lch9 M57 g (v - u) = (chq9 (evq W pl nq sm N nms) sgL cm.2.2.2).2 ∧ gst9 M57 g V F ns W pl nq sm N nms k (fun v => sgL.getD v 0) := by
        rcases wy with ⟨a1, a2, a3⟩ | ⟨a1, a2, a3, a4⟩ | ⟨a1, a2, a3, a4, a5⟩ | ⟨a1, a2, a3, -, a5, a6, a7⟩
        · exact absurd a2.symm a1
        · exact absurd a3 (by decide)
        · exact absurd a4 (by decide)
        · exact ⟨a1, a2, a3, a5, a6, a7⟩
      obtain ⟨b1, b2, b3, b4, b5, b6⟩ := wy
      have emu : muq9 (chq9 (evq W pl nq sm N nms) sgL cm.2.2.2).2 1 = ((mu : Nat) : Int) := by rw [← b4]; exact m1
      obtain ⟨x1, x2, ⟨cnx, x3⟩, x4, x5, fcx, ccx, bcx, x6', x7', x8, x9, x10, x11⟩ := qe6
      have ecc : ccx = cc := by rw [q4] at x8; omega
      have ebc : bcx = bc := by rw [q5] at x9; omega
      have ecn : cnx = cn := by have a := x3.1; rw [q1] at a; omega
      subst ecc
      subst ebc
      subst ecn
      have te : ∀ fl : (Int × Int) × List (List Int) × List (Nat × Int), flq9 (stpq W pl nq sm N nms V (mI M0 (p + 3)) (mI M0 (p + 4))) sgL (mI M0 (p + 10) c) ((mu : Nat) : Int) bcx (cm.2.2.2.zip (chq9 (evq W pl nq sm N nms) sgL cm.2.2.2).2) s.2.1 [] = fl → tcq9 (evq W pl nq sm N nms) (stpq W pl nq sm N nms V (mI M0 (p + 3)) (mI M0 (p + 4))) sgL (nbx9 T) c cm s = (fl.1, fl.2.1, cm.1, s.2.2.2 ++ [(c, ((mu : Nat) : Int), fl.2.2)]) := fun fl hf => by
        have h9 := tcq_e (ev := evq W pl nq sm N nms) (stp := stpq W pl nq sm N nms V (mI M0 (p + 3)) (mI M0 (p + 4))) (sg := sgL) (nb := nbx9 T) (c := c) (cm := cm) (s := s) rx1 ev0 mix b1 b2 b3 (fl := fl) (by rw [emu, x11, ← pl3]; exact hf)
        rw [emu] at h9
        exact h9
      have hq0 : (fun r M' => tcQ M0 z g p O P K V F1 ns1 sf1 ef1 L cnt Ab0 Be0 C0 M k cnx r M' ∧ tcX (tcq9 (evq W pl nq sm N nms) (stpq W pl nq sm N nms V (mI M0 (p + 3)) (mI M0 (p + 4))) sgL (nbx9 T) c cm s) T g V F ns W pl nq sm N nms k sgL r M') = (fun r M' => tcQ M0 z g p O P K V F1 ns1 sf1 ef1 L cnt Ab0 Be0 C0 M57 k cnx r M' ∧ tcX (tcq9 (evq W pl nq sm N nms) (stpq W pl nq sm N nms V (mI M0 (p + 3)) (mI M0 (p + 4))) sgL (nbx9 T) c cm s) T g V F ns W pl nq sm N nms k sgL r M') := by
        rw [tcQ_eq (MB := M57) (M3 := M) s57]
      rw [hq0]
      have e75 : mI M57 (g + 5) = mI M55 (g + 5) := w12 5 (by omega) (by omega) (by omega)
      have e77 : mI M57 (g + 7) = mI M55 (g + 7) := w12 7 (by omega) (by omega) (by omega)
      have e74 : mI M57 (g + 4) = mI M6 (g + 4) := by rw [w12 4 (by omega) (by omega) (by omega), nb _ (by omega) (by omega) (by omega)]
      have e73 : mI M57 (g + 3) = mI M6 (g + 3) := by rw [w12 3 (by omega) (by omega) (by omega), nb _ (by omega) (by omega) (by omega)]
      have e72 : ∀ i, mI M57 (g + 2) i = if i = k then cm.1 else mI M6 (g + 2) i := fun i => by rw [w12 2 (by omega) (by omega) (by omega), e2 i]
      have e78 : mI M57 (g + 8) = mI M6 (g + 8) := by rw [w12 8 (by omega) (by omega) (by omega), nb _ (by omega) (by omega) (by omega)]
      have e79 : mI M57 (g + 9) = mI M6 (g + 9) := by rw [w12 9 (by omega) (by omega) (by omega), nb _ (by omega) (by omega) (by omega)]
      have e71 : mI M57 (g + 1) = mI M6 (g + 1) := by rw [w12 1 (by omega) (by omega) (by omega), nb _ (by omega) (by omega) (by omega)]
      have c55 : (mI M55 g 12).toNat = ccx := by rw [r55, q4, Int.toNat_natCast]
      have t7e : ∀ j, j < ccx → mI M57 (g + 7) j = mI M6 (g + 7) j ∧ mI M57 (g + 7) (j + 1) = mI M6 (g + 7) (j + 1) := fun j hj => by
        refine ⟨by rw [e77, e7, if_neg (by omega)], ?_⟩
        rw [e77, e7]
        by_cases y : j + 1 = ccx
        · rw [if_pos y, y, (t4 (by omega)).2]
        · rw [if_neg y]
      have cm0 : ∀ j, j < ccx → cmdG M57 g cnx bcx j := fun j hj => (t3 j hj).cg (t7e j hj) (by rw [w14 j (by rw [c55]; omega), nb _ (by omega) (by omega) (by omega)]) (by rw [e75, e5, if_neg (by omega)]) (fun i _ => ⟨by rw [e78], by rw [e79]⟩) (Nat.le_refl _) (Nat.le_refl _)
      have cm1 : ∀ j, j < ccx → cmm M57 g j = cmm M6 g j := fun j hj => cmm_cg (t3 j hj) (t7e j hj) (by rw [w14 j (by rw [c55]; omega), nb _ (by omega) (by omega) (by omega)]) (by rw [e75, e5, if_neg (by omega)]) (fun i _ => ⟨by rw [e78], by rw [e79]⟩)
      have zl1 : (cm.2.2.2.zip (chq9 (evq W pl nq sm N nms) sgL cm.2.2.2).2).length = v - u := by rw [List.length_zip, ← b5, lch_len, hlen]; omega
      refine x_tc146 (zl := cm.2.2.2.zip (chq9 (evq W pl nq sm N nms) sgL cm.2.2.2).2) (S0 := s.2.1) (cms := s.2.2.2) (pr := cm.1) (fc := fcx) (bc0 := bcx) (cn0 := cnx) hF cx vo zl1 (fun b hb => ?_) (fun S B hf => ?_) (fun hf => ?_) (by rw [e72, if_pos rfl]) ?_ (by rw [e74]; exact x6') x7' (by rw [cml_cg (M' := M57) (M := M6) _ (fun c' c1 c2 => cm1 c' (by omega))]; exact x10) x11 (by rw [e75, e5, if_pos rfl]) hkn hc (by omega) hk ⟨u3, u4, u5⟩ ⟨m2', m3⟩ hch m5' m4' m1 (by rw [e77, e7, if_pos rfl]) c57 (by rw [e75, e5, if_pos rfl]; exact ⟨by omega, by omega⟩) u1' u2' t1 cm0 (fun y => by rw [e77, e7, if_neg (by omega)]; exact (t4 y).1) t5 (by rw [e74]; exact t6) (by rw [e74]; exact t7) (fun j hj => (gs6 j (by omega)).cg (by rw [e72, if_neg (by omega)]) (by rw [e73]) (by rw [e74]) (by rw [e74])) (fun x y q1 q2 => by rw [e74] at q1 q2; rw [e73]; exact (gs6 k (Nat.le_refl _) x y q1 q2).1) (v - u) 0 M57 A7 B7 C7 cnx bcx 0 (by omega) (by omega) ⟨by decide, by decide⟩ x57 flF.refl ⟨by rw [w11 0 (by decide), r55]; exact q1, Nat.le_refl _, q2, fun i hi => by rw [w13, nb _ (by omega) (by omega) (by omega)]; exact q3 i hi⟩ (by rw [w11 13 (by decide), r55]; exact q5) (Nat.le_refl _) ⟨t2, Nat.le_refl _⟩ (fun _ => ⟨Nat.le_refl _, t2, fun i a b => absurd a (by omega), by rw [Nat.sub_self]; rfl⟩) (Int.le_refl _) (fun _ => ⟨s.2.1, [], rfl, x2, x3.cg V12 (by rw [w11 0 (by decide), r55]) e71 (by rw [w13, nb _ (by omega) (by omega) (by omega)]), by rw [Nat.sub_self]; rfl, b6⟩) (fun t => absurd rfl t)
      · obtain ⟨x, hxb⟩ : ∃ x, cm.2.2.2[b]? = some x := ⟨cm.2.2.2[b], List.getElem?_eq_getElem (by omega)⟩
        obtain ⟨y1, y2, y3⟩ := hbr b x hxb
        exact ⟨x, List.getElem?_zip_eq_some.mpr ⟨hxb, by rw [← b5]; exact lch_get _ hb⟩, y1, y3⟩
      · rw [te _ hf]
      · rw [te _ rfl]
      · rw [← x4]
        refine xtm_cg (cc := ccx) k (fun j hj => by rw [e72, if_neg (by omega)]) (fun j _ => by rw [e74]) (fun j hj => ?_) cm1
        obtain ⟨x, y', f1, f2, f3, f4⟩ := t6 j (by omega)
        rw [f2, Int.toNat_natCast]
        exact f4
    · exact x_tc_bad (by first | exact iu9 | exact ivu9) ⟨by decide, by decide⟩ x57 hk c609 c57 (by omega) s57 i58 r0 (wbad r0)
  · have ev0 : (evq W pl nq sm N nms sgL cm.2.2.1.1 cm.2.2.1.2).2.1 ≠ 0 := by rw [← rx2]; exact y0
    refine (x_Ga_fault ⟨by decide, by decide⟩ (o6 _ _).1 o6 m0).mono (fun r M' q => ?_)
    rw [q.1]
    refine ⟨⟨by decide, by decide⟩, q.2.1.1, bad ⟨by decide, by decide⟩ (by decide) q.2.1, Or.inl ⟨by decide, ?_⟩⟩
    rw [tcq_m rx1 ev0 ⟨fun t => y1 (Or.inl t), fun t => y1 (Or.inr t)⟩, q.2.2, gx_p x6 10 (by omega), pl3]
end GBL
end
section
/-! The class's game, exactly: a state is looked at. -/
/-- what looking at a state comes to; e what the target is worth -/
def lkX9 (e : vrs) (S : List (List Int)) (T : xt9) (g V F : Nat) (ns W pl nq : Nat → Int) (sm : Nat → Nat → Prop) (N : Nat) (nms : List nm9) (k : Nat) (sgL : List Int) (r : Int) (M' : mM) : Prop := (r ≠ 0 ∧ e.1 ≠ 0 ∧ (e.1, e.2.1) = (r, mI M' g 10)) ∨ (r = 0 ∧ e.1 = 0 ∧ GQe M' g V nms k T ((0, 0), S, (if e.2.1 = 0 then 0 else 3), []) ∧ gst9 M' g V F ns W pl nq sm N nms k (fun v => sgL.getD v 0))
section GBM
variable {G : mG} {d z g p O P K V F L cnt U w9 Ab Be C Ab0 Be0 C0 n N c cn k cc bc : Nat} {M0 M M' : mM} {ns : Nat → Int} {sf ef : Nat → Nat} {F1 : Nat} {ns1 : Nat → Int} {sf1 ef1 : Nat → Nat} {W pl nq : Nat → Int} {sm : Nat → Nat → Prop} {nms : List nm9} {T : xt9}
theorem x_Ga_lookAt {tg : Nat × Nat} {S : List (List Int)} (hF : FMx G) (cx : gcx M0 g p O P L V F Ab0 Be0 ns sf ef W pl nq sm N n nms) (hT : ∃ s : Nat, mI M0 p 11 = ((s : Nat) : Int) ∧ RuC M0 O P L W pl nq sm n ns ef nms tg.1 tg.2 s) (so : SoO nms S) (ge : gxe M g V cn S) (hkn : k < cn) (hxt : xtm M g k = T) (hnb : nbx9 T = bc) (hU : U = g + 1 ∨ U = g + 11) (hx : GY U w9 M0 z g p O P K V F1 ns1 sf1 ef1 L cnt Ab0 Be0 C0 M Ab Be C) (hk : k < 512) (hcn : mI M g 0 = ((cn : Nat) : Int) ∧ cn ≤ 512 ∧ SLt M g cn) (hcc : mI M g 12 = ((cc : Nat) : Int)) (hbc : mI M g 13 = ((bc : Nat) : Int)) (hst : 0 ≤ mI M (g + 10) 9 ∧ mI M (g + 10) 9 < 1000000000) (hgt : (k = 0 ∧ cc = 0 ∧ bc = 0) ∨ (∃ k', k = k' + 1 ∧ GT M g cn k' cc bc)) (hgs : ∀ j, j < k → GS1 M g j) : Ci G y_Ga_lookAt (d + 5) [vr g, vi k] M (fun r M' => (i32 r ∧ (∃ Ab' Be' C', GX M0 z g p O P K V F1 ns1 sf1 ef1 L cnt Ab0 Be0 C0 M' Ab' Be' C') ∧ mI M' (g + 10) 9 = mI M (g + 10) 9 + 1 ∧ (r = 0 → GQ M' g cn k cc bc ∧ GS M' g k)) ∧ lkX9 (evq W pl nq sm N nms (lsm M g V k) tg.1 tg.2) S T g V F ns W pl nq sm N nms k (lsm M g V k) r M') := by
  obtain ⟨h1, h2, h3, h4, h5, h6, h7, h8, h9, h10⟩ := id hx
  obtain ⟨g0, ⟨r1, r2, r3, r4, -, -, -, -, -, r15, -⟩, ⟨k1, k2, k3, k4, -⟩, ⟨n1, n2, n3, n4, -⟩⟩ := id h2
  refine k_Ga_lookAt h1 (i32s (by omega) (by omega)) ?_
  rw [r4, n4, hcc, Int.toNat_natCast]
  refine ⟨g0, k4, by omega, fun M4 e4 => ?_⟩
  have f4 : FI (fun x => x = g + 4) M M4 := by rw [e4]; exact FI.ui rfl
  rw [f4.1, f4.2.1, f4.2.2.1, r4, n4, f4.2.2.2.2.2.2 g (show ¬ g = g + 4 by first | rfl | omega), hcc, show Int.toNat ((k : Int) + 1) = k + 1 by first | rfl | omega]
  refine ⟨k4, by omega, fun M8 e8 => ?_⟩
  have f8 : FI (fun x => x = g + 4) M4 M8 := by rw [e8]; exact FI.ui rfl
  rw [f8.1, f8.2.1, f8.2.2.1, f4.1, f4.2.1, f4.2.2.1, r3, n3]
  refine ⟨k3, by omega, fun M12 e12 => ?_⟩
  have f12 : FI (fun x => x = g + 3) M8 M12 := by rw [e12]; exact FI.ui rfl
  have ff : FI (fun x => x = g + 4 ∨ x = g + 3) M M12 := ((f4.mono (fun _ y => Or.inl y)).trans (f8.mono (fun _ y => Or.inl y))).trans (f12.mono (fun _ y => Or.inr y))
  have bcc : i32 ((cc : Nat) : Int) := by rw [← hcc]; exact (h1 _ _).1
  have o12 : mOk M12 := by rw [e12]; exact mOk_UI (by rw [e8]; exact mOk_UI (by rw [e4]; exact mOk_UI h1 bcc) bcc) ⟨by decide, by decide⟩
  have x12 := hx.fi o12 (ff.mono (fun x y => Or.inl (by have y' : x = g + 4 ∨ x = g + 3 := y; omega)))
  have nb : ∀ x, x ≠ g + 4 → x ≠ g + 3 → mI M12 x = mI M x := fun x a b => ff.2.2.2.2.2.2 x (fun y => y.elim a b)
  have t4 : ∀ i, mI M12 (g + 4) i = if i = k + 1 then ((cc : Nat) : Int) else if i = k then ((cc : Nat) : Int) else mI M (g + 4) i := fun i => by
    rw [f12.2.2.2.2.2.2 _ (show ¬ g + 4 = g + 3 by first | rfl | omega), mI_ui _ i e8]
    by_cases y : i = k + 1
    · rw [if_pos ⟨rfl, y⟩, if_pos y]
    · rw [if_neg (fun t => y t.2), if_neg y, mI_ui _ i e4]
      by_cases y2 : i = k
      · rw [if_pos ⟨rfl, y2⟩, if_pos y2]
      · rw [if_neg (fun t => y2 t.2), if_neg y2]
  have gs12 : (∀ j, j < k → GS1 M12 g j) ∧ mI M12 (g + 3) k = 0 := by
    have t3 : ∀ i, mI M12 (g + 3) i = if i = k then 0 else mI M (g + 3) i := fun i => by
      rw [mI_ui _ i e12]
      by_cases y : i = k
      · rw [if_pos ⟨rfl, y⟩, if_pos y]
      · rw [if_neg (fun t => y t.2), if_neg y, f8.2.2.2.2.2.2 _ (show ¬ g + 3 = g + 4 by first | rfl | omega), f4.2.2.2.2.2.2 _ (show ¬ g + 3 = g + 4 by first | rfl | omega)]
    refine ⟨fun j hj => (hgs j hj).cg (by rw [nb _ (by omega) (by omega)]) (by rw [t3, if_neg (by omega)]) (by rw [t4, if_neg (by omega), if_neg (by omega)]) ?_, by rw [t3, if_pos rfl]⟩
    rw [t4, if_neg (by omega)]
    by_cases y : j + 1 = k
    · rw [if_pos y]
      rcases hgt with ⟨k0, -⟩ | ⟨k', ek, -, -, -, -, -, -, -, s8⟩
      · omega
      · rw [y, ← s8, ← ek]
    · rw [if_neg y]
  have q12 : GQ M12 g cn k cc bc := by
    have e0 := nb g (by omega) (by omega)
    refine ⟨⟨by rw [e0]; exact hcn.1, hcn.2.1, fun i hi => by rw [nb _ (by omega) (by omega)]; exact hcn.2.2 i hi⟩, by rw [e0]; exact hcc, by rw [e0]; exact hbc, ?_⟩
    rcases hgt with ⟨k0, c0, b0⟩ | ⟨k', ek, s1, s2, s3, s4, s5, s6, s7, s8⟩
    · subst k0
      subst c0
      subst b0
      exact ⟨Nat.le_refl _, by omega, fun c hc => absurd hc (by omega), fun y => absurd y (by omega), fun _ => rfl, fun j hj => ⟨0, 0, by rw [t4, if_neg (by omega), if_pos (by omega)], by rw [t4, if_pos (by omega)], Nat.le_refl _, Nat.le_refl _⟩, by rw [t4, if_neg (by omega), if_pos rfl]; rfl, by rw [t4, if_pos rfl]⟩
    · subst ek
      have e7 := nb (g + 7) (by omega) (by omega)
      refine ⟨s1, s2, fun c hc => (s3 c hc).cg ⟨by rw [e7], by rw [e7]⟩ (by rw [nb (g + 6) (by omega) (by omega)]) (by rw [nb (g + 5) (by omega) (by omega)]) (fun i _ => ⟨by rw [nb (g + 8) (by omega) (by omega)], by rw [nb (g + 9) (by omega) (by omega)]⟩) (Nat.le_refl _) (Nat.le_refl _), by rw [e7]; exact s4, s5, fun j hj => ?_, by rw [t4, if_neg (by omega), if_neg (by omega)]; exact s7, by rw [t4, if_pos rfl]⟩
      by_cases y : j = k' + 1
      · rw [y]
        exact ⟨cc, cc, by rw [t4, if_neg (by omega), if_pos rfl], by rw [t4, if_pos rfl], Nat.le_refl _, Nat.le_refl _⟩
      · obtain ⟨a, b, f1, f2, f3, f4'⟩ := s6 j (by omega)
        refine ⟨a, b, by rw [t4, if_neg (by omega), if_neg (by omega)]; exact f1, ?_, f3, f4'⟩
        rw [t4, if_neg (by omega)]
        by_cases y2 : j + 1 = k' + 1
        · rw [if_pos y2, ← s8, ← y2]; exact f2
        · rw [if_neg y2]; exact f2
  have s12 : mI M12 (g + 10) 9 = mI M (g + 10) 9 := by rw [nb _ (by omega) (by omega)]
  have V12 := h4.2.2.1.2
  have F60 := cx.1.2.2.2.2
  have ge12 : gxe M12 g V cn S := ge.cg V12 (by rw [nb g (by omega) (by omega)]) (nb _ (by omega) (by omega)) (nb _ (by omega) (by omega))
  have t12 : xtm M12 g k = T := by
    rw [← hxt]
    rcases hgt with ⟨k0, -⟩ | ⟨k', ek, -, -, -, -, -, s6, -, s8⟩
    · subst k0; rfl
    · refine xtm_cg (cc := cc) k (fun j _ => by rw [nb _ (by omega) (by omega)]) (fun j hj => ?_) (fun j hj => ?_) (fun c' _ => cmm_eq (fun i i5 i9 => nb _ (by omega) (by omega)))
      · rw [t4, if_neg (by omega)]
        by_cases y : j = k
        · rw [if_pos y, y, ek, s8]
        · rw [if_neg y]
      · obtain ⟨x, y', f1, f2, f3, f4⟩ := s6 j (by omega)
        rw [f2, Int.toNat_natCast]
        exact f4
  have f12k : mI M12 (g + 4) k = ((cc : Nat) : Int) := by rw [t4, if_neg (by omega), if_pos rfl]
  have c12 : mI M12 g 12 = ((cc : Nat) : Int) ∧ mI M12 g 13 = ((bc : Nat) : Int) := by rw [nb g (by omega) (by omega)]; exact ⟨hcc, hbc⟩
  clear f4 f8 f12 ff t4 e4 e8 e12 nb
  obtain ⟨-, a2, a3, a4, a5, a6, a7, a8, a9, a10⟩ := id x12
  obtain ⟨b0, ⟨b1, -, -, -, -, -, -, -, -, b15, -⟩, ⟨bk1, -⟩, ⟨bn1, -⟩⟩ := id a2
  rw [b15, b1]
  have zU : g + 1 < mZ M12 ∧ g + 10 < mZ M12 := by have := a3.2.2.2.2.2.2.1.1; omega
  refine ⟨a3.1, ?_⟩
  refine k_Ma_enter o12 ⟨by omega, by omega⟩ ⟨a3.1, fun N2 e2 N4 e4 => ?_⟩
  have i4 : mI N4 (g + 10) 9 = mI M (g + 10) 9 := by rw [mI_ui _ _ e4, if_neg (fun t => absurd t.2 (by decide)), e2, mI_UR]; exact s12
  rw [i4]
  refine ⟨⟨by omega, by omega⟩, fun N7 e7 => ?_⟩
  have fu : FA (fun _ => False) (fun x => x = g + 10) M12 N2 := FA.ur rfl e2
  have c4 : FI (fun x => x = g + 10) N2 N4 := by rw [e4]; exact FI.ui rfl
  have c7 : FI (fun x => x = g + 10) N4 N7 := by rw [e7]; exact FI.ui rfl
  have cc7 := c4.trans c7
  have F7 : FA (fun x => x = g + 10) (fun x => x = g + 10) M12 N7 := (fu.mono (fun _ _ y => y.elim) (fun _ _ y => y)).trans (FI.fa cc7)
  have o7 : mOk N7 := by rw [e7]; exact mOk_UI (by rw [e4]; exact mOk_UI (by rw [e2]; exact mOk_UR o12) ⟨by omega, by omega⟩) ⟨by omega, by omega⟩
  have r7 : ∀ i, mR N7 (g + 10) i = if i = 3 then g + 1 else mR M12 (g + 10) i := fun i => by
    rw [cc7.2.2.1, e2, mR_UR]
    by_cases y : i = 3
    · rw [if_pos ⟨rfl, y⟩, if_pos y]
    · rw [if_neg (fun t => y t.2), if_neg y]
  have i7 : mI N7 (g + 10) 9 = mI M (g + 10) 9 + 1 ∧ mI N7 (g + 10) 4 = (k : Int) * 12 := by
    refine ⟨by rw [mI_ui _ _ e7, if_pos ⟨rfl, rfl⟩], by rw [mI_ui _ _ e7, if_neg (fun t => absurd t.2 (by decide)), mI_ui _ _ e4, if_pos ⟨rfl, rfl⟩]⟩
  have nb7 : ∀ x, x < mZ M12 → x ≠ g + 10 → mI N7 x = mI M12 x ∧ mR N7 x = mR M12 x := fun x hx hne => ⟨(F7.2 x hx).2.2.2.2 hne, (F7.2 x hx).2.2.2.1 hne⟩
  have Z7 : mZ N7 = mZ M12 ∧ mS N7 = mS M12 := by rw [cc7.2.2.2.2.1, cc7.2.2.2.2.2.1, e2]; exact ⟨rfl, rfl⟩
  have ne := x12.ne
  have cl : ∀ x, mK N7 x = mK M12 x ∧ mN N7 x = mN M12 x := fun x => by rw [cc7.1, cc7.2.1, e2]; exact ⟨rfl, rfl⟩
  have q7 : GQ N7 g cn k cc bc := q12.eq (fun i hi => (nb7 (g + i) (by have := a3.2.2.2.2.2.2.1.1; omega) (by omega)).1)
  have gs7 : (∀ j, j < k → GS1 N7 g j) ∧ mI N7 (g + 3) k = 0 := by
    have e9 : ∀ i, i ≤ 9 → mI N7 (g + i) = mI M12 (g + i) := fun i hi => (nb7 (g + i) (by have := a3.2.2.2.2.2.2.1.1; omega) (by omega)).1
    exact ⟨fun j hj => (gs12.1 j hj).cg (by rw [e9 2 (by omega)]) (by rw [e9 3 (by omega)]) (by rw [e9 4 (by omega)]) (by rw [e9 4 (by omega)]), by rw [e9 3 (by omega)]; exact gs12.2⟩
  have rg : mR N7 g = mR M12 g := (nb7 g (by omega) (by omega)).2
  have e79 : ∀ i, i ≤ 9 ∨ (20 ≤ i ∧ i ≤ 22) → mI N7 (g + i) = mI M12 (g + i) := fun i hi => (nb7 (g + i) (by have := a3.2.2.2.2.2.2.1.1; omega) (by omega)).1
  have e70 : mI N7 g = mI M12 g := (nb7 g (by omega) (by omega)).1
  have ge7 : gxe N7 g V cn S := ge12.cg V12 (by rw [e70]) (e79 1 (by omega)) (e79 20 (by omega))
  have t7x : xtm N7 g k = T := by rw [xtm_eq (fun i _ i9 => e79 i (by omega))]; exact t12
  have f7k : mI N7 (g + 4) k = ((cc : Nat) : Int) := by rw [e79 4 (by omega)]; exact f12k
  have cg7 : mI N7 g 12 = ((cc : Nat) : Int) ∧ mI N7 g 13 = ((bc : Nat) : Int) := by rw [e70]; exact c12
  have lsk : lsm M g V k = lsm N7 g V k := by
    have a := Sm9_get (M := M) (g := g) (V := V) hkn
    have b := Sm9_get (M := N7) (g := g) (V := V) hkn
    rw [ge.2.2] at a
    rw [ge7.2.2] at b
    rw [a] at b
    exact Option.some.inj b
  have mS7 : lsm M g V k ∈ S := by
    have a := Sm9_get (M := M) (g := g) (V := V) hkn
    rw [ge.2.2] at a
    exact List.mem_of_getElem? a
  have st7 : gst9 N7 g V F ns W pl nq sm N nms k (fun v => (lsm M g V k).getD v 0) := by
    refine ⟨by rw [i7.2]; omega, fun v hv => ?_, so _ mS7, fun x hx _ u => ?_⟩
    · rw [lsk]
      unfold lsm
      exact (getD_map (f := fun v => mI N7 (g + 1) (12 * k + v)) hv).symm
    · exfalso
      have l := a9 x (by omega)
      rw [show g + 15 = g + 10 + 5 by first | rfl | omega, s12] at l
      have e5 := (nb7 (g + 10 + 5) (by have := a3.2.2.2.2.2.2.1.1; omega) (by omega)).1
      rw [e5, i7.1] at u
      omega
  have x7 : GX M0 z g p O P K V F1 ns1 sf1 ef1 L cnt Ab0 Be0 C0 N7 Ab Be C := by
    have F9 : FA (gaS g Ab Be) (gaR g) M12 N7 := F7.mono (fun x _ y => Or.inl (by have y' : x = g + 10 := y; omega)) (fun x _ y => Or.inr y)
    refine ⟨o7, a2.eq2 (fun i _ => cl _) (fun i _ => by rw [rg]), ?_, a4.fa F9 ne.2.2.2 ne.1 ne.2.1 ne.2.2.1, ⟨by rw [rg]; exact a5.1, by rw [r7, if_neg (by decide)]; exact a5.2⟩, a6, fun x hx => ?_, a8.trans ⟨F9, ⟨Or.inl rfl, Or.inl rfl⟩, by rw [Z7.2], by rw [Z7.1]; exact Nat.le_refl _⟩, fun x hx => ?_, fun i hi => ?_⟩
    · obtain ⟨e1, ⟨e21, e22, e23, e24, e25, e26, e27, e28, e29⟩, ⟨e31, e32⟩, e41, e5, e6, ⟨z1, z2, z3, z4⟩, e8⟩ := a3
      refine ⟨by rw [(cl _).1]; exact e1, ⟨by rw [r7, if_pos rfl], by rw [r7, if_neg (by decide)]; exact e22, by rw [r7, if_neg (by decide)]; exact e23, by rw [r7, if_neg (by decide)]; exact e24, by rw [r7, if_neg (by decide)]; exact e25, by rw [r7, if_neg (by decide)]; exact e26, by rw [r7, if_neg (by decide)]; exact e27, by rw [r7, if_neg (by decide)]; exact e28, by rw [r7, if_neg (by decide)]; exact e29⟩, ?_, ?_, ?_, e6, ⟨by rw [Z7.1]; exact z1, by rw [Z7.1]; exact z2, by rw [Z7.1]; exact z3, by rw [Z7.1]; exact zU.1⟩, e8⟩
      · rw [(cl _).1, (cl _).1, (cl _).1, (cl _).1, (cl _).1, (cl _).1, (cl _).1, (cl _).1, (cl _).1]
        exact ⟨bk1, e32⟩
      · rw [(cl _).2, (cl _).2, (cl _).2, (cl _).2, (cl _).2, (cl _).2, (cl _).2, (cl _).2]
        exact e41
      · rw [i7.2, (cl _).2, bn1]
        omega
    · have l := a9 x hx.1
      rw [show g + 15 = g + 10 + 5 by first | rfl | omega] at l
      have e5 := (nb7 (g + 10 + 5) (by have := a3.2.2.2.2.2.2.1.1; omega) (by omega)).1
      rw [e5, i7.1]
      rw [s12] at l
      exact ⟨by omega, fun t => by omega⟩
    · have l := a9 x hx
      have e5 := (nb7 (g + 15) (by have := a3.2.2.2.2.2.2.1.1; omega) (by omega)).1
      rw [e5, i7.1]
      rw [s12] at l
      omega
    · have pz := a4.1.2.2.2.2.1.1
      have po := a4.1.2.2.2.1.2.2.2
      rw [(F9.2 (p + i) (by omega)).2.2.2.2 (ne.1 i hi)]
      exact a10 i hi
  clear x12 a2 a3 a4 a5 a6 a7 a8 a9 a10 F7 cc7 c4 c7 fu r7 nb7 ne cl rg Z7 q12 e2 e4 e7 i4
  obtain ⟨-, l2, l3, l4, l5, -⟩ := id x7
  obtain ⟨m0, ⟨-, m2, -, -, -, -, -, -, -, m15, -⟩, -, -⟩ := id l2
  obtain ⟨sT, e11, ruT⟩ := hT
  have e11 : mI N7 p 11 = ((sT : Nat) : Int) := by
    have a := gx_p x7 0 (by omega)
    rw [Nat.add_zero] at a
    rw [a]
    exact e11
  rw [l5.1, m15, e11]
  refine ⟨o7, m0, l4.1.1, l3.1, (x_Ga_run hF x7 cx st7 ruT).mono (fun x22 M21 kk => ?_)⟩
  obtain ⟨⟨i22, o21, hx22, A1, B1, C1, x21, f21, s21, -⟩, rx, st21x⟩ := kk
  have rx : rnx (g + 10) (evq W pl nq sm N nms (lsm M g V k) tg.1 tg.2) x22 M21 := rx
  obtain ⟨ce1, ce2⟩ := ga_ce x7 f21
  have q21 := q7.eq ce1
  have ce0 := ce1 0 (by omega)
  rw [Nat.add_zero] at ce0
  have ge21 : gxe M21 g V cn S := ge7.cg V12 (by rw [ce0]) (ce1 1 (by omega)) (ce1 20 (by omega))
  have t21x : xtm M21 g k = T := by rw [xtm_eq (fun i _ i9 => ce1 i (by omega))]; exact t7x
  have f21k : mI M21 (g + 4) k = ((cc : Nat) : Int) := by rw [ce1 4 (by omega)]; exact f7k
  have c21 : mI M21 g 12 = ((cc : Nat) : Int) ∧ mI M21 g 13 = ((bc : Nat) : Int) := by rw [ce0]; exact cg7
  have gs21 : (∀ j, j < k → GS1 M21 g j) ∧ mI M21 (g + 3) k = 0 := ⟨fun j hj => (gs7.1 j hj).cg (by rw [ce1 2 (by omega)]) (by rw [ce1 3 (by omega)]) (by rw [ce1 4 (by omega)]) (by rw [ce1 4 (by omega)]), by rw [ce1 3 (by omega)]; exact gs7.2⟩
  obtain ⟨-, y2, y3, y4, y5, -⟩ := id x21
  obtain ⟨w0, ⟨-, w2, -, -, -, -, -, -, -, w15, -⟩, ⟨-, wk2, -⟩, ⟨-, wn2, -⟩⟩ := id y2
  have mA := y3.2.1.2.2.1
  have kA := y3.2.2.1.2.2.1
  have nA := y3.2.2.2.1.2.1
  have c64 := y3.2.2.2.2.2.2.2.1
  have st21 : mI M21 (g + 10) 9 = mI M (g + 10) 9 + 1 := by rw [s21]; exact i7.1
  rw [w15, mA, nA, w2, wn2]
  refine ⟨i22, o21, fun y => ⟨w0, (x_Ga_machineFault o21 w0 w15 y3.1).mono (fun r M' q => ?_)⟩, fun y => ⟨w0, y3.1, kA, ⟨by omega, by omega⟩, fun v39 e39 => ⟨wk2, by omega, fun M45 e45 => ?_⟩⟩⟩
  · obtain ⟨q1, q2, ⟨q3, q4, q5⟩, q6⟩ := q
    obtain ⟨-, rx1, rx2, rx3⟩ := rx.resolve_right (fun u => by have := u.1; omega)
    have r0 : r ≠ 0 := by rw [q2, rx2]; exact rx1
    exact ⟨q1, q3, ⟨q1, ⟨A1, B1, C1, x21.fi q3 (q4.mono (fun x y => Or.inl (by have y' : x = g := y; omega)))⟩, by rw [q4.2.2.2.2.2.2 _ (show ¬ g + 10 = g by first | rfl | omega)]; exact st21, fun t => absurd t r0⟩, Or.inl ⟨r0, rx1, by rw [q2, rx2, q6, rx3]⟩⟩
  · have f45 : FI (fun x => x = g + 2) M21 M45 := by rw [e45]; exact FI.ui rfl
    have i39 : i32 v39 := by rw [e39]; split <;> exact ⟨by decide, by decide⟩
    have o45 : mOk M45 := by rw [e45]; exact mOk_UI o21 i39
    have nb2 : ∀ x, x ≠ g + 2 → mI M45 x = mI M21 x := fun x hx => f45.2.2.2.2.2.2 x hx
    obtain ⟨-, rx1, rx2, -⟩ := rx.resolve_left (fun u => y u.1)
    rw [mA] at rx2
    have e45k : mI M45 (g + 2) k = if (evq W pl nq sm N nms (lsm M g V k) tg.1 tg.2).2.1 = 0 then 0 else 3 := by
      rw [mI_ui _ k e45, if_pos ⟨rfl, rfl⟩, e39, rx2]
    have t45 : xtm M45 g k = T := by
      rw [← t21x]
      obtain ⟨-, -, -, -, -, -, -, -, t6, -⟩ := id q21
      refine xtm_cg (cc := cc) k (fun j hj => by rw [mI_ui _ j e45, if_neg (fun t => by have := t.2; omega)]) (fun j _ => by rw [nb2 _ (by omega)]) (fun j hj => ?_) (fun c' _ => cmm_eq (fun i i5 i9 => nb2 _ (by omega)))
      obtain ⟨x, y', f1, f2, f3, f4⟩ := t6 j (by omega)
      rw [f2, Int.toNat_natCast]
      exact f4
    refine ⟨⟨⟨by decide, by decide⟩, ⟨A1, B1, C1, x21.fi o45 (f45.mono (fun x y => Or.inl (by have y' : x = g + 2 := y; omega)))⟩, by rw [nb2 _ (by omega)]; exact st21, fun _ => ?_⟩, Or.inr ⟨rfl, rx1, ⟨rfl, so, ⟨cn, ge21.cg V12 (by rw [nb2 g (by omega)]) (nb2 _ (by omega)) (nb2 _ (by omega))⟩, t45, e45k, cc, cc, bc, by rw [nb2 _ (by omega)]; exact f21k, Nat.le_refl _, by rw [nb2 g (by omega)]; exact c21.1, by rw [nb2 g (by omega)]; exact c21.2, by rw [Nat.sub_self]; rfl, by rw [hnb]; rfl⟩, st21x.cg (fun i _ => by rw [nb2 _ (by omega)]) (fun v _ => by rw [nb2 _ (by omega)]) (nb2 _ (by omega)) (nb2 _ (by omega)) (nb2 _ (by omega))⟩⟩
    obtain ⟨⟨u1, u2, u3⟩, u4, u5, t1, t2, t3, t4, t5, t6, t7, t8⟩ := q21
    have n0 := nb2 g (by omega)
    have n4 := nb2 (g + 4) (by omega)
    have n7 := nb2 (g + 7) (by omega)
    refine ⟨⟨⟨by rw [n0]; exact u1, u2, fun i hi => by rw [nb2 _ (by omega)]; exact u3 i hi⟩, by rw [n0]; exact u4, by rw [n0]; exact u5, t1, t2, fun c hc => (t3 c hc).cg ⟨by rw [n7], by rw [n7]⟩ (by rw [nb2 _ (by omega)]) (by rw [nb2 _ (by omega)]) (fun i _ => ⟨by rw [nb2 _ (by omega)], by rw [nb2 _ (by omega)]⟩) (Nat.le_refl _) (Nat.le_refl _), by rw [n7]; exact t4, t5, by rw [n4]; exact t6, by rw [n4]; exact t7, by rw [n4]; exact t8⟩, fun j hj => ?_⟩
    by_cases y : j = k
    · subst y
      intro x1 y1 q1 q2
      have e2 : mI M45 (g + 2) j = v39 := by rw [mI_ui _ j e45, if_pos ⟨rfl, rfl⟩]
      rw [nb2 (g + 3) (by omega), gs21.2, e2, e39]
      refine ⟨⟨Int.le_refl _, Or.inr rfl⟩, fun w => ?_⟩
      exfalso
      clear t1 t2 t3 t4 t5 t6 t7 t8 u3
      split at w <;> omega
    · exact (gs21.1 j (by omega)).cg (by rw [mI_ui _ j e45, if_neg (fun t => y t.2)]) (by rw [nb2 (g + 3) (by omega)]) (by rw [n4]) (by rw [n4])
end GBM
end
section
/-! The class's game, exactly: discover. -/
section GBN
variable {ev : List Int → Nat → Nat → vrs} {stp : List Int → List (Nat × Nat × Nat × Nat) → (Int × Int) × List Int} {sg : List Int} {nb c f k : Nat} {cm : cm9} {s : sl9} {l cms : List cm9} {tg : Nat × Nat} {S : List (List Int)} {T : xt9}
theorem tsq_f (h : s.1.1 ≠ 0) : tsq9 ev stp sg nb l c s = s := by
  cases l with
  | nil => rfl
  | cons cm l => exact if_pos h
theorem tsq_c (h : s.1 = (0, 0)) : tsq9 ev stp sg nb (cm :: l) c s = tsq9 ev stp sg nb l (c + 1) (tcq9 ev stp sg nb c cm s) := if_neg (fun u => u (by rw [h]))
theorem tcq_k : (tcq9 ev stp sg nb c cm s).2.2.1 = s.2.2.1 ∨ (tcq9 ev stp sg nb c cm s).2.2.1 = cm.1 := by
  unfold tcq9
  repeat' split
  all_goals first | exact Or.inl rfl | exact Or.inr rfl
theorem ssq_f (h : (ev sg tg.1 tg.2).1 ≠ 0) : ssq9 ev stp tg cms sg nb S = (((ev sg tg.1 tg.2).1, (ev sg tg.1 tg.2).2.1), S, 0, []) := if_pos h
theorem ssq_t (h : (ev sg tg.1 tg.2).1 = 0) (h1 : (ev sg tg.1 tg.2).2.1 ≠ 0) : ssq9 ev stp tg cms sg nb S = ((0, 0), S, 3, []) := (if_neg (fun u => u h)).trans (if_pos h1)
theorem ssq_n (h : (ev sg tg.1 tg.2).1 = 0) (h1 : (ev sg tg.1 tg.2).2.1 = 0) : ssq9 ev stp tg cms sg nb S = tsq9 ev stp sg nb cms 0 ((0, 0), S, 0, []) := (if_neg (fun u => u h)).trans (if_neg (fun u => u h1))
theorem exq_n (h : S[k]? = none) : exq9 ev stp tg cms (f + 1) k S T = ((0, 0), k, S, T) := by
  rw [exq9, h]
theorem exq_f (h : S[k]? = some sg) (h1 : (ssq9 ev stp tg cms sg (nbx9 T) S).1.1 ≠ 0) : exq9 ev stp tg cms (f + 1) k S T = ((ssq9 ev stp tg cms sg (nbx9 T) S).1, k, [], []) := by
  rw [exq9, h]
  exact if_pos h1
theorem exq_s (h : S[k]? = some sg) (h1 : (ssq9 ev stp tg cms sg (nbx9 T) S).1.1 = 0) : exq9 ev stp tg cms (f + 1) k S T = exq9 ev stp tg cms f (k + 1) (ssq9 ev stp tg cms sg (nbx9 T) S).2.1 (T ++ [((ssq9 ev stp tg cms sg (nbx9 T) S).2.2.1, (ssq9 ev stp tg cms sg (nbx9 T) S).2.2.2)]) := by
  rw [exq9, h]
  exact if_neg (fun u => u h1)
end GBN
/-- what discover comes to -/
def dcX (X : (Int × Int) × Nat × List (List Int) × xt9) (g V : Nat) (r : Int) (M' : mM) : Prop := (r ≠ 0 ∧ X.1 = (r, mI M' g 10) ∧ mI M' g 11 = ((X.2.1 : Nat) : Int)) ∨ (r = 0 ∧ X.1 = (0, 0) ∧ ∃ cn : Nat, gxe M' g V cn X.2.2.1 ∧ xtm M' g cn = X.2.2.2)
section GBO
variable {G : mG} {d z g p O P K V F L cnt U w9 Ab Be C Ab0 Be0 C0 n N c cn k cc bc : Nat} {M0 M M' : mM} {ns : Nat → Int} {sf ef : Nat → Nat} {F1 : Nat} {ns1 : Nat → Int} {sf1 ef1 : Nat → Nat} {W pl nq : Nat → Int} {sm : Nat → Nat → Prop} {nms : List nm9} {T : xt9} {tg : Nat × Nat} {cms : List cm9} {sgL : List Int} {RS : sl9} {X : (Int × Int) × Nat × List (List Int) × xt9}
theorem x_dc96 (hF : FMx G) (cx : gcx M0 g p O P L V F Ab0 Be0 ns sf ef W pl nq sm N n nms) (px : PGx M0 p O P L V cnt W pl nq sm n ns ef nms tg cms) {st : Int} (hXf : RS.1.1 ≠ 0 → X = (RS.1, k, [], [])) (nx : ∀ (M : mM) (Ab Be C cn cc bc : Nat), GX M0 z g p O P K V F1 ns1 sf1 ef1 L cnt Ab0 Be0 C0 M Ab Be C → GQ M g cn k cc bc ∧ GS M g k → k < cn → mI M (g + 10) 9 = st + k + 1 → RS.1 = (0, 0) → SoO nms RS.2.1 → gxe M g V cn RS.2.1 → xtm M g (k + 1) = T ++ [(RS.2.2.1, RS.2.2.2)] → nbx9 (T ++ [(RS.2.2.1, RS.2.2.2)]) = bc → h_Ga_discover_72 G (d + 6) g ((k : Int) + 1) M (fun r M' => dcQ M0 z g p O P K V F1 ns1 sf1 ef1 L cnt Ab0 Be0 C0 st r M' ∧ dcX X g V r M')) (hk : k < 512) (hst0 : 0 ≤ st) : ∀ (t i : Nat) (M : mM) (Ab Be C cn cc bc : Nat) (r : Int), cnt ≤ i + t → i ≤ cnt → i32 r → GX M0 z g p O P K V F1 ns1 sf1 ef1 L cnt Ab0 Be0 C0 M Ab Be C → mI M (g + 10) 9 = st + k + 1 → (r = 0 → (GQ M g cn k cc bc ∧ GS M g k) ∧ k < cn) → (r = 0 → ∃ s, GQe M g V nms k T s ∧ gst9 M g V F ns W pl nq sm N nms k (fun v => sgL.getD v 0) ∧ ((s.2.2.1 = 3 ∧ RS = s) ∨ (s.2.2.1 ≠ 3 ∧ RS = tsq9 (evq W pl nq sm N nms) (stpq W pl nq sm N nms V (mI M0 (p + 3)) (mI M0 (p + 4))) sgL (nbx9 T) (cms.drop i) i s))) → (r ≠ 0 → RS.1 = (r, mI M g 10)) → h_Ga_discover_96 G (d + 6) g k r i M (fun r M' => dcQ M0 z g p O P K V F1 ns1 sf1 ef1 L cnt Ab0 Be0 C0 st r M' ∧ dcX X g V r M') := by
  intro t
  obtain ⟨vo, -, -, hlen, hcC⟩ := px
  have fin : ∀ {i : Nat} {M : mM} {Ab Be C cn cc bc : Nat} {r : Int}, i32 r → GX M0 z g p O P K V F1 ns1 sf1 ef1 L cnt Ab0 Be0 C0 M Ab Be C → mI M (g + 10) 9 = st + k + 1 → (r = 0 → (GQ M g cn k cc bc ∧ GS M g k) ∧ k < cn) → (r = 0 → cnt ≤ i ∨ mI M (g + 2) k = 3) → (r = 0 → ∃ s, GQe M g V nms k T s ∧ gst9 M g V F ns W pl nq sm N nms k (fun v => sgL.getD v 0) ∧ ((s.2.2.1 = 3 ∧ RS = s) ∨ (s.2.2.1 ≠ 3 ∧ RS = tsq9 (evq W pl nq sm N nms) (stpq W pl nq sm N nms V (mI M0 (p + 3)) (mI M0 (p + 4))) sgL (nbx9 T) (cms.drop i) i s))) → (r ≠ 0 → RS.1 = (r, mI M g 10)) → ((r = 0) → (h_Ga_discover_72 G (d + 6) g ((k : Int) + 1) M (fun r M' => dcQ M0 z g p O P K V F1 ns1 sf1 ef1 L cnt Ab0 Be0 C0 st r M' ∧ dcX X g V r M'))) ∧ (¬ (r = 0) → (∀ M52, M52 = mUI M g 11 k → Cv G y_Ga_clear (d + 6) [vr g] M52 (fun M54 => mOk M54 ∧ (dcQ M0 z g p O P K V F1 ns1 sf1 ef1 L cnt Ab0 Be0 C0 st r M54 ∧ dcX X g V r M54)))) := fun {i M Ab Be C cn cc bc r} ir hx hst hq hex he hne => by
    refine ⟨fun r0 => ?_, fun r0 M52 e52 => ?_⟩
    · obtain ⟨s, q1, q2, q3⟩ := he r0
      have eRS : RS = s := by
        rcases q3 with q3 | ⟨q3, q4⟩
        · exact q3.2
        · rcases hex r0 with y | y
          · rw [q4, List.drop_eq_nil_of_le (by omega)]
            rfl
          · rw [q1.2.2.2.2.1] at y
            exact absurd y q3
      obtain ⟨x1, x2, ⟨cnx, x3⟩, x4, x5, fcx, ccx, bcx, x6, x7, x8, x9, x10, x11⟩ := q1
      obtain ⟨⟨hQ, hS⟩, hkn⟩ := hq r0
      obtain ⟨⟨u1, -, -⟩, u4, u5, -, -, -, -, -, -, -, t8⟩ := id hQ
      have ecn : cnx = cn := by have a := x3.1; rw [u1] at a; omega
      have ecc : ccx = cc := by rw [u4] at x8; omega
      have ebc : bcx = bc := by rw [u5] at x9; omega
      subst ecn
      subst ecc
      subst ebc
      refine nx M Ab Be C cnx ccx bcx hx ⟨hQ, hS⟩ hkn hst (by rw [eRS]; exact x1) (by rw [eRS]; exact x2) (by rw [eRS]; exact x3) ?_ ?_
      · show xtm M g k ++ [stm M g k] = _
        rw [x4, eRS]
        unfold stm
        rw [x5, x6, t8, Int.toNat_natCast, Int.toNat_natCast, x10]
      · rw [nbx_app, eRS]
        show nbx9 T + (nbq9 s.2.2.2 + 0) = bcx
        omega
    · have f52 : FI (fun x => x = g) M M52 := by rw [e52]; exact FI.ui rfl
      have o52 : mOk M52 := by rw [e52]; exact mOk_UI hx.1 ⟨by omega, by omega⟩
      refine (s_Ga_clear o52 (by rw [f52.1]; exact hx.2.1.1)).mono (fun M54 q => ?_)
      obtain ⟨q1, q2, q3⟩ := q
      have ff := f52.trans q2
      refine ⟨q1, ⟨ir, ⟨g + 1, 1, Ab, Be, C, Or.inl rfl, hx.fi q1 (ff.mono (fun x y => Or.inl (by have y' : x = g := y; omega)))⟩, ?_, fun t => absurd t r0, fun _ => ⟨by rw [q3, if_neg (by decide), if_neg (by decide), if_pos rfl], by rw [q3, if_neg (by decide), if_pos rfl], by rw [q3, if_pos rfl]⟩⟩, Or.inl ⟨r0, ?_, ?_⟩⟩
      · rw [ff.2.2.2.2.2.2 _ (show ¬ g + 10 = g by first | rfl | omega), hst]
        omega
      · have a := hne r0
        rw [hXf (by rw [a]; exact r0), a, q3, if_neg (by decide), if_neg (by decide), if_neg (by decide), mI_ui g 10 e52, if_neg (fun t => absurd t.2 (by decide))]
      · have a := hne r0
        rw [hXf (by rw [a]; exact r0), q3, if_neg (by decide), if_neg (by decide), if_neg (by decide), mI_ui g 11 e52, if_pos ⟨rfl, rfl⟩]
  induction t with
  | zero =>
    intro i M Ab Be C cn cc bc r ht hi ir hx hst hq he hne
    obtain ⟨h1, h2, h3, h4, h5, -⟩ := id hx
    have c12 := h4.2.2.2.2.1.1
    have c60 := h4.2.2.2.2.1.2
    refine k_Ga_discover_96 h1 (i32s (by omega) (by omega)) ir (i32s (by omega) (by omega)) ?_
    rw [h5.1, c12]
    exact ⟨h2.1, h4.1.1, fun y => absurd y (by omega), fun _ => fin ir hx hst hq (fun _ => Or.inl (by omega)) he hne, fun y => absurd (Or.inl (by omega)) y⟩
  | succ t ih =>
    intro i M Ab Be C cn cc bc r ht hi ir hx hst hq he hne
    obtain ⟨h1, h2, h3, h4, h5, -⟩ := id hx
    obtain ⟨g0, ⟨-, r2, -⟩, ⟨-, k2, -⟩, ⟨-, n2, -⟩⟩ := id h2
    have c12 := h4.2.2.2.2.1.1
    have c60 := h4.2.2.2.2.1.2
    refine k_Ga_discover_96 h1 (i32s (by omega) (by omega)) ir (i32s (by omega) (by omega)) ?_
    rw [h5.1, c12, r2, n2, Int.toNat_natCast]
    refine ⟨g0, h4.1.1, fun _ _ => ⟨k2, by omega⟩, fun y => fin ir hx hst hq (fun r0 => ?_) he hne, fun y => ?_⟩
    · rcases y with y | y | y
      · exact Or.inl (by omega)
      · exact absurd r0 y
      · exact Or.inr y
    have r0 : r = 0 := Classical.byContradiction (fun t => y (Or.inr (Or.inl t)))
    have k3 : mI M (g + 2) k ≠ 3 := fun t => y (Or.inr (Or.inr t))
    have ic : i < cnt := by
      by_cases t : ((cnt : Nat) : Int) ≤ i
      · exact absurd (Or.inl t) y
      · omega
    obtain ⟨q1, q2⟩ := hq r0
    obtain ⟨s, v1, v2, v3⟩ := he r0
    have s3 : s.2.2.1 ≠ 3 := by rw [← v1.2.2.2.2.1]; exact k3
    have eRS := (v3.resolve_left (fun a => s3 a.1)).2
    obtain ⟨cm, hcm⟩ : ∃ cm, cms[i]? = some cm := ⟨cms[i], List.getElem?_eq_getElem (by omega)⟩
    have hdr : cms.drop i = cm :: cms.drop (i + 1) := by
      rw [List.drop_eq_getElem_cons (by omega)]
      rw [List.getElem?_eq_getElem (by omega)] at hcm
      rw [Option.some.inj hcm]
    have cC := hcC i cm hcm
    rw [hdr, tsq_c v1.1] at eRS
    refine (x_Ga_tryCommand hF cx vo cC hx v2 v1 q2 ic hk q1.1 q1.2).mono (fun r' M' q => ?_)
    obtain ⟨⟨w1, ⟨A', B', C', w2⟩, w3, w4⟩, w5⟩ := q
    rw [show ((i : Int) + 1) = ((i + 1 : Nat) : Int) by first | rfl | omega]
    by_cases e : r' = 0
    · obtain ⟨cn', cc', bc', y5, y6, y7, y8, y9⟩ := w4 e
      obtain ⟨-, z1, z2⟩ := w5.resolve_left (fun a => a.1 e)
      refine ⟨w1, w2.1, ih (i + 1) M' A' B' C' cn' cc' bc' r' (by omega) (by omega) w1 w2 (by rw [w3]; exact hst) (fun _ => ⟨⟨⟨⟨y5.1, y5.2.2.1, y5.2.2.2⟩, y6, y7, y8⟩, y9⟩, by omega⟩) (fun _ => ⟨_, z1, z2, Or.inr ⟨?_, eRS⟩⟩) (fun t => absurd e t)⟩
      rcases tcq_k (ev := evq W pl nq sm N nms) (stp := stpq W pl nq sm N nms V (mI M0 (p + 3)) (mI M0 (p + 4))) (sg := sgL) (nb := nbx9 T) (c := i) (cm := cm) (s := s) with a | a
      · rw [a]; exact s3
      · rw [a]
        have := cC.2.1
        omega
    · obtain ⟨-, z1⟩ := w5.resolve_right (fun a => e a.1)
      exact ⟨w1, w2.1, ih (i + 1) M' A' B' C' cn cc bc r' (by omega) (by omega) w1 w2 (by rw [w3]; exact hst) (fun t => absurd t e) (fun t => absurd t e) (fun _ => by rw [eRS, tsq_f (by rw [z1]; exact e)]; exact z1)⟩
theorem x_dc72 (hF : FMx G) (cx : gcx M0 g p O P L V F Ab0 Be0 ns sf ef W pl nq sm N n nms) (px : PGx M0 p O P L V cnt W pl nq sm n ns ef nms tg cms) {st : Int} (hst0 : 0 ≤ st ∧ st < 100000000) : ∀ (t k : Nat) (M : mM) (U w9 Ab Be C cn cc bc : Nat) (S : List (List Int)) (T : xt9), 512 ≤ k + t → k ≤ 512 → (U = g + 1 ∨ U = g + 11) → GY U w9 M0 z g p O P K V F1 ns1 sf1 ef1 L cnt Ab0 Be0 C0 M Ab Be C → cn ≤ 512 → 1 ≤ cn → k ≤ cn → mI M g 12 = ((cc : Nat) : Int) → mI M g 13 = ((bc : Nat) : Int) → ((k = 0 ∧ cc = 0 ∧ bc = 0) ∨ (∃ k', k = k' + 1 ∧ GT M g cn k' cc bc ∧ GS M g k')) → mI M (g + 10) 9 = st + k → SoO nms S → gxe M g V cn S → xtm M g k = T → nbx9 T = bc → X = exq9 (evq W pl nq sm N nms) (stpq W pl nq sm N nms V (mI M0 (p + 3)) (mI M0 (p + 4))) tg cms (513 - k) k S T → h_Ga_discover_72 G (d + 6) g k M (fun r M' => dcQ M0 z g p O P K V F1 ns1 sf1 ef1 L cnt Ab0 Be0 C0 st r M' ∧ dcX X g V r M') := by
  intro t
  have done : ∀ {k : Nat} {M : mM} {U w9 Ab Be C cn cc bc : Nat} {S : List (List Int)} {T : xt9}, k ≤ 512 → (U = g + 1 ∨ U = g + 11) → GY U w9 M0 z g p O P K V F1 ns1 sf1 ef1 L cnt Ab0 Be0 C0 M Ab Be C → cn ≤ 512 → 1 ≤ cn → cn = k → mI M g 12 = ((cc : Nat) : Int) → mI M g 13 = ((bc : Nat) : Int) → ((k = 0 ∧ cc = 0 ∧ bc = 0) ∨ (∃ k', k = k' + 1 ∧ GT M g cn k' cc bc ∧ GS M g k')) → mI M (g + 10) 9 = st + k → gxe M g V cn S → xtm M g k = T → X = exq9 (evq W pl nq sm N nms) (stpq W pl nq sm N nms V (mI M0 (p + 3)) (mI M0 (p + 4))) tg cms (513 - k) k S T → dcQ M0 z g p O P K V F1 ns1 sf1 ef1 L cnt Ab0 Be0 C0 st 0 M ∧ dcX X g V 0 M := fun {k M U w9 Ab Be C cn cc bc S T} hk hU hx hcn h1c hck hcc hbc hgt hst ge hxt hX => by
    have hsl : SLt M g cn := fun i hi => (ge.2.1.1.1 i hi).imp id (fun ⟨k, k1, k2⟩ => ⟨by omega, by omega⟩)
    refine ⟨⟨⟨by decide, by decide⟩, ⟨U, w9, Ab, Be, C, hU, hx⟩, by rw [hst]; omega, fun _ => ?_, fun t => absurd rfl t⟩, Or.inr ⟨rfl, ?_⟩⟩
    · rcases hgt with ⟨k0, -⟩ | ⟨k', ek, gt⟩
      · omega
      · exact ⟨cn, cc, bc, h1c, ⟨⟨ge.1, hcn, hsl⟩, hcc, hbc, by rw [show cn - 1 = k' by first | rfl | omega]; exact gt.1⟩, by rw [show cn - 1 = k' by first | rfl | omega]; exact gt.2⟩
    · have sn : S[k]? = none := by
        rw [← ge.2.2, List.getElem?_eq_none_iff, Sm9_len]
        omega
      rw [show 513 - k = (512 - k) + 1 by first | rfl | omega, exq_n sn] at hX
      rw [hX]
      exact ⟨rfl, cn, ge, by rw [hck]; exact hxt⟩
  induction t with
  | zero =>
    intro k M U w9 Ab Be C cn cc bc S T ht hk hU hx hcn h1c hkc hcc hbc hgt hst so ge hxt hnb hX
    refine k_Ga_discover_72 hx.1 (i32s (by omega) (by omega)) ⟨hx.2.1.1, fun _ => done hk hU hx hcn h1c (by omega) hcc hbc hgt hst ge hxt hX, fun y => absurd (Or.inr (by omega)) y⟩
  | succ t ih =>
    intro k M U w9 Ab Be C cn cc bc S T ht hk hU hx hcn h1c hkc hcc hbc hgt hst so ge hxt hnb hX
    refine k_Ga_discover_72 hx.1 (i32s (by omega) (by omega)) ?_
    rw [ge.1]
    refine ⟨hx.2.1.1, fun y => done hk hU hx hcn h1c (by omega) hcc hbc hgt hst ge hxt hX, fun y => ?_⟩
    have k5 : k < 512 ∧ k < cn := by omega
    have hsl : SLt M g cn := fun i hi => (ge.2.1.1.1 i hi).imp id (fun ⟨k, k1, k2⟩ => ⟨by omega, by omega⟩)
    have hSk : S[k]? = some (lsm M g V k) := by rw [← ge.2.2]; exact Sm9_get k5.2
    rw [show 513 - k = (512 - k) + 1 by first | rfl | omega] at hX
    refine (x_Ga_lookAt (d := d + 1) hF cx px.2.2.1 so ge k5.2 hxt hnb hU hx k5.1 ⟨ge.1, hcn, hsl⟩ hcc hbc (by rw [hst]; clear hgt; omega) (hgt.imp id (fun ⟨k', e, q⟩ => ⟨k', e, q.1⟩)) (fun j hj => by
      rcases hgt with ⟨k0, -⟩ | ⟨k', ek, -, q⟩
      · omega
      · exact q j (by omega))).mono (fun r M' q => ?_)
    obtain ⟨⟨w1, ⟨A', B', C', w2⟩, w3, w4⟩, w5⟩ := q
    rw [hst] at w3
    refine ⟨w1, w2.1, x_dc96 (RS := ssq9 (evq W pl nq sm N nms) (stpq W pl nq sm N nms V (mI M0 (p + 3)) (mI M0 (p + 4))) tg cms (lsm M g V k) (nbx9 T) S) (T := T) (sgL := lsm M g V k) hF cx px (fun hf => by rw [hX, exq_f hSk hf]) (fun M2 A2 B2 C2 cn2 cc2 bc2 y1 y2 y3 y4 y5 y6 y7 y8 y9 => ?_) k5.1 hst0.1 cnt 0 M' A' B' C' cn cc bc r (by omega) (by omega) w1 w2 w3 (fun r0 => ⟨w4 r0, k5.2⟩) (fun r0 => ?_) (fun r0 => ?_)⟩
    · rw [show ((k : Int) + 1) = ((k + 1 : Nat) : Int) by first | rfl | omega]
      obtain ⟨⟨z1, z2, z3, z4⟩, z5⟩ := y2
      exact ih (k + 1) M2 (g + 1) 1 A2 B2 C2 cn2 cc2 bc2 _ _ (by omega) (by omega) (Or.inl rfl) y1 z1.2.1 (by omega) (by omega) z2 z3 (Or.inr ⟨k, rfl, z4, z5⟩) (by rw [y4]; omega) y6 y7 y8 y9 (by rw [hX, exq_s hSk (by rw [y5]), show 513 - (k + 1) = 512 - k by first | rfl | omega])
    · obtain ⟨-, e1, e2, e3⟩ := w5.resolve_left (fun a => a.1 r0)
      refine ⟨_, e2, e3, ?_⟩
      by_cases y0 : (evq W pl nq sm N nms (lsm M g V k) tg.1 tg.2).2.1 = 0
      · rw [if_pos y0]
        exact Or.inr ⟨by show (0 : Int) ≠ 3; decide, ssq_n e1 y0⟩
      · rw [if_neg y0]
        exact Or.inl ⟨rfl, ssq_t e1 y0⟩
    · obtain ⟨-, e1, e2⟩ := w5.resolve_right (fun a => r0 a.1)
      rw [ssq_f e1]
      exact e2
end GBO
end
section
/-! The class's game, exactly: discover, the whole. -/
section GBP
variable {G : mG} {d z g p O P K V F L cnt U Ab Be C n N : Nat} {M : mM} {ns : Nat → Int} {sf ef : Nat → Nat} {F1 : Nat} {ns1 : Nat → Int} {sf1 ef1 : Nat → Nat} {W pl nq : Nat → Int} {sm : Nat → Nat → Prop} {nms : List nm9} {tg : Nat × Nat} {cms : List cm9}
theorem x_Ga_discover (hF : FMx G) (hz : GZ M z g p O P K V F1 ns1 sf1 ef1 L cnt U Ab Be C) (cx : gcx M g p O P L V F Ab Be ns sf ef W pl nq sm N n nms) (px : PGx M p O P L V cnt W pl nq sm n ns ef nms tg cms) : Ci G y_Ga_discover (d + 7) [vr g, vr p] M (fun r M' => dcQ M z g p O P K V F1 ns1 sf1 ef1 L cnt Ab Be C (mI M (g + 10) 9) r M' ∧ dcX (xpl9 (evq W pl nq sm N nms) (stpq W pl nq sm N nms V (mI M (p + 3)) (mI M (p + 4))) tg cms ((List.range V).map (mI M (p + 5)))) g V r M') := by
  obtain ⟨h1, h2, h3, hU, h4, ⟨h61, h62, h63⟩, h7, h8⟩ := hz
  obtain ⟨o1, o2, -, o4⟩ := h4.1.2.2.2.1
  obtain ⟨a1, a2, a3, a4⟩ := h3.2.2.2.2.2.1
  have ne := ga_ne h61 h62 h63 o1 o2 o4 a1 a2
  have z1 := h3.2.2.2.2.2.2.1.1
  have zg : g < mZ M ∧ g + 10 < mZ M ∧ ∀ i, i ≤ 22 → g + i < mZ M := ⟨by omega, by omega, fun i hi => by omega⟩
  have pz : ∀ i, i ≤ 15 → p + i < mZ M := fun i hi => by omega
  have pg : ∀ i j, i ≤ 15 → j ≤ 22 → p + i ≠ g + j := fun i j hi hj => by omega
  refine k_Ga_discover h1 ⟨h2.1, (s_Ga_clear h1 h2.1).mono (fun M2 q => ?_)⟩
  obtain ⟨q1, q2, q3⟩ := q
  refine ⟨q1, by rw [q2.1]; exact h2.1, fun M6 e6 => ?_⟩
  have f6 : FA (fun _ => False) (fun x => x = g) M2 M6 := FA.ur rfl e6
  have r6 : ∀ y i, mR M6 y i = if y = g ∧ i = 14 then p else mR M y i := fun y i => by rw [e6, mR_UR, q2.2.2.1]
  have kn6 : ∀ y, mK M6 y = mK M y ∧ mN M6 y = mN M y ∧ mI M6 y = mI M2 y := fun y => by rw [e6]; exact ⟨by rw [mK_UR, q2.1], by rw [mN_UR, q2.2.1], by rw [mI_UR]⟩
  have r615 : mR M6 g 15 = g + 10 := by rw [r6, if_neg (fun t => absurd t.2 (by decide))]; exact h2.2.1.2.2.2.2.2.2.2.2.2.1
  rw [r615, r6 g 14, if_pos ⟨rfl, rfl⟩]
  refine ⟨by rw [(kn6 _).1]; exact h3.1, fun M9 e9 => ?_⟩
  have r9 : ∀ y i, mR M9 y i = if y = g + 10 ∧ i = 0 then p else if y = g ∧ i = 14 then p else mR M y i := fun y i => by rw [e9, mR_UR, r6]
  have kn9 : ∀ y, mK M9 y = mK M y ∧ mN M9 y = mN M y ∧ mI M9 y = mI M2 y := fun y => by rw [e9]; exact ⟨by rw [mK_UR, (kn6 y).1], by rw [mN_UR, (kn6 y).2.1], by rw [mI_UR, (kn6 y).2.2]⟩
  have z9 : mZ M9 = mZ M ∧ mS M9 = mS M := by rw [e9, mZ_UR, mS_UR, e6, mZ_UR, mS_UR, q2.2.2.2.2.1, q2.2.2.2.2.2.1]; exact ⟨rfl, rfl⟩
  have o9 : mOk M9 := by rw [e9]; exact mOk_UR (by rw [e6]; exact mOk_UR q1)
  have F9 : FA (gaS g Ab Be) (gaR g) M M9 := by
    have b2 : FA (gaS g Ab Be) (gaR g) M M2 := (FI.fa q2).mono (fun x _ y => Or.inl (by have y' : x = g := y; omega)) (fun x _ y => y)
    exact (b2.trans2 f6 (fun _ _ y => y.elim) (fun x _ y => Or.inl y)).trans2 (FA.ur (S := fun _ => False) (R := fun x => x = g + 10) rfl e9) (fun _ _ y => y.elim) (fun x _ y => Or.inr y)
  have g16 : mR M9 g 16 = g + 20 := by rw [r9, if_neg (fun t => absurd t.2 (by decide)), if_neg (fun t => absurd t.2 (by decide))]; exact h2.2.1.2.2.2.2.2.2.2.2.2.2.1
  have k20 := h2.2.2.1.2.2.2.2.2.2.2.2.2.1
  have n20 := h2.2.2.2.2.2.2.2.2.2.2.2.2.1
  rw [g16]
  refine (s_JA_fill (v := -1) o9 (by rw [(kn9 _).1]; exact k20) (by rw [(kn9 _).2.1, n20]; omega) ⟨by decide, by decide⟩).mono (fun M11 q => ?_)
  obtain ⟨o11, f11, v11⟩ := q
  rw [(kn9 _).2.1, n20] at v11
  have r11 : mR M11 g 15 = g + 10 := by rw [f11.2.2.1, r9, if_neg (fun t => absurd t.2 (by decide)), if_neg (fun t => absurd t.2 (by decide))]; exact h2.2.1.2.2.2.2.2.2.2.2.2.1
  have r11m : mR M11 (g + 10) 5 = g + 12 := by rw [f11.2.2.1, r9, if_neg (fun t => absurd t.2 (by decide)), if_neg (fun t => absurd t.2 (by decide))]; exact h3.2.1.2.1
  have km2 := h3.2.2.1.2.1
  have nm2 := h3.2.2.2.1.1
  rw [r11, r11m]
  refine ⟨o11, by rw [f11.1, (kn9 _).1]; exact h2.1, by rw [f11.1, (kn9 _).1]; exact h3.1, (s_JA_fill (v := 0) o11 (by rw [f11.1, (kn9 _).1]; exact km2) (by rw [f11.2.1, (kn9 _).2.1]; exact (by rw [nm2]; omega)) ⟨by decide, by decide⟩).mono (fun M16 q => ?_)⟩
  obtain ⟨o16, f16, -⟩ := q
  have fa16 : FI (fun x => x = g + 20 ∨ x = g + 12) M9 M16 := (f11.mono (fun _ y => Or.inl y)).trans (f16.mono (fun _ y => Or.inr y))
  have rp : ∀ i, mR M16 p i = mR M p i := fun i => by rw [fa16.2.2.1, r9, if_neg (fun t => pg 0 10 (by omega) (by omega) t.1), if_neg (fun t => pg 0 0 (by omega) (by omega) t.1)]
  have r1614 : mR M16 g 14 = p := by rw [fa16.2.2.1, r9, if_neg (fun t => absurd t.2 (by decide)), if_pos ⟨rfl, rfl⟩]
  have r1615 : mR M16 g 15 = g + 10 := by rw [f16.2.2.1]; exact r11
  have r16m : mR M16 (g + 10) 5 = g + 12 := by rw [f16.2.2.1]; exact r11m
  have p6 := h4.1.2.2.2.2.2.2.1.2.2.1
  have kp6 := h4.1.2.2.2.2.2.2.2.1.2.2.1
  have np6 := h4.1.2.2.2.2.2.2.2.2.2.2.1
  have i16 : ∀ x, x ≠ g + 20 → x ≠ g + 12 → x ≠ g → mI M16 x = mI M x := fun x a b c => by rw [fa16.2.2.2.2.2.2 x (fun y => y.elim a b), (kn9 x).2.2, q2.2.2.2.2.2.2 x c]
  have p3 : mI M16 p 3 = ((V : Nat) : Int) := by rw [i16 p (pg 0 20 (by omega) (by omega)) (pg 0 12 (by omega) (by omega)) (pg 0 0 (by omega) (by omega))]; exact h4.2.2.1.1
  have V12 := h4.2.2.1.2
  rw [r1614, r1615, rp 6, p6, r16m, p3, fa16.1, fa16.2.1, (kn9 _).1, (kn9 _).1, (kn9 _).1, (kn9 _).1, (kn9 _).1, (kn9 _).2.1, (kn9 _).2.1]
  refine ⟨o16, h2.1, h4.1.1, h3.1, kp6, km2, ⟨by omega, by omega, by omega, by rw [np6]; omega, by rw [nm2]; omega⟩, fun M25 e25 => ?_⟩
  have f25 : FI (fun x => x = g + 12) M16 M25 := by
    rw [e25]
    refine ⟨rfl, rfl, rfl, rfl, rfl, rfl, fun x hx => ?_⟩
    funext j
    exact if_neg (fun t => hx t.1)
  have o25 : mOk M25 := by rw [e25]; exact mOk_Cpy o16
  have fa25 : FI (fun x => x = g + 20 ∨ x = g + 12) M9 M25 := fa16.trans (f25.mono (fun _ y => Or.inr y))
  have i25 : ∀ x, x ≠ g + 20 → x ≠ g + 12 → x ≠ g → mI M25 x = mI M x := fun x a b c => by rw [f25.2.2.2.2.2.2 x b, i16 x a b c]
  have r25 : ∀ y i, mR M25 y i = if y = g + 10 ∧ i = 0 then p else if y = g ∧ i = 14 then p else mR M y i := fun y i => by rw [fa25.2.2.1, r9]
  have kn25 : ∀ y, mK M25 y = mK M y ∧ mN M25 y = mN M y := fun y => ⟨by rw [fa25.1, (kn9 y).1], by rw [fa25.2.1, (kn9 y).2.1]⟩
  have z25 : mZ M25 = mZ M ∧ mS M25 = mS M := ⟨by rw [fa25.2.2.2.2.1]; exact z9.1, by rw [fa25.2.2.2.2.2.1]; exact z9.2⟩
  have F25 : FA (gaS g Ab Be) (gaR g) M M25 := F9.trans2 (FI.fa (R := fun _ => False) fa25) (fun x _ y => Or.inl (by have y' : x = g + 20 ∨ x = g + 12 := y; omega)) (fun _ _ y => y.elim)
  have ig : ∀ i, mI M25 g i = mI M2 g i := fun i => by rw [fa25.2.2.2.2.2.2 g (fun y => by have y' : g = g + 20 ∨ g = g + 12 := y; omega), (kn9 g).2.2]
  have y25 : GY U 0 M z g p O P K V F1 ns1 sf1 ef1 L cnt Ab Be C M25 Ab Be C := by
    refine ⟨o25, h2.eq2 (fun i _ => kn25 _) (fun i hi => by rw [r25, if_neg (fun t => absurd t.1 (by omega)), if_neg (fun t => hi t.2)]), h3.eq2 (fun x _ => kn25 x) (fun i hi => by rw [r25, if_neg (fun t => absurd t.2 (by omega)), if_neg (fun t => absurd t.1 (by omega))]) (by rw [i25 (g + 10) (by omega) (by omega) (by omega)]) (by rw [z25.1]; exact Nat.le_refl _), h4.fa F25 ne.2.2.2 ne.1 ne.2.1 ne.2.2.1, ⟨by rw [r25, if_neg (fun t => absurd t.1 (by omega)), if_pos ⟨rfl, rfl⟩], by rw [r25, if_pos ⟨rfl, rfl⟩]⟩, ⟨h61, h62, h63⟩, fun x hx => absurd hx.2 (by decide), ⟨F25, ⟨Or.inl rfl, Or.inl rfl⟩, by rw [z25.2], by rw [z25.1]; exact Nat.le_refl _⟩, fun x hx => by rw [i25 (g + 15) (by omega) (by omega) (by omega), i25 (g + 10) (by omega) (by omega) (by omega)]; exact h7 x hx, fun i hi => by rw [i25 _ (pg i 20 hi (by omega)) (pg i 12 hi (by omega)) (pg i 0 hi (by omega))]⟩
  have s25 : SLt M25 g 0 := fun i hi => Or.inl (by rw [f25.2.2.2.2.2.2 _ (show ¬ g + 20 = g + 12 by first | rfl | omega), f16.2.2.2.2.2.2 _ (show ¬ g + 20 = g + 12 by first | rfl | omega)]; exact v11 i hi)
  have st25 : mI M25 (g + 10) 9 = mI M (g + 10) 9 := by rw [i25 (g + 10) (by omega) (by omega) (by omega)]
  have c0 : mI M25 g 0 = ((0 : Nat) : Int) := by rw [ig, q3, if_neg (by decide), if_neg (by decide), if_pos rfl]; rfl
  have c12 : mI M25 g 12 = ((0 : Nat) : Int) := by rw [ig, q3, if_neg (by decide), if_pos rfl]; rfl
  have c13 : mI M25 g 13 = ((0 : Nat) : Int) := by rw [ig, q3, if_pos rfl]; rfl
  have slm25 : SLm M25 g V 0 := ⟨SLq.nil (fun j hj => by
    rw [f25.2.2.2.2.2.2 _ (show ¬ g + 20 = g + 12 by first | rfl | omega), f16.2.2.2.2.2.2 _ (show ¬ g + 20 = g + 12 by first | rfl | omega)]
    exact v11 j hj), fun i j hi => absurd hi (by omega)⟩
  have nx25 : nxm M25 g V = (List.range V).map (mI M (p + 5)) := by
    unfold nxm
    refine List.map_congr_left (fun v hv => ?_)
    have hv := List.mem_range.mp hv
    rw [e25]
    show (if g + 10 + 2 = g + 12 ∧ Int.toNat 0 ≤ v ∧ v < Int.toNat 0 + Int.toNat ((V : Nat) : Int) then mI M16 (p + 5) (Int.toNat 0 + (v - Int.toNat 0)) else mI M16 (g + 10 + 2) v) = _
    rw [if_pos ⟨rfl, Nat.zero_le _, by show v < 0 + V; omega⟩, i16 (p + 5) (pg 5 20 (by omega) (by omega)) (pg 5 12 (by omega) (by omega)) (pg 5 0 (by omega) (by omega))]
    show mI M (p + 5) (0 + (v - 0)) = _
    rw [Nat.zero_add, Nat.sub_zero]
  refine (x_Ga_enter (d := d + 4) y25 c0 (by omega) slm25).mono (fun x28 M27 q => ?_)
  obtain ⟨⟨x27, f27, r27, cn', cn27, -, cn5', sl27, hto, i28, hm1⟩, ex⟩ := q
  have ge27 : cn' = 1 ∧ gxe M27 g V cn' [(List.range V).map (mI M (p + 5))] := by
    rcases ex with ⟨k', e1, -⟩ | ⟨no, ⟨e1, -⟩ | ⟨e1, e2, e3, e4, e5, e6⟩⟩
    · omega
    · omega
    · have cc' : cn' = 1 := by rw [cn27] at e3; omega
      subst cc'
      refine ⟨rfl, e3, e4, ?_⟩
      rw [Sm9_s e5 V12 e6, nx25]
      rfl
  obtain ⟨ecn, ge27⟩ := ge27
  refine ⟨i28, x27.1, ?_⟩
  have s27 : mI M27 (g + 10) 9 = mI M (g + 10) 9 + ((0 : Nat) : Int) := by
    rw [f27.2.2.2.2.2.2 (g + 10) (fun y => by have y' : g + 10 = g ∨ g + 10 = g + 1 ∨ g + 10 = g + 20 := y; omega), st25]
    omega
  refine x_dc72 hF cx px h8 512 0 M27 U 0 Ab Be C cn' 0 0 [(List.range V).map (mI M (p + 5))] [] (by omega) (by omega) hU x27 cn5' (by omega) (by omega) (by rw [r27 12 (by decide)]; exact c12) (by rw [r27 13 (by decide)]; exact c13) (Or.inl ⟨rfl, rfl, rfl⟩) s27 (fun s hs => ?_) ge27 rfl rfl rfl
  rw [List.mem_singleton.mp hs]
  intro l1 e l2 he h3
  have e9 : vcn (e :: l2) = vcn l2 + 1 := by
    show vcn l2 + (if e.2.1 = 3 then 1 else 0) = _
    rw [if_pos h3]
  have vl : vcn l1 < V := by
    rw [← cx.2.2.2.2.2, he, vcn_app, e9]
    omega
  have eq9 := getD_map (f := mI M (p + 5)) vl
  show (((List.range V).map (mI M (p + 5))).getD (vcn l1) 0).natAbs ≤ 999999999 ∧ (e.2.2.1 = 1 → ((List.range V).map (mI M (p + 5))).getD (vcn l1) 0 = 0 ∨ ((List.range V).map (mI M (p + 5))).getD (vcn l1) 0 = 1)
  rw [eq9]
  exact px.2.1 l1 e l2 he h3
end GBP
end
section
/-! The reference: what names are worth in a state. -/
section XVA
variable {G : mG} {d a g R W T V X n : Nat} {M M2 M3 : mM} {P S : Nat → Prop} {xv : Int → vrs}
/-- xv tells what names are worth: consts, met formulas, vars -/
def XVq (M : mM) (a g R W : Nat) (xv : Int → vrs) : Prop := (∀ r : Nat, r < R → (mI M (g + 13) r = 0 → xv (r : Int) = vr9 (tn M g r) (mL M (g + 16) r) (mL M (g + 17) r)) ∧ (mI M (g + 13) r ≠ 0 → mI M (a + 102) r ≠ 0 → xv (r : Int) = vr9 (tn M g r) (mL M (a + 103) r) (mL M (a + 104) r))) ∧ ∀ v : Nat, v < W → xv (100 + (v : Int)) = vr9 (tn M g (100 + (v : Int))) (mI M (a + 101) v) (if mI M (g + 18) v = 0 then 1 else 0)
/-- what a word is worth -/
def cvn9 (ww : Nat → Int) (xv : Int → vrs) (nv : Nat → Int) (k : Nat) : vrs := if ww k = 1 then xv (nv k) else if ww k = 2 then (0, nv k, 1) else if ww k = 12 then (0, 1, 1) else (0, 0, 1)
noncomputable abbrev vlX (ww pl : Nat → Int) (xv : Int → vrs) (nv : Nat → Int) (r : Nat × Nat) : vrs := vlr ww (cvn9 ww xv nv) pl r
noncomputable abbrev vfX (ww pl : Nat → Int) (xv : Int → vrs) (nv : Nat → Int) (rs : List (Nat × Nat)) : vrs := vft ww (cvn9 ww xv nv) pl rs
/-- what the trees stand for: intervals of words -/
def TBy9 (ww pl : Nat → Int) (M : mM) (g : Nat) (nv : Nat → Int) (md : Nat) (rs : List (Nat × Nat)) (n e : Nat) : Prop := (∀ r, r ∈ rs → Eo ww 6 r.1 r.2) ∧ if md = 0 then ∃ i j, rs = [(i, j)] ∧ Td ww pl nv (so M g) (pm M g) (va M g) (fp M g) (np M g) 0 0 i j n e else rs.length = md ∧ Tbq ww pl nv (so M g) (pm M g) (va M g) (fp M g) (np M g) (-1) rs n e
/-- the values are what the rules are worth -/
def woX (ww pl : Nat → Int) (xv : Int → vrs) (nv : Nat → Int) (a V : Nat) (rs : List (Nat × Nat)) (u : Nat → Int) (M3 : mM) : Prop := (vfX ww pl xv nv rs).1 = 0 ∧ ∀ j, j < rs.length → vlX ww pl xv nv (rs.getD j (0, 0)) = vr9 (u j) (mL M3 (a + 97) (V + j)) (mL M3 (a + 98) (V + j))
/-- the formulas' trees, and what they are worth -/
def FmX (ww pl : Nat → Int) (xv : Int → vrs) (M : mM) (g R : Nat) (E : Nat → Nat) : Prop := ∀ r : Nat, r < R → mI M (g + 13) r ≠ 0 → ∃ (n : Nat) (nv : Nat → Int) (i j : Nat), mI M (g + 15) r = (n : Int) ∧ Eo ww 6 i j ∧ Td ww pl nv (so M g) (pm M g) (va M g) (fp M g) (np M g) 0 0 i j n (E r) ∧ xv (r : Int) = vlq ww (cvn9 ww xv nv) pl 0 0 i j
theorem XVq.st (hg : g = a + 13 ∨ g = a + 49) (w : Wd M a) (m : Mv P S M a M3) (hP : ∀ q, P q → q = a + 99) (hS : ∀ x, S x → vS a x) (h : XVq M a g R W xv) : XVq M3 a g R W xv := by
  have hin : ∀ q, P q → q ∈ nums a := fun q hq => by rw [hP q hq]; exact n99
  have hS' : ∀ x, S x → woS a x := fun x z => by
    have : x = a ∨ x = a + 97 ∨ x = a + 98 := hS _ z
    show x = a ∨ x = a + 97 ∨ x = a + 98 ∨ x = a + 102 ∨ x = a + 103 ∨ x = a + 104
    omega
  have gs := gs_mv hg w m hin hS'
  have no : ∀ i, 102 ≤ i → i ≤ 104 → ¬ S (a + i) := fun i i1 i2 z => by
    have : a + i = a ∨ a + i = a + 97 ∨ a + i = a + 98 := hS _ z
    omega
  have c102 := (m.cellL w hin (offx (a := a) (o := 102) (by decide)) (no 102 (by omega) (by omega))).1
  have c103 := (m.cellL w hin (offx (a := a) (o := 103) (by decide)) (no 103 (by omega) (by omega))).2
  have c104 := (m.cellL w hin (offx (a := a) (o := 104) (by decide)) (no 104 (by omega) (by omega))).2
  have gt := gs.tyn
  obtain ⟨g13, g14, g15, g18, g16, g17, g101⟩ := gs
  unfold XVq
  rw [gt, g13, g16, g17, c102, c103, c104, g18, g101]
  exact h
theorem XVq.pile (hg : g = a + 13 ∨ g = a + 49) (w : Wd M a) (m : Mv (fun x => x = a + 99) (fun _ => False) M a M3) (h : XVq M a g R W xv) : XVq M3 a g R W xv := h.st hg w m (fun q hq => hq) (fun x hx => hx.elim)
/-- a formula's value is kept -/
theorem XVq.met {r : Nat} {A B : Int} {M4 M5 M6 : mM} (hg : g = a + 13 ∨ g = a + 49) (h : XVq M3 a g R W xv) (hv : xv (r : Int) = vr9 (tn M3 g r) A B) (e4 : M4 = mUI M3 (a + 102) r 1) (e5 : M5 = mUL M4 (a + 103) r A) (e6 : M6 = mUL M5 (a + 104) r B) : XVq M6 a g R W xv := by
  have iI : ∀ x k, ¬ (x = a + 102 ∧ k = r) → mI M6 x k = mI M3 x k := fun x k hx => by
    rw [e6, e5, e4]
    show mI (mUI M3 (a + 102) r 1) x k = _
    rw [mI_UI, if_neg hx]
  have lL : ∀ x k, ¬ (x = a + 103 ∧ k = r) → ¬ (x = a + 104 ∧ k = r) → mL M6 x k = mL M3 x k := fun x k h1 h2 => by
    rw [e6, mL_UL, if_neg h2, e5, mL_UL, if_neg h1, e4]
    rfl
  have l3 : mL M6 (a + 103) r = A := by rw [e6, mL_UL, if_neg (fun z => by omega), e5, mL_UL, if_pos ⟨rfl, rfl⟩]
  have l4 : mL M6 (a + 104) r = B := by rw [e6, mL_UL, if_pos ⟨rfl, rfl⟩]
  have gt : tn M6 g = tn M3 g := by
    funext v
    unfold tn
    rw [iI _ _ (by omega), iI _ _ (by omega)]
  refine ⟨fun r' hr' => ?_, fun v hv' => ?_⟩
  · obtain ⟨h1, h2⟩ := h.1 r' hr'
    rw [gt, iI (g + 13) r' (by omega), lL (g + 16) r' (by omega) (by omega), lL (g + 17) r' (by omega) (by omega)]
    refine ⟨h1, fun z1 z2 => ?_⟩
    by_cases y : r' = r
    · rw [y, l3, l4]
      exact hv
    · rw [iI (a + 102) r' (fun u => y u.2)] at z2
      rw [lL (a + 103) r' (fun u => y u.2) (by omega), lL (a + 104) r' (by omega) (fun u => y u.2)]
      exact h2 z1 z2
  · rw [gt, iI (a + 101) v (by omega), iI (g + 18) v (by omega)]
    exact h.2 v hv'
theorem x_MM_nameT {v : Int} (hx : XVq M a g R W xv) (h : Ev True M a g R W T) (hvn : nme True M g R W v) (hV : mI M a 23 = (V : Int)) (hb : V < 16400) (hl : ln M (a + 99) = (X : Int)) (hX : X ≤ 64000) : Cv G y_MM_name (d + 2) [vr a, vr g, vi v] M (fun M' => mOk M' ∧ ((∃ A B : Int, vok (tn M g v) A B ∧ psQ M a V A B M' ∧ vr9 (tn M g v) A B = xv v) ∨ nfQ True M a g X v M')) := by
  have hv : (0 ≤ v ∧ v < R) ∨ (100 ≤ v ∧ v < 100 + W) := hvn.elim (fun z => Or.inl ⟨z.1, z.2.1⟩) (fun z => Or.inr z.2)
  obtain ⟨hO, w, hg, hn, hB, hr, hw⟩ := h
  have gp := w.gp hg
  have r7 : mR M g 7 = g + 13 := gp.2.1.2.2.2.2.2.2.1
  have r9 : mR M g 9 = g + 15 := gp.2.1.2.2.2.2.2.2.2.2.1
  have r10 : mR M g 10 = g + 16 := gp.2.1.2.2.2.2.2.2.2.2.2.1
  have r11 : mR M g 11 = g + 17 := gp.2.1.2.2.2.2.2.2.2.2.2.2
  have r13 : mR M g 13 = g + 18 := gp.2.2.1.1
  have B := w.1.2.2.2.2.1.2.2.2.2.2.2.2.2.2
  have r25 : mR M a 25 = a + 101 := B.1
  have r26 : mR M a 26 = a + 102 := B.2.1
  have r27 : mR M a 27 = a + 103 := B.2.2.1
  have r28 : mR M a 28 = a + 104 := B.2.2.2
  have A8 := w.1.2.2.2.2.2.2.2.1
  have g13 := gp.2.2.2.1.1
  have g15 := gp.2.2.2.1.2.2.1
  have g16 := gp.2.2.2.1.2.2.2.1
  have g17 := gp.2.2.2.1.2.2.2.2
  have g18 := gp.2.2.2.2.1.1
  refine k_MM_name hO ⟨by omega, by omega⟩ ?_
  rw [r7, r10, r11, r13, r25, r26, r27, r28]
  refine ⟨fun q => ?_, fun q => ?_⟩
  · have hvr : v.toNat < R := by omega
    obtain ⟨b1, b2⟩ := hr v.toNat hvr
    obtain ⟨x1, x2⟩ := hx.1 v.toNat hvr
    rw [show ((v.toNat : Nat) : Int) = v by first | rfl | omega] at b1 b2 x1 x2
    refine ⟨gp.1, g13.1, by rw [g13.2]; omega, fun z => ⟨g16.1, by rw [g16.2]; omega, g17.1, by rw [g17.2]; omega, w.1.1, (s_MM_push (hO _ _).2 (hO _ _).2 hO w hV hb).mono (fun M' t => ⟨t.1, t.1, Or.inl ⟨_, _, b1 z, t.2, (x1 z).symm⟩⟩)⟩, fun z => ⟨w.1.1, A8.2.2.2.1.1, by rw [A8.2.2.2.1.2]; omega, fun z2 => ?_, fun z2 => ⟨A8.2.2.2.2.1.1, by rw [A8.2.2.2.2.1.2]; omega, A8.2.2.2.2.2.1, by rw [A8.2.2.2.2.2.2]; omega, (s_MM_push (hO _ _).2 (hO _ _).2 hO w hV hb).mono (fun M' t => ⟨t.1, t.1, Or.inl ⟨_, _, b2 trivial z z2, t.2, (x2 z z2).symm⟩⟩)⟩⟩⟩
    refine (s_MM_todo (d := d) ⟨by omega, by omega⟩ ⟨by omega, by omega⟩ hO w hl (by omega)).mono (fun M2 t => ?_)
    obtain ⟨o2, m2, l2, e2, x2', y2⟩ := t
    have w2 := m2.2.1
    have gp2 := w2.gp hg
    have q15 := goff15 hg
    have c15 := m2.cell w (fun q hq => by rw [hq]; exact n99) q15.1 q15.2.1 q15.2.2 (fun z => z)
    rw [show mR M2 g 9 = g + 15 from gp2.2.1.2.2.2.2.2.2.2.2.1, c15]
    refine ⟨o2, gp2.1, gp2.2.2.2.1.2.2.1.1, by rw [gp2.2.2.2.1.2.2.1.2]; omega, w2.1.1, (s_MM_todo (d := d) ⟨by omega, by omega⟩ (hO _ _).1 o2 w2 l2 (by omega)).mono (fun M3 t => ?_)⟩
    obtain ⟨o3, m3, l3, e3, x3, y3⟩ := t
    exact ⟨o3, o3, Or.inr ⟨trivial, q, z, z2, m2.trans m3, by rw [l3], fun j hj => by rw [e3 j (by omega), e2 j hj], by rw [e3 X (by omega)]; exact x2', by rw [e3 (X + 1) (by omega)]; exact y2, x3, y3⟩⟩
  · have b := hw trivial (v - 100).toNat (by omega)
    have x := hx.2 (v - 100).toNat (by omega)
    rw [show (100 : Int) + ((v - 100).toNat : Nat) = v by first | rfl | omega] at b x
    refine ⟨w.1.1, A8.2.2.1.1, by rw [A8.2.2.1.2]; omega, gp.1, g18.1, by rw [g18.2]; omega, fun u hu => ?_⟩
    rw [← hu] at b x
    have i1 := (hO (a + 101) (v - 100).toNat).1
    exact (s_MM_push ⟨by have := i1.1; omega, by have := i1.2; omega⟩ ⟨by split at hu <;> omega, by split at hu <;> omega⟩ hO w hV hb).mono (fun M' t => ⟨t.1, t.1, Or.inl ⟨_, _, b, t.2, x.symm⟩⟩)
theorem x_bg_leafT {t : Int} (hx : XVq M a g R W xv) (h : Ev True M a g R W T) (hn : n < T) (hs : so M g n = 1 ∨ so M g n = 2 ∨ so M g n = 12 ∨ so M g n = 13) (h2 : so M g n = 2 → 0 ≤ va M g n ∧ va M g n < 1000000000) (h1 : so M g n = 1 → nme True M g R W (va M g n)) (ht : tyn (tn M g) (so M g n) (va M g n) 0 (fun _ => 0) t) (hV : mI M a 23 = (V : Int)) (hb : V < 16400) (hl : ln M (a + 99) = (X : Int)) (hX : X ≤ 64000) : Cv G y_MM_begin (d + 3) [vr a, vr g, vi n] M (fun M' => mOk M' ∧ ((∃ A B : Int, vok t A B ∧ psQ M a V A B M' ∧ (if so M g n = 1 then xv (va M g n) else if so M g n = 2 then (0, va M g n, 1) else if so M g n = 12 then (0, 1, 1) else (0, 0, 1)) = vr9 t A B) ∨ (so M g n = 1 ∧ t = tn M g (va M g n) ∧ nfQ True M a g X (va M g n) M'))) := by
  obtain ⟨hO, w, -⟩ := id h
  unfold tyn at ht
  refine s_bg h hn (fun q => ?_) (fun q => ?_) (fun q => ?_) (fun q => by omega) (fun q => by omega)
  · rw [if_pos q] at ht
    refine (x_MM_nameT (d := d) hx h (h1 q) hV hb hl hX).mono (fun M' t' => ⟨t'.1, t'.1, ?_⟩)
    rcases t'.2 with ⟨A, B, y1, y2, y3⟩ | y
    · exact Or.inl ⟨A, B, by rw [ht]; exact y1, y2, by rw [if_pos q, ht]; exact y3.symm⟩
    · exact Or.inr ⟨q, ht, y⟩
  · rw [if_neg (by omega), if_pos q] at ht
    have := h2 q
    exact (s_MM_push ⟨by omega, by omega⟩ ⟨by omega, by omega⟩ hO w hV hb).mono (fun M' t' => ⟨t'.1, t'.1, Or.inl ⟨_, _, Or.inl ⟨ht, by omega, by omega, by omega, by omega⟩, t'.2, by rw [if_neg (by omega), if_pos q]; unfold vr9; rw [ht]; rfl⟩⟩)
  · rw [if_neg (by omega), if_neg (by omega), if_pos q] at ht
    refine (s_MM_pushTruth (d := d + 1) ⟨by split <;> omega, by split <;> omega⟩ hO w hV hb).mono (fun M' t' => ⟨t'.1, t'.1, Or.inl ⟨_, _, Or.inr ⟨ht, ?_, rfl⟩, t'.2, ?_⟩⟩)
    · generalize (if so M g n = 12 then (1 : Int) else 0) = b
      by_cases z : b = 0
      · rw [if_pos z]; exact Or.inl rfl
      · rw [if_neg z]; exact Or.inr rfl
    · rw [if_neg (show ¬ so M g n = 1 by first | rfl | omega), if_neg (show ¬ so M g n = 2 by first | rfl | omega)]
      unfold vr9
      rw [ht]
      by_cases z : so M g n = 12
      · simp [z]
      · simp [z]
end XVA
end
