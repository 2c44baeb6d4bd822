section
/-! The class's game, exactly: the multiple and the sum of chances. -/
section GAV
variable {G : mG} {d z g p O P K V F L cnt U Ab Be C Ab0 Be0 C0 s h t c cn k u v cc n : Nat} {M0 M M' M1 M2 : mM} {ns : Nat → Int} {sf ef : Nat → Nat} {H : Nat → Nat} {S R : Nat → Prop}
theorem x_Ga_fault {x y : Int} (hx : i32 x) (hy : i32 y) (hO : mOk M) (hk : mK M g = 7) : Ci G y_Ga_fault d [vr g, vi x, vi y] M (fun r M' => r = x ∧ plQ M g M' ∧ mI M' g 10 = y) := by
  refine k_Ga_fault hO hx hy ⟨hk, fun M2 e2 => ⟨rfl, ⟨by rw [e2]; exact mOk_UI hO hy, by rw [e2]; exact FI.ui rfl, fun i hi => ?_⟩, by rw [mI_ui g 10 e2, if_pos ⟨rfl, rfl⟩]⟩⟩
  rw [mI_ui g i e2, if_neg (fun u => hi u.2)]
/-- the chances of n branches -/
def lch9 (M : mM) (g : Nat) : Nat → List (Int × Int)
  | 0 => []
  | n + 1 => lch9 M g n ++ [(mI M (g + 21) n, mI M (g + 22) n)]
theorem lch_cg : ∀ n, (∀ b, b < n → mI M' (g + 21) b = mI M (g + 21) b ∧ mI M' (g + 22) b = mI M (g + 22) b) → lch9 M' g n = lch9 M g n
  | 0, _ => rfl
  | n + 1, hh => by
    show lch9 M' g n ++ [(mI M' (g + 21) n, mI M' (g + 22) n)] = lch9 M g n ++ [(mI M (g + 21) n, mI M (g + 22) n)]
    rw [lch_cg n (fun b hb => hh b (by omega)), (hh n (by omega)).1, (hh n (by omega)).2]
theorem smq_app {m : Int} (l r : List (Int × Int)) : smq9 m (l ++ r) = smq9 m l + smq9 m r := by
  induction l with
  | nil => show smq9 m r = 0 + smq9 m r; omega
  | cons x l ih =>
    show m / x.2 * x.1 + smq9 m (l ++ r) = m / x.2 * x.1 + smq9 m l + smq9 m r
    rw [ih]
    omega
theorem shs_smq {mu : Nat} : ∀ {n : Nat}, chz M g n → 1 ≤ mu → smq9 ((mu : Nat) : Int) (lch9 M g n) = shS M g ((mu : Nat) : Int) n
  | 0, _, _ => rfl
  | n + 1, h, hm => by
    show smq9 ((mu : Nat) : Int) (lch9 M g n ++ [(mI M (g + 21) n, mI M (g + 22) n)]) = shS M g ((mu : Nat) : Int) n + Int.tdiv ((mu : Nat) : Int) (mI M (g + 22) n) * mI M (g + 21) n
    rw [smq_app, shs_smq (fun b hb => h b (by omega)) hm, Int.tdiv_eq_ediv_of_nonneg (by omega)]
    show _ + (((mu : Nat) : Int) / mI M (g + 22) n * mI M (g + 21) n + 0) = _
    omega
theorem muq_zero : ∀ (l : List (Int × Int)), muq9 l 0 = 0
  | [] => rfl
  | x :: l => by
    show (if 1000000000 ≤ (0 : Int) / (Int.gcd 0 x.2 : Int) * x.2 then 0 else muq9 l ((0 : Int) / (Int.gcd 0 x.2 : Int) * x.2)) = 0
    rw [Int.zero_ediv, Int.zero_mul, if_neg (by decide)]
    exact muq_zero l
theorem muq_app : ∀ (l r : List (Int × Int)) (m : Int), muq9 (l ++ r) m = if muq9 l m = 0 then 0 else muq9 r (muq9 l m)
  | [], r, m => by
    show muq9 r m = if m = 0 then 0 else muq9 r m
    by_cases y : m = 0
    · rw [if_pos y, y]; exact muq_zero r
    · rw [if_neg y]
  | x :: l, r, m => by
    show (if 1000000000 ≤ m / (Int.gcd m x.2 : Int) * x.2 then 0 else muq9 (l ++ r) (m / (Int.gcd m x.2 : Int) * x.2)) = if (if 1000000000 ≤ m / (Int.gcd m x.2 : Int) * x.2 then 0 else muq9 l (m / (Int.gcd m x.2 : Int) * x.2)) = 0 then 0 else muq9 r (if 1000000000 ≤ m / (Int.gcd m x.2 : Int) * x.2 then 0 else muq9 l (m / (Int.gcd m x.2 : Int) * x.2))
    by_cases y : 1000000000 ≤ m / (Int.gcd m x.2 : Int) * x.2
    · simp only [if_pos y, if_true]
    · simp only [if_neg y]
      exact muq_app l r _
theorem muq_up {i : Nat} (h : muq9 (lch9 M g i) 1 = 0) : ∀ n, i ≤ n → muq9 (lch9 M g n) 1 = 0 := by
  intro n
  induction n with
  | zero =>
    intro hn
    rw [show (0 : Nat) = i by omega]
    exact h
  | succ n ih =>
    intro hn
    by_cases y : i = n + 1
    · rw [← y]; exact h
    · show muq9 (lch9 M g n ++ [(mI M (g + 21) n, mI M (g + 22) n)]) 1 = 0
      rw [muq_app, if_pos (ih (by omega))]
/-- what the weighing of n chances comes to; pc the command's place -/
def weX (pc : Int) (g cc : Nat) (l : List (Int × Int)) (MA : mM) (r : Int) (M' : mM) : Prop := (muq9 l 1 = 0 ∧ r = 6 ∧ mI M' g 10 = pc) ∨ (muq9 l 1 ≠ 0 ∧ smq9 (muq9 l 1) l ≠ muq9 l 1 ∧ r = 11 ∧ mI M' g 10 = pc) ∨ (muq9 l 1 ≠ 0 ∧ smq9 (muq9 l 1) l = muq9 l 1 ∧ r = 0 ∧ mI M' (g + 6) cc = muq9 l 1 ∧ FI (fun x => x = g + 6) MA M')
theorem x_we232 {MA : mM} {mu : Nat} (fA : FI (fun x => x = g + 6) MA M) (hx : GX M0 z g p O P K V F ns sf ef L cnt Ab0 Be0 C0 M Ab Be C) (hw : wgF M1 g M) (hc : c < cnt) (hn : n ≤ 8) (hch : chz M g n) (hmu : 1 ≤ mu ∧ mu < 1000000000) (h6 : mI M (g + 6) cc = ((mu : Nat) : Int)) (hm9 : muq9 (lch9 M g n) 1 = ((mu : Nat) : Int)) (hdv : ∀ b, b < n → (mI M (g + 22) b) ∣ ((mu : Nat) : Int)) : ∀ (t i : Nat), n ≤ i + t → i ≤ n → 0 ≤ shS M g mu i → shS M g mu i ≤ i * 1000000000 → h_Ga_weighChances_232 G d g c n mu (shS M g mu i) i M (fun r M' => weQ M0 z g p O P K V F ns sf ef L cnt Ab0 Be0 C0 M1 n cc r M' ∧ weX (mI M (p + 10) c) g cc (lch9 M g n) MA r M') := by
  obtain ⟨h1, h2, h3, h4, h5, -⟩ := id hx
  obtain ⟨g0, ⟨-, -, -, -, -, -, -, -, -, -, -, g17, g18⟩, ⟨-, -, -, -, -, -, -, -, -, -, k21, k22⟩, ⟨-, -, -, -, -, -, -, -, -, -, n21, n22⟩⟩ := h2
  have p14 := h4.1.2.2.2.2.2.2.1.2.2.2.2.2.2.2.1
  have kp14 := h4.1.2.2.2.2.2.2.2.1.2.2.2.2.2.2.2.1
  have np14 := h4.1.2.2.2.2.2.2.2.2.2.2.2.2.2.2.2.1
  have c60 := h4.2.2.2.2.1.2
  intro t
  induction t with
  | zero =>
    intro i hi hi2 s0 s1
    have cm := (cmpz (shS M g mu i) mu).2.2.2.1
    have en : i = n := by omega
    refine k_Ga_weighChances_232 h1 (i32s (by omega) (by omega)) (i32s (by omega) (by omega)) ⟨by omega, by omega⟩ ⟨by omega, by omega⟩ (i32s (by omega) (by omega)) ⟨fun _ => ⟨fun y => ?_, fun y => ?_⟩, fun y => absurd y (by omega)⟩
    · rw [cm] at y
      rw [en] at y
      exact k_Ga_weighChances_296 h1 ⟨by decide, by decide⟩ ⟨⟨⟨by decide, by decide⟩, hw, ⟨Ab, Be, C, hx⟩, fun _ => ⟨hch, mu, h6, hmu.1, hmu.2, y, hdv⟩⟩, Or.inr (Or.inr ⟨by rw [hm9]; omega, by rw [hm9, shs_smq hch (by omega)]; exact y, rfl, by rw [hm9]; exact h6, fA⟩)⟩
    · rw [h5.1, p14, np14]
      refine ⟨g0, h4.1.1, kp14, by omega, (x_Ga_fault ⟨by decide, by decide⟩ (h1 _ _).1 h1 g0).mono (fun r M' q => ?_)⟩
      rw [q.1]
      exact ⟨⟨by decide, by decide⟩, q.2.1.1, k_Ga_weighChances_296 q.2.1.1 ⟨by decide, by decide⟩ ⟨pl_we hx hw q.2.1 ⟨by decide, by decide⟩ (by decide), Or.inr (Or.inl ⟨by rw [hm9]; omega, by rw [hm9, shs_smq hch (by omega)]; intro y9; exact y (cm.mpr (by rw [show i = n by omega]; exact y9)), rfl, by rw [q.2.2, Int.toNat_natCast]⟩)⟩⟩
  | succ t ih =>
    intro i hi hi2 s0 s1
    have cm := (cmpz (shS M g mu i) mu).2.2.2.1
    refine k_Ga_weighChances_232 h1 (i32s (by omega) (by omega)) (i32s (by omega) (by omega)) ⟨by omega, by omega⟩ ⟨by omega, by omega⟩ (i32s (by omega) (by omega)) ⟨fun yy => ⟨fun y => ?_, fun y => ?_⟩, fun y => ?_⟩
    · have en : i = n := by omega
      rw [cm] at y
      rw [en] at y
      exact k_Ga_weighChances_296 h1 ⟨by decide, by decide⟩ ⟨⟨⟨by decide, by decide⟩, hw, ⟨Ab, Be, C, hx⟩, fun _ => ⟨hch, mu, h6, hmu.1, hmu.2, y, hdv⟩⟩, Or.inr (Or.inr ⟨by rw [hm9]; omega, by rw [hm9, shs_smq hch (by omega)]; exact y, rfl, by rw [hm9]; exact h6, fA⟩)⟩
    · rw [h5.1, p14, np14]
      refine ⟨g0, h4.1.1, kp14, by omega, (x_Ga_fault ⟨by decide, by decide⟩ (h1 _ _).1 h1 g0).mono (fun r M' q => ?_)⟩
      rw [q.1]
      exact ⟨⟨by decide, by decide⟩, q.2.1.1, k_Ga_weighChances_296 q.2.1.1 ⟨by decide, by decide⟩ ⟨pl_we hx hw q.2.1 ⟨by decide, by decide⟩ (by decide), Or.inr (Or.inl ⟨by rw [hm9]; omega, by rw [hm9, shs_smq hch (by omega)]; intro y9; exact y (cm.mpr (by rw [show i = n by omega]; exact y9)), rfl, by rw [q.2.2, Int.toNat_natCast]⟩)⟩⟩
    · have inn : i < n := by omega
      obtain ⟨b1, b2, b3, b4⟩ := hch i inn
      rw [g18, g17, n22, n21, Int.toNat_natCast]
      have e : shS M g mu (i + 1) = shS M g mu i + Int.tdiv mu (mI M (g + 22) i) * mI M (g + 21) i := rfl
      have tb : 0 ≤ Int.tdiv mu (mI M (g + 22) i) * mI M (g + 21) i ∧ Int.tdiv mu (mI M (g + 22) i) * mI M (g + 21) i ≤ 1000000000 := by
        have q0 := Int.tdiv_nonneg (show (0 : Int) ≤ mu by omega) (show (0 : Int) ≤ mI M (g + 22) i by omega)
        refine ⟨Int.mul_nonneg q0 b1, ?_⟩
        have q1 := Int.mul_le_mul_of_nonneg_left b2 q0
        have q2 : Int.tdiv mu (mI M (g + 22) i) * mI M (g + 22) i ≤ mu := by
          rw [Int.tdiv_eq_ediv_of_nonneg (by omega)]
          exact Int.ediv_mul_le _ (by omega)
        omega
      refine ⟨g0, k22, by omega, by omega, k21, by omega, ?_⟩
      rw [← e, show ((i : Int) + 1) = ((i + 1 : Nat) : Int) by omega]
      exact ih (i + 1) (by omega) (by omega) (by rw [e]; omega) (by rw [e]; omega)
theorem x_we150 (hx : GX M0 z g p O P K V F ns sf ef L cnt Ab0 Be0 C0 M Ab Be C) (hw : wgF M1 g M) (hc : c < cnt) (hn : n ≤ 8) (hch : chz M g n) (hcc : mI M g 12 = ((cc : Nat) : Int)) (hcc2 : cc ≤ 4096) (hcc1 : mI M1 g 12 = ((cc : Nat) : Int)) : ∀ (t i mu : Nat), n ≤ i + t → i ≤ n → (1 ≤ mu ∧ mu < 1000000000) → muq9 (lch9 M g i) 1 = ((mu : Nat) : Int) → (∀ b, b < i → (mI M (g + 22) b) ∣ ((mu : Nat) : Int)) → h_Ga_weighChances_150 G (d + 1) g c n mu i M (fun r M' => weQ M0 z g p O P K V F ns sf ef L cnt Ab0 Be0 C0 M1 n cc r M' ∧ weX (mI M (p + 10) c) g cc (lch9 M g n) M r M') := by
  obtain ⟨h1, h2, h3, h4, h5, -⟩ := id hx
  obtain ⟨g0, ⟨-, -, -, -, -, g6, -, -, -, -, -, g17, g18⟩, ⟨-, -, -, -, -, k6, -, -, -, -, k21, k22⟩, ⟨-, -, -, -, -, n6, -, -, -, -, n21, n22⟩⟩ := h2
  have p14 := h4.1.2.2.2.2.2.2.1.2.2.2.2.2.2.2.1
  have kp14 := h4.1.2.2.2.2.2.2.2.1.2.2.2.2.2.2.2.1
  have np14 := h4.1.2.2.2.2.2.2.2.2.2.2.2.2.2.2.2.1
  have c60 := h4.2.2.2.2.1.2
  have fin : ∀ {mu : Nat}, (1 ≤ mu ∧ mu < 1000000000) → muq9 (lch9 M g n) 1 = ((mu : Nat) : Int) → (∀ b, b < n → (mI M (g + 22) b) ∣ ((mu : Nat) : Int)) → mK M g = 7 ∧ mK M (mR M g 6) = 30 ∧ ((0 : Int) ≤ mI M g 12 ∧ mI M g 12 < (mN M (mR M g 6) : Int)) ∧ i32 ((mu : Nat) : Int) ∧ ∀ M66, M66 = mUI M (mR M g 6) (Int.toNat (mI M g 12)) mu → h_Ga_weighChances_232 G (d + 1) g c n mu 0 0 M66 (fun r M' => weQ M0 z g p O P K V F ns sf ef L cnt Ab0 Be0 C0 M1 n cc r M' ∧ weX (mI M (p + 10) c) g cc (lch9 M g n) M r M') := fun {mu} hmu hm9 hd => by
    rw [g6, n6, hcc, Int.toNat_natCast]
    refine ⟨g0, k6, by omega, ⟨by omega, by omega⟩, fun M66 e66 => ?_⟩
    have f66 : FI (fun x => x = g + 6) M M66 := by rw [e66]; exact FI.ui rfl
    have nb : ∀ x, x ≠ g + 6 → mI M66 x = mI M x := fun x hx => f66.2.2.2.2.2.2 x hx
    have o66 : mOk M66 := by rw [e66]; exact mOk_UI h1 ⟨by omega, by omega⟩
    have x66 := hx.fi o66 (f66.mono (fun x y => Or.inl (by have y' : x = g + 6 := y; omega)))
    have w66 : wgF M g M66 := ⟨fun i _ => by rw [nb g (by omega)], fun i i1 i9 i6 => nb _ (by omega), nb _ (by omega), fun i hi => by rw [mI_ui _ i e66, if_neg (fun t => hi (by rw [hcc, Int.toNat_natCast]; exact t.2))], by rw [nb _ (by omega)]⟩
    have e21 := nb (g + 21) (by omega)
    have e22 := nb (g + 22) (by omega)
    have ep : mI M66 (p + 10) c = mI M (p + 10) c := by rw [nb _ (by have := hx.2.2.2.2.2.1.2.1; omega)]
    have el : lch9 M66 g n = lch9 M g n := lch_cg n (fun b _ => by rw [e21, e22]; exact ⟨rfl, rfl⟩)
    rw [← ep, ← el]
    exact x_we232 (cc := cc) (MA := M) f66 x66 (hw.trans w66) hc hn (fun b hb => by rw [e21, e22]; exact hch b hb) hmu (by rw [mI_ui _ _ e66, if_pos ⟨rfl, rfl⟩]) (by rw [el]; exact hm9) (fun b hb => by rw [e22]; exact hd b hb) n 0 (by omega) (by omega) (Int.le_refl _) (by show (0 : Int) ≤ _; omega)
  intro t
  induction t with
  | zero =>
    intro i mu hi hi2 hmu hm hd
    exact k_Ga_weighChances_150 h1 (i32s (by omega) (by omega)) (i32s (by omega) (by omega)) ⟨by omega, by omega⟩ (i32s (by omega) (by omega)) ⟨fun _ => fin hmu (by rw [show n = i by omega]; exact hm) (fun b hb => hd b (by omega)), fun y => absurd y (by omega)⟩
  | succ t ih =>
    intro i mu hi hi2 hmu hm hd
    refine k_Ga_weighChances_150 h1 (i32s (by omega) (by omega)) (i32s (by omega) (by omega)) ⟨by omega, by omega⟩ (i32s (by omega) (by omega)) ⟨fun y => fin hmu (by rw [show n = i by omega]; exact hm) (fun b hb => hd b (by omega)), fun y => ?_⟩
    have inn : i < n := by omega
    obtain ⟨b1, b2, b3, b4⟩ := hch i inn
    rw [g18, n22, Int.toNat_natCast]
    obtain ⟨bl, ebl⟩ : ∃ bl : Nat, mI M (g + 22) i = ((bl : Nat) : Int) := ⟨(mI M (g + 22) i).toNat, by omega⟩
    rw [ebl]
    refine ⟨g0, k22, by omega, (x_Ma_commonDivisor (x := (mu : Int)) (y := (bl : Int)) (by omega) (by omega) h1).mono (fun r M' q => ?_)⟩
    obtain ⟨e', ⟨w1, -⟩, ew⟩ := q
    obtain ⟨w, ewn⟩ : ∃ w : Nat, w = Nat.gcd mu bl := ⟨_, rfl⟩
    have ew : r = ((w : Nat) : Int) := by rw [ew, ewn]; rfl
    have w1 : 1 ≤ w := by omega
    obtain ⟨q1, wd1⟩ : w ∣ mu := by rw [ewn]; exact Nat.gcd_dvd_left _ _
    obtain ⟨q2, wd2⟩ : w ∣ bl := by rw [ewn]; exact Nat.gcd_dvd_right _ _
    subst e'
    have ed : Int.tdiv (mu : Int) r = ((q1 : Nat) : Int) := by
      rw [ew, Int.tdiv_eq_ediv_of_nonneg (by omega), wd1]
      rw [Int.natCast_mul]
      exact Int.mul_ediv_cancel_left _ (by omega)
    have q10 : 1 ≤ q1 := by
      by_cases u : q1 = 0
      · rw [u] at wd1; omega
      · omega
    have wm : w ≤ mu := by rw [wd1]; exact Nat.le_mul_of_pos_right _ (by omega)
    have q1m : q1 ≤ mu := by rw [wd1]; exact Nat.le_mul_of_pos_left _ (by omega)
    rw [ed, g18, n22, ebl, ← Int.natCast_mul]
    have pb : q1 * bl ≤ 1000000000 * 1000000000 := Nat.mul_le_mul (by omega) (by omega)
    have p1 : 1 ≤ q1 * bl := Nat.mul_pos (by omega) (by omega)
    have cm := (cmpz ((q1 * bl : Nat) : Int) 1000000000).2.2.1
    have nx9 : muq9 (lch9 M' g (i + 1)) 1 = if (1000000000 : Int) ≤ ((q1 * bl : Nat) : Int) then 0 else ((q1 * bl : Nat) : Int) := by
      show muq9 (lch9 M' g i ++ [(mI M' (g + 21) i, mI M' (g + 22) i)]) 1 = _
      rw [muq_app, hm, if_neg (by omega), ebl]
      show (if (1000000000 : Int) ≤ (mu : Int) / (Int.gcd (mu : Int) (bl : Int) : Int) * (bl : Int) then 0 else (mu : Int) / (Int.gcd (mu : Int) (bl : Int) : Int) * (bl : Int)) = _
      have e3 : (mu : Int) / (Int.gcd (mu : Int) (bl : Int) : Int) * (bl : Int) = ((q1 * bl : Nat) : Int) := by
        have e4 : (Int.gcd (mu : Int) (bl : Int) : Int) = ((w : Nat) : Int) := by rw [ewn]; rfl
        rw [e4, Int.natCast_mul, ← ed, ew, Int.tdiv_eq_ediv_of_nonneg (by omega)]
      rw [e3]
    refine ⟨by rw [ew]; exact ⟨by omega, by omega⟩, h1, by omega, g0, k22, by omega, ⟨by omega, by omega⟩, fun y1 => ?_, fun y1 => ?_⟩
    · rw [cm] at y1
      rw [show ((i : Int) + 1) = ((i + 1 : Nat) : Int) by omega]
      refine ih (i + 1) (q1 * bl) (by omega) (by omega) ⟨p1, by omega⟩ (by rw [nx9, if_neg (by omega)]) (fun b hb => ?_)
      by_cases yb : b = i
      · rw [yb, ebl, Int.natCast_mul]
        exact Int.dvd_mul_left _ _
      · have e2 : ((q1 * bl : Nat) : Int) = (mu : Int) * (q2 : Int) := by
          rw [wd1, wd2, ← Int.natCast_mul]
          congr 1
          rw [Nat.mul_left_comm, Nat.mul_assoc]
        rw [e2]
        exact Int.dvd_trans (hd b (by omega)) (Int.dvd_mul_right _ _)
    · rw [h5.1, p14, np14]
      refine ⟨h4.1.1, kp14, by omega, (x_Ga_fault ⟨by decide, by decide⟩ (h1 _ _).1 h1 g0).mono (fun r2 M2 q => ?_)⟩
      rw [q.1]
      rw [cm] at y1
      exact ⟨⟨by decide, by decide⟩, q.2.1.1, pl_we hx hw q.2.1 ⟨by decide, by decide⟩ (by decide), Or.inl ⟨muq_up (by rw [nx9, if_pos (by omega)]) n (by omega), rfl, by rw [q.2.2, Int.toNat_natCast]⟩⟩
end GAV
end
section
/-! The class's machine, exactly: a rule that was read when only the first H consts and formulas were known. -/
section QAJ
variable {G : mG} {d z m U Ab0 Be0 C0 cc p O P K L F0 H s0 : Nat} {M0 : mM} {w E pl : Nat → Int} {cv : Nat → vrs} {ec : Nat → Int × Int} {fv : Nat → vrs} {ns : Nat → Int} {sf ef : Nat → Nat} {X : Nat → Prop}
theorem x_Ma_runw {i j s e : Nat} (hH : H ≤ F0) (hF : FMx G) (ok : mOk M0) (hk : MK M0 z m U Ab0 Be0 C0) (hT : MT M0 m X) (hV : MVp m fv ns F0 M0) (hE : Rnv M0 z m Ab0 Be0 p O P K L) (hF0 : F0 ≤ 60) (hU : ¬ mcS m Ab0 Be0 U ∧ U < mZ M0) (fr : ∀ x, x < F0 → ns x = 7 → Frq M0 p m U O P L pl w fv ns sf ef X x) (hy : ∀ x, x < H → ns x = 7 → ef x < s) (hlf : ∀ k, (w k = 1 ∨ w k = 2 ∨ w k = 12 ∨ w k = 13) → (w k = 1 → E k ≠ -1) → Lfq M0 p m U fv ns H w E cv ec k) (eo : Eo w 6 i j) (hf : (fl w E pl 0 i j).1 = 0) (hc : Cd w ec pl (mI M0 O) (mI M0 P) 0 0 0 i j s e) (he : e < L) (oe : mI M0 O e = 0) : Ci G y_Ma_run (d + 4) [vr m, vi s] M0 (fun r M' => rnQ M0 z m U Ab0 Be0 C0 X 1 r M' ∧ rnx m (vlq w cv pl 0 0 i j) r M' ∧ MVp m fv ns F0 M') := by
  have c64 := hk.2.2.2.2.2.2.2
  have hLn := hE.2.2.2.2.2
  have lse := hc.lt
  refine k_Ma_run ok (i32s (by omega) (by omega)) ⟨hk.1, fun M2 e2 M4 e4 => ?_⟩
  have f2 : FI (fun b => b = m) M0 M2 := by rw [e2]; exact FI.ui rfl
  have f4 : FI (fun b => b = m) M2 M4 := by rw [e4]; exact FI.ui rfl
  have ff := f2.trans f4
  have g : ∀ i, mI M4 m i = if i = 15 then 0 else if i = 8 then 0 else mI M0 m i := fun i => by
    rw [mI_ui m i e4]
    by_cases y : i = 15
    · rw [if_pos ⟨rfl, y⟩, if_pos y]
    · rw [if_neg (fun q => y q.2), if_neg y, mI_ui m i e2]
      by_cases y8 : i = 8
      · rw [if_pos ⟨rfl, y8⟩, if_pos y8]
      · rw [if_neg (fun q => y8 q.2), if_neg y8]
  have o4 : mOk M4 := by rw [e4]; exact mOk_UI (by rw [e2]; exact mOk_UI ok (i32s (by omega) (by omega))) (i32s (by omega) (by omega))
  have hM : MS M0 z m U Ab0 Be0 C0 M4 0 0 := ms_step (M := M0) (t' := 0) (c' := 0) o4 hk FA.refl ⟨Or.inl rfl, Or.inl rfl⟩ ⟨rfl, Nat.le_refl _⟩ ⟨rfl, rfl, rfl⟩ (ff.mono (fun _ q => Or.inl q)) (by rw [g, if_neg (by decide), if_neg (by decide)]) (by rw [g, if_neg (by decide), if_neg (by decide)]) (by rw [g, if_neg (by decide), if_pos rfl]; rfl) (by omega) (fun j hj => absurd hj (by omega)) (by rw [g, if_pos rfl]; rfl)
  have hb : mtq m M0 M4 := mtq.fi ff
  have g9 : mI M4 m 9 = mI M0 m 9 := by rw [g, if_neg (by decide), if_neg (by decide)]
  have hT4 : MT M4 m X := hT.mtb hb.mtb g9
  have hv4 : MSv M0 z m U Ab0 Be0 C0 fv ns F0 X M4 0 0 := ⟨hM, fun x hx h7 u => by
    rw [hb (m + 5) (by omega), g9] at u
    rw [hb (m + 6) (by omega), hb (m + 7) (by omega)]
    exact hV x hx h7 u, hT4⟩
  have pt := ptl_le (m := m) (sf := sf) (ef := ef) (M := M4) (fun x hx h7 => by
    have := (fr x hx h7).2.2.2.1
    omega) H hH
  refine run_allv (cv := cv) (H := H) (s0 := s) hF hE (fun k h1 h2 => lfq_rc hE hF0 hH (fun _ => by decide) hU hy (fun x hx h7 => ⟨fr x (by omega) h7, frm_rc hF hE hF0 hU fr x (by omega) h7 1 (by omega)⟩) (hlf k h1 h2)) _ 0 i j (Nat.le_refl _) (Or.inl ⟨rfl, eo⟩) hf (fun u => absurd u (by decide)) 0 0 0 s e (fun u => absurd u (by decide)) hc (by omega) 0 0 M4 _ (by omega) (by omega) hv4 (fun M' i' z1 l1 h1 b1 _ t1 => ?_) (fun M' z1 e1 e2 h1 b1 => ?_)
  · exact run_end hE he (by omega) h1.1 oe ⟨⟨h1.2.2, Or.inr ⟨rfl, h1.1⟩⟩, Or.inr ⟨rfl, z1, t1⟩, h1.2.1⟩
  · obtain ⟨t2, c2, h2⟩ := h1
    exact ⟨⟨b1.2, Or.inl ⟨rfl, by rw [e1]; exact z1, t2, c2, h2⟩⟩, Or.inl ⟨rfl, z1, e1, e2⟩, b1.1⟩
end QAJ
section QAK
variable {G : mG} {d z m U Ab0 Be0 C0 cc p O P K L F0 H s0 : Nat} {M0 : mM} {w E pl lo hi : Nat → Int} {cv : Nat → vrs} {Φ : (Nat → Int × Int) → Prop} {fv : Nat → vrs} {ns : Nat → Int} {sf ef : Nat → Nat} {X : Nat → Prop}
theorem run_stw (hH : H ≤ F0) (hF : FMx G) (hE : Rnv M0 z m Ab0 Be0 p O P K L) (hF0 : F0 ≤ 60) (hU : ¬ mcS m Ab0 Be0 U ∧ U < mZ M0) (fr : ∀ x, x < F0 → ns x = 7 → Frq M0 p m U O P L pl w fv ns sf ef X x) (hy : ∀ x, x < H → ns x = 7 → ef x < s0) (hlf : ∀ ec, Φ ec → ∀ k, (w k = 1 ∨ w k = 2 ∨ w k = 12 ∨ w k = 13) → (w k = 1 → E k ≠ -1) → Lfq M0 p m U fv ns H w E cv ec k) (elo : ∀ v, v < 12 → lo v = mI M0 (p + 3) v) (ehi : ∀ v, v < 12 → hi v = mI M0 (p + 4) v) {Q : Int → mM → Prop} : ∀ (l : List (Nat × Nat × Nat × Nat)) (s e i : Nat) (M : mM) (nx : Nat → Int), (∀ q, q ∈ l → Eo w 6 q.2.1 q.2.2.1 ∧ (fl w E pl 0 q.2.1 q.2.2.1).1 = 0 ∧ q.1 < 12 ∧ 0 ≤ pl q.2.2.2 ∧ pl q.2.2.2 ≤ 16384) → Scw Φ w pl (mI M0 O) (mI M0 P) l s e → e < L → mI M0 O e = 0 → s0 ≤ s → i + (e - s) + ptl m ns sf ef M H < 1000000 → MSv M0 z m U Ab0 Be0 C0 fv ns F0 X M 0 0 → (∀ j, j < 12 → mI M (m + 2) j = nx j) →
  ((stq9 w cv pl lo hi l nx).1.1 = 0 → ∀ M', MSv M0 z m U Ab0 Be0 C0 fv ns F0 X M' 0 0 → (∀ j, j < 12 → mI M' (m + 2) j = (stq9 w cv pl lo hi l nx).2 j) → Q 1 M') →
  ((stq9 w cv pl lo hi l nx).1.1 ≠ 0 → ∀ M', mI M' m 1 = (stq9 w cv pl lo hi l nx).1.1 → mI M' m 2 = (stq9 w cv pl lo hi l nx).1.2 → (∃ t2 c2, MS M0 z m U Ab0 Be0 C0 M' t2 c2) → (MVp m fv ns F0 M' ∧ MT M' m X) → Q 0 M') → h_Ma_run_14 G (d + 3) m (s : Int) (i : Int) M Q := by
  have hL := hE.2.2.2.2.2
  intro l
  induction l with
  | nil =>
    intro s e i M nx _ hc he oe _ hi hM hn next _
    have hc : s = e := hc
    subst hc
    exact run_end hE he (by omega) hM.1 oe (next rfl M hM hn)
  | cons q r ih =>
    intro s e i M nx hq hc he oe hs0 hi hM hn next flt
    obtain ⟨q1, q2, q3, q4, q5⟩ := hq q List.mem_cons_self
    have cl := Scw.le _ hc
    obtain ⟨a, ec, hφ, c1, o1, p1, c2⟩ := hc
    have l1 := c1.lt
    have l2 := Scw.le _ c2
    rw [stq9] at next flt
    have rc : Rcv G d M0 z m U Ab0 Be0 C0 fv ns sf ef F0 X 0 H s0 (vlq w cv pl 0 0 q.2.1 q.2.2.1) s a := run_allv hF hE (fun k h1 h2 => lfq_rc hE hF0 hH (fun _ => by decide) hU hy (fun x hx h7 => ⟨fr x (by omega) h7, frm_rc hF hE hF0 hU fr x (by omega) h7 1 (by omega)⟩) (hlf ec hφ k h1 h2)) _ 0 q.2.1 q.2.2.1 (Nat.le_refl _) (Or.inl ⟨rfl, q1⟩) q2 (fun u => absurd u (by decide)) 0 0 0 s a (fun u => absurd u (by decide)) c1 (by omega)
    generalize vlq w cv pl 0 0 q.2.1 q.2.2.1 = v at rc next flt
    refine rc 0 i M Q (by omega) (by omega) hM (fun M1 i1 z1 b1 h1 k1 _ t1 => ?_) (fun M1 z1 e1 e2 h1 b1 => ?_)
    · rw [if_neg (show ¬ v.1 ≠ 0 from fun u => u z1), elo q.1 q3, ehi q.1 q3] at next flt
      refine run_set hE (by omega) (by omega) h1.1 o1 p1 q3 ⟨q4, q5⟩ t1 (fun z2 M2 h2 b2 _ n2 => ?_) (fun z2 M2 e1 e2 h2 b2 => ?_)
      · obtain ⟨h2', v2⟩ := h1.ofb (H := H) (sf := sf) (ef := ef) h2 b2
        rw [if_neg (fun u => u z2)] at next flt
        refine ih (a + 1) e (i1 + 1) M2 _ (fun q' h' => hq q' (List.mem_cons_of_mem _ h')) c2 he oe (by omega) (by omega) h2' (fun j hj => ?_) next flt
        rw [n2 j, k1.2.2, hn j hj]
      · obtain ⟨h2', -⟩ := h1.ofb (H := H) (sf := sf) (ef := ef) h2 b2
        rw [if_pos z2] at flt
        exact flt z2 M2 e1 e2 ⟨_, _, h2⟩ h2'.2
    · rw [if_pos z1] at flt
      exact flt z1 M1 e1 e2 h1 b1
/-- a branch's sets -/
theorem x_Ma_runt (hH : H ≤ F0) {s e : Nat} {l : List (Nat × Nat × Nat × Nat)} {nx : Nat → Int} (hF : FMx G) (ok : mOk M0) (hk : MK M0 z m U Ab0 Be0 C0) (hT : MT M0 m X) (hV : MVp m fv ns F0 M0) (hE : Rnv M0 z m Ab0 Be0 p O P K L) (hF0 : F0 ≤ 60) (hU : ¬ mcS m Ab0 Be0 U ∧ U < mZ M0) (fr : ∀ x, x < F0 → ns x = 7 → Frq M0 p m U O P L pl w fv ns sf ef X x) (hy : ∀ x, x < H → ns x = 7 → ef x < s) (hlf : ∀ ec, Φ ec → ∀ k, (w k = 1 ∨ w k = 2 ∨ w k = 12 ∨ w k = 13) → (w k = 1 → E k ≠ -1) → Lfq M0 p m U fv ns H w E cv ec k) (elo : ∀ v, v < 12 → lo v = mI M0 (p + 3) v) (ehi : ∀ v, v < 12 → hi v = mI M0 (p + 4) v) (hq : ∀ q, q ∈ l → Eo w 6 q.2.1 q.2.2.1 ∧ (fl w E pl 0 q.2.1 q.2.2.1).1 = 0 ∧ q.1 < 12 ∧ 0 ≤ pl q.2.2.2 ∧ pl q.2.2.2 ≤ 16384) (hc : Scw Φ w pl (mI M0 O) (mI M0 P) l s e) (he : e < L) (oe : mI M0 O e = 0) (hn : ∀ j, j < 12 → mI M0 (m + 2) j = nx j) : Ci G y_Ma_run (d + 4) [vr m, vi s] M0 (fun r M' => rnQ M0 z m U Ab0 Be0 C0 X 0 r M' ∧ ((r = 0 ∧ (stq9 w cv pl lo hi l nx).1.1 ≠ 0 ∧ mI M' m 1 = (stq9 w cv pl lo hi l nx).1.1 ∧ mI M' m 2 = (stq9 w cv pl lo hi l nx).1.2) ∨ (r = 1 ∧ (stq9 w cv pl lo hi l nx).1.1 = 0 ∧ ∀ j, j < 12 → mI M' (m + 2) j = (stq9 w cv pl lo hi l nx).2 j)) ∧ MVp m fv ns F0 M') := by
  have lse := Scw.le _ hc
  have c64 := hk.2.2.2.2.2.2.2
  have hLn := hE.2.2.2.2.2
  refine k_Ma_run ok (i32s (by omega) (by omega)) ⟨hk.1, fun M2 e2 M4 e4 => ?_⟩
  have f2 : FI (fun b => b = m) M0 M2 := by rw [e2]; exact FI.ui rfl
  have f4 : FI (fun b => b = m) M2 M4 := by rw [e4]; exact FI.ui rfl
  have ff := f2.trans f4
  have g : ∀ i, mI M4 m i = if i = 15 then 0 else if i = 8 then 0 else mI M0 m i := fun i => by
    rw [mI_ui m i e4]
    by_cases y : i = 15
    · rw [if_pos ⟨rfl, y⟩, if_pos y]
    · rw [if_neg (fun q => y q.2), if_neg y, mI_ui m i e2]
      by_cases y8 : i = 8
      · rw [if_pos ⟨rfl, y8⟩, if_pos y8]
      · rw [if_neg (fun q => y8 q.2), if_neg y8]
  have o4 : mOk M4 := by rw [e4]; exact mOk_UI (by rw [e2]; exact mOk_UI ok (i32s (by omega) (by omega))) (i32s (by omega) (by omega))
  have hM : MS M0 z m U Ab0 Be0 C0 M4 0 0 := ms_step (M := M0) (t' := 0) (c' := 0) o4 hk FA.refl ⟨Or.inl rfl, Or.inl rfl⟩ ⟨rfl, Nat.le_refl _⟩ ⟨rfl, rfl, rfl⟩ (ff.mono (fun _ q => Or.inl q)) (by rw [g, if_neg (by decide), if_neg (by decide)]) (by rw [g, if_neg (by decide), if_neg (by decide)]) (by rw [g, if_neg (by decide), if_pos rfl]; rfl) (by omega) (fun j hj => absurd hj (by omega)) (by rw [g, if_pos rfl]; rfl)
  have hb : mtq m M0 M4 := mtq.fi ff
  have g9 : mI M4 m 9 = mI M0 m 9 := by rw [g, if_neg (by decide), if_neg (by decide)]
  have hT4 : MT M4 m X := hT.mtb hb.mtb g9
  have hv4 : MSv M0 z m U Ab0 Be0 C0 fv ns F0 X M4 0 0 := ⟨hM, fun x hx h7 u => by
    rw [hb (m + 5) (by omega), g9] at u
    rw [hb (m + 6) (by omega), hb (m + 7) (by omega)]
    exact hV x hx h7 u, hT4⟩
  have pt := ptl_le (m := m) (sf := sf) (ef := ef) (M := M4) (fun x hx h7 => by
    have := (fr x hx h7).2.2.2.1
    omega) H hH
  refine run_stw (cv := cv) (s0 := s) hH hF hE hF0 hU fr hy hlf elo ehi l s e 0 M4 nx hq hc he oe (Nat.le_refl _) (by omega) hv4 (fun j hj => by rw [hb (m + 2) (Or.inl rfl)]; exact hn j hj) (fun z1 M' h1 n1 => ?_) (fun z1 M' e1 e2 h1 b1 => ?_)
  · exact ⟨⟨h1.2.2, Or.inr ⟨rfl, h1.1⟩⟩, Or.inr ⟨rfl, z1, n1⟩, h1.2.1⟩
  · obtain ⟨t2, c2, h2⟩ := h1
    exact ⟨⟨b1.2, Or.inl ⟨rfl, by rw [e1]; exact z1, t2, c2, h2⟩⟩, Or.inl ⟨rfl, z1, e1, e2⟩, b1.1⟩
end QAK
end
section
/-! The class's game, exactly: a rule is worked out in a state. -/
section GBA
variable {G : mG} {d z g m U p O P K V F L cnt Ab Be C Ab0 Be0 C0 n N : Nat} {M0 M M' : mM} {ns : Nat → Int} {sf ef : Nat → Nat} {F1 : Nat} {ns1 : Nat → Int} {sf1 ef1 : Nat → Nat} {W pl nq : Nat → Int} {sm : Nat → Nat → Prop} {nms : List nm9} {sg : Nat → Int} {X : Nat → Prop}
/-- what a leaf's order pushes in a state -/
theorem lf_st {r l : List nm9} {ec : Nat → Int × Int} (hq : NqO W nq n) (hn : NmO W pl sm N n nms) (hs : SgO sg nms) (fm : FmC M p O P L W pl nq sm N n ns sf ef nms) (hr : nms = r ++ l) (hV : vcn nms ≤ 12) (hF : rcn nms ≤ 60) (hst : ∀ v, v < vcn nms → mI M U ((mI M m 4).toNat + v) = sg v) (lf : LfC W nq sm n r ec) : ∀ k, (W k = 1 ∨ W k = 2 ∨ W k = 12 ∨ W k = 13) → (W k = 1 → E9 sm r 0 k ≠ -1) → Lfq M p m U (fvs W pl nq sm N sg nms.reverse) ns (rcn r) W (E9 sm r 0) (cvb W pl nq sm N sg n r.reverse) ec k := by
  intro k hk hne
  refine ⟨cvb_ok hq (fun a e' b u => nvs_ok hq hn hs _ a e' (b ++ l) (Nat.le_refl _) (by rw [hr, u]; simp)) k hk hne, ?_⟩
  unfold cvb
  by_cases kn : k < n
  · rw [if_pos kn]
    obtain ⟨c2, c12, c13, c1⟩ := lf.2 k kn
    by_cases h1 : W k = 1
    · obtain ⟨l1, e, l2, q1, q2, q3, q4⟩ := E9_sp (hne h1)
      have hc := c1 h1 l1 e l2 q1 q2 q3
      have b := cvs_old (pl := pl) (nq := nq) (N := N) (sg := sg) (l := []) h1 q1 q2 q3
      rw [List.append_nil] at b
      have hm : nms = l1 ++ e :: (l2 ++ l) := by rw [hr, q1]; simp
      obtain ⟨⟨e1, e3⟩, -⟩ := hn l1 e (l2 ++ l) hm
      rw [b, hc]
      have rl : rcn r = rcn l1 + rcn (e :: l2) := by rw [q1, rcn_app]
      have vl : vcn nms = vcn l1 + vcn (e :: (l2 ++ l)) := by rw [hm, vcn_app]
      have rn : rcn nms = rcn r + rcn l := by rw [hr, rcn_app]
      by_cases y3 : e.2.1 = 3
      · have vl2 : vcn (e :: (l2 ++ l)) = vcn (l2 ++ l) + 1 := by
          show vcn (l2 ++ l) + (if e.2.1 = 3 then 1 else 0) = _
          rw [if_pos y3]
        refine Or.inr (Or.inr (Or.inl ⟨?_, vcn l1, ?_, by omega, ?_⟩))
        · show srt9 e.2.1 = 5
          rw [y3]; rfl
        · show (if e.2.1 = 3 then ((vcn l1 : Nat) : Int) else ((rcn l1 : Nat) : Int)) = _
          rw [if_pos y3]
        · unfold nvs
          rw [if_neg (by omega), if_pos y3, vcn_rev, hst _ (by omega)]
      · have rl2 : rcn (e :: l2) = rcn l2 + 1 := by
          show rcn l2 + (if e.2.1 = 3 then 0 else 1) = _
          rw [if_neg y3]
        obtain ⟨f1, f2, f3⟩ := fm l1 e (l2 ++ l) hm y3
        by_cases y1 : e.2.1 = 1
        · obtain ⟨g1, g2⟩ := f2 y1
          refine Or.inr (Or.inl ⟨?_, rcn l1, ?_, by omega, g2, ?_⟩)
          · show srt9 e.2.1 = 4
            rw [y1]; rfl
          · show (if e.2.1 = 3 then ((vcn l1 : Nat) : Int) else ((rcn l1 : Nat) : Int)) = _
            rw [if_neg y3]
          · unfold nvs
            rw [if_pos y1]
            exact g1
        · have y2 : e.2.1 = 2 := by omega
          refine Or.inr (Or.inr (Or.inr ⟨?_, rcn l1, ?_, by omega, ?_, ?_⟩))
          · show srt9 e.2.1 = 7
            rw [y2]; rfl
          · show (if e.2.1 = 3 then ((vcn l1 : Nat) : Int) else ((rcn l1 : Nat) : Int)) = _
            rw [if_neg y3]
          · rw [f1, y2]; rfl
          · have e9 : nms.reverse = (l2 ++ l).reverse ++ e :: l1.reverse := by rw [hm]; simp
            rw [e9, ← rcn_rev l1]
            exact (fvs_at y3 _).symm
    · rw [cvs_no h1]
      refine Or.inl ?_
      by_cases h2 : W k = 2
      · rw [if_pos h2, c2 h2]
        exact ⟨rfl, rfl⟩
      · rw [if_neg h2]
        by_cases h3 : W k = 12
        · rw [if_pos h3, c12 h3]
          exact ⟨rfl, rfl⟩
        · rw [if_neg h3, c13 (by omega)]
          exact ⟨rfl, rfl⟩
  · rw [if_neg kn, lf.1 k (by omega)]
    exact Or.inl ⟨rfl, rfl⟩
theorem fr_st (hq : NqO W nq n) (hn : NmO W pl sm N n nms) (hs : SgO sg nms) (fm : FmC M p O P L W pl nq sm N n ns sf ef nms) (hV : vcn nms ≤ 12) (hF : rcn nms ≤ 60) (hst : ∀ v, v < vcn nms → mI M U ((mI M m 4).toNat + v) = sg v) (hX : ∀ x, x < 60 → X x) : ∀ x, x < rcn nms → ns x = 7 → Frq M p m U O P L pl W (fvs W pl nq sm N sg nms.reverse) ns sf ef X x := by
  intro x hx h7
  obtain ⟨l1, e, l2, q1, q2, q3⟩ := rcn_sp nms x hx
  obtain ⟨f1, f2, f3⟩ := fm l1 e l2 q1 q2
  rw [q3] at f1 f2 f3
  have y2 : e.2.1 = 2 := srt_7 (by rw [← f1]; exact h7)
  obtain ⟨g1, g2, g3, g4, g5, ec, g6, g7⟩ := f3 y2
  obtain ⟨-, -, -, hf⟩ := hn l1 e l2 q1
  obtain ⟨t1, t2, t3, t4⟩ := hf y2
  refine ⟨hX x (by omega), g1, g2, g3, g4, g5, e.1 + 2, nxq W 34 N e.1, E9 sm l1 0, cvb W pl nq sm N sg n l1.reverse, ec, t1, t3, g7, ?_, ?_⟩
  · have e9 : nms.reverse = l2.reverse ++ e :: l1.reverse := by rw [q1]; simp
    rw [cvb_vl t1 t2, e9]
    have := fvs_at (w := W) (pl := pl) (nq := nq) (sm := sm) (N := N) (sg := sg) (r := l1.reverse) q2 l2.reverse
    rw [rcn_rev, q3] at this
    rw [this]
    unfold nvs
    rw [if_neg (by omega), if_neg q2]
  · have := lf_st (m := m) (U := U) hq hn hs fm q1 hV hF hst g6
    rw [q3] at this
    exact this
/-- what the game's runs hang on -/
def gcx (M0 : mM) (g p O P L V F Ab0 Be0 : Nat) (ns : Nat → Int) (sf ef : Nat → Nat) (W pl nq : Nat → Int) (sm : Nat → Nat → Prop) (N n : Nat) (nms : List nm9) : Prop := (¬ gaS g Ab0 Be0 O ∧ ¬ gaS g Ab0 Be0 P ∧ O < mZ M0 ∧ P < mZ M0 ∧ F ≤ 60) ∧ NqO W nq n ∧ NmO W pl sm N n nms ∧ FmC M0 p O P L W pl nq sm N n ns sf ef nms ∧ rcn nms = F ∧ vcn nms = V
/-- the machine stands in state k, whose values are sg -/
def gst9 (M : mM) (g V F : Nat) (ns W pl nq : Nat → Int) (sm : Nat → Nat → Prop) (N : Nat) (nms : List nm9) (k : Nat) (sg : Nat → Int) : Prop := mI M (g + 10) 4 = ((12 * k : Nat) : Int) ∧ (∀ v, v < V → mI M (g + 1) (12 * k + v) = sg v) ∧ SgO sg nms ∧ MVp (g + 10) (fvs W pl nq sm N sg nms.reverse) ns F M
theorem gst9.cg {k : Nat} (h : gst9 M g V F ns W pl nq sm N nms k sg) (e10 : ∀ i, i = 4 ∨ i = 9 → mI M' (g + 10) i = mI M (g + 10) i) (e1 : ∀ v, v < V → mI M' (g + 1) (12 * k + v) = mI M (g + 1) (12 * k + v)) (e5 : mI M' (g + 15) = mI M (g + 15)) (e6 : mI M' (g + 16) = mI M (g + 16)) (e7 : mI M' (g + 17) = mI M (g + 17)) : gst9 M' g V F ns W pl nq sm N nms k sg := by
  obtain ⟨h1, h2, h3, h4⟩ := h
  refine ⟨by rw [e10 4 (Or.inl rfl)]; exact h1, fun v hv => by rw [e1 v hv]; exact h2 v hv, h3, fun x hx h7 u => ?_⟩
  have u : mI M' (g + 15) x = mI M' (g + 10) 9 := u
  rw [e5, e10 9 (Or.inr rfl)] at u
  have := h4 x hx h7 u
  show _ = (0, mI M' (g + 16) x, mI M' (g + 17) x)
  rw [e6, e7]
  exact this
theorem gx_O (hx : GX M0 z g p O P K V F1 ns1 sf1 ef1 L cnt Ab0 Be0 C0 M Ab Be C) (cx : gcx M0 g p O P L V F Ab0 Be0 ns sf ef W pl nq sm N n nms) : mI M O = mI M0 O ∧ mI M P = mI M0 P := by
  obtain ⟨⟨a, b, c, e, -⟩, -⟩ := cx
  obtain ⟨-, -, -, -, -, -, -, ⟨f, -⟩, -⟩ := hx
  exact ⟨(f.2 O c).2.2.2.2 a, (f.2 P e).2.2.2.2 b⟩
theorem gx_p (hx : GX M0 z g p O P K V F1 ns1 sf1 ef1 L cnt Ab0 Be0 C0 M Ab Be C) : ∀ i, i ≤ 15 → mI M (p + i) = mI M0 (p + i) := hx.2.2.2.2.2.2.2.2.2
/-- what a run of the game's machine comes to -/
def grQ (M0 : mM) (z g p O P K V F1 : Nat) (ns1 : Nat → Int) (sf1 ef1 : Nat → Nat) (L cnt Ab0 Be0 C0 : Nat) (M : mM) (Ab Be : Nat) (r : Int) (M' : mM) : Prop := i32 r ∧ mOk M' ∧ (r = 0 ∨ r = 1) ∧ ∃ Ab' Be' C', GX M0 z g p O P K V F1 ns1 sf1 ef1 L cnt Ab0 Be0 C0 M' Ab' Be' C' ∧ FA (mcS (g + 10) Ab Be) (fun x => x = g + 10) M M' ∧ (mI M' (g + 10) 9 = mI M (g + 10) 9 ∧ mI M' (g + 10) 4 = mI M (g + 10) 4)
theorem gr_mk {h0 : Nat} {r : Int} (hx : GX M0 z g p O P K V F1 ns1 sf1 ef1 L cnt Ab0 Be0 C0 M Ab Be C) (k : rnQ M z (g + 10) (g + 1) Ab Be C (fun x => x < 60 ∧ 1 = 1) h0 r M') : grQ M0 z g p O P K V F1 ns1 sf1 ef1 L cnt Ab0 Be0 C0 M Ab Be r M' := by
  have ne := hx.ne
  obtain ⟨h1, h2, h3, h4, h5, ⟨h61, h62, h63⟩, h7, h8, h9, h10⟩ := hx
  obtain ⟨p1, -⟩ := id h4
  obtain ⟨o1, o2, -, o4⟩ := p1.2.2.2.1
  obtain ⟨a1, a2, a3, a4⟩ := h3.2.2.2.2.2.1
  obtain ⟨k1, k2⟩ := k
  have hr : r = 0 ∨ r = 1 := k2.imp (fun u => u.1) (fun u => u.1)
  have fin : ∀ {t c : Nat}, MS M z (g + 10) (g + 1) Ab Be C M' t c → grQ M0 z g p O P K V F1 ns1 sf1 ef1 L cnt Ab0 Be0 C0 M Ab Be r M' := fun {t c} hM => by
    obtain ⟨Ab', Be', C', ok, hk, hf, hab, hr', ⟨m8, mt, mb⟩, -, hm⟩ := hM
    have hf9 : FA (gaS g Ab Be) (gaR g) M M' := hf.mono (fun x _ y => by
      have y' : x = g + 10 ∨ x = g + 10 + 2 ∨ (g + 10 + 5 ≤ x ∧ x ≤ g + 10 + 9) ∨ x = Ab ∨ x = Be := y
      show (g ≤ x ∧ x ≤ g + 22) ∨ x = Ab ∨ x = Be
      omega) (fun x _ y => Or.inr y)
    obtain ⟨z1, zA, zB, zU⟩ := h3.2.2.2.2.2.2.1
    obtain ⟨pz0, pz1, pz2⟩ := p1.2.2.2.2.1
    have cl : ∀ i, i ≤ 22 → mK M' (g + i) = mK M (g + i) ∧ mN M' (g + i) = mN M (g + i) := fun i hi => ⟨(hf.2 (g + i) (by omega)).1, (hf.2 (g + i) (by omega)).2.1⟩
    have rg : mR M' g = mR M g := (hf.2 g (by omega)).2.2.2.1 (show ¬ g = g + 10 by omega)
    refine ⟨m_b32 hr, ok, hr, Ab', Be', C', ⟨ok, h2.eq2 cl (fun i _ => by rw [rg]), hk, h4.fa hf9 ne.2.2.2 ne.1 ne.2.1 ne.2.2.1, ⟨by rw [rg]; exact h5.1, by rw [hm.2.2]; exact h5.2⟩, ⟨h61, h62, ?_⟩, k1, h8.trans ⟨hf9, hab, hr'⟩, fun x hx => (k1 x ⟨hx, rfl⟩).1, fun i hi => by rw [(hf9.2 (p + i) (by omega)).2.2.2.2 (ne.1 i hi)]; exact h10 i hi⟩, hf, hm.1, hm.2.1⟩
    clear h1 h2 h3 h4 h5 h7 h8 h9 h10 k1 k2 hk hf hf9 cl rg mb hr' hm hr ne
    omega
  rcases k2 with ⟨e1, f0, t, c, hM⟩ | ⟨e1, hM⟩
  · exact fin hM
  · exact fin hM
theorem gx_env (hx : GX M0 z g p O P K V F1 ns1 sf1 ef1 L cnt Ab0 Be0 C0 M Ab Be C) : Rnv M z (g + 10) Ab Be p O P K L ∧ (¬ mcS (g + 10) Ab Be (g + 1) ∧ g + 1 < mZ M) ∧ V ≤ 12 := by
  obtain ⟨h1, h2, h3, h4, h5, ⟨h61, h62, h63⟩, h7, h8, h9, h10⟩ := hx
  obtain ⟨p1, ⟨p2, p3, p4⟩, ⟨p5, p6⟩, p7, ⟨p8, p9⟩, p10, -⟩ := id h4
  obtain ⟨o1, o2, -, o4⟩ := p1.2.2.2.1
  obtain ⟨a1, a2, a3, a4⟩ := h3.2.2.2.2.2.1
  have zz := h3.2.2.2.2.2.2.1.1
  refine ⟨⟨p1, h5.2, ⟨by omega, h63, by omega, o4, a1, a2⟩, p2, p3, p4⟩, ⟨fun y => ?_, by omega⟩, p6⟩
  have y' : g + 1 = g + 10 ∨ g + 1 = g + 10 + 2 ∨ (g + 10 + 5 ≤ g + 1 ∧ g + 1 ≤ g + 10 + 9) ∨ g + 1 = Ab ∨ g + 1 = Be := y
  omega
theorem gst9.at {k : Nat} (st : gst9 M g V F ns W pl nq sm N nms k sg) (hv : vcn nms = V) : ∀ v, v < vcn nms → mI M (g + 1) ((mI M (g + 10) 4).toNat + v) = sg v := fun v hv' => by
  rw [st.1, Int.toNat_natCast]
  exact st.2.1 v (by omega)
theorem gst9.run {k : Nat} {r : Int} (st : gst9 M g V F ns W pl nq sm N nms k sg) (hx : GX M0 z g p O P K V F1 ns1 sf1 ef1 L cnt Ab0 Be0 C0 M Ab Be C) (q : grQ M0 z g p O P K V F1 ns1 sf1 ef1 L cnt Ab0 Be0 C0 M Ab Be r M') (hv : MVp (g + 10) (fvs W pl nq sm N sg nms.reverse) ns F M') : gst9 M' g V F ns W pl nq sm N nms k sg := by
  obtain ⟨-, -, -, Ab', Be', C', -, f, -, e4⟩ := q
  obtain ⟨ce, -⟩ := ga_ce hx f
  exact ⟨by rw [e4]; exact st.1, fun v hv => by rw [ce 1 (by omega)]; exact st.2.1 v hv, st.2.2.1, hv⟩
/-- a rule is worked out in a state -/
theorem x_Ga_run {k i j s : Nat} (hF : FMx G) (hx : GX M0 z g p O P K V F1 ns1 sf1 ef1 L cnt Ab0 Be0 C0 M Ab Be C) (cx : gcx M0 g p O P L V F Ab0 Be0 ns sf ef W pl nq sm N n nms) (st : gst9 M g V F ns W pl nq sm N nms k sg) (ru : RuC M0 O P L W pl nq sm n ns ef nms i j s) : Ci G y_Ma_run (d + 4) [vr (g + 10), vi s] M (fun r M' => grQ M0 z g p O P K V F1 ns1 sf1 ef1 L cnt Ab0 Be0 C0 M Ab Be r M' ∧ rnx (g + 10) (vlq W (cvs W pl nq sm N sg nms.reverse) pl 0 0 i j) r M' ∧ gst9 M' g V F ns W pl nq sm N nms k sg) := by
  obtain ⟨env, hU, V12⟩ := gx_env hx
  have F60 := cx.1.2.2.2.2
  obtain ⟨eO, eP⟩ := gx_O hx cx
  have ep := gx_p hx
  obtain ⟨-, hq, hn, fm, hrc, hvc⟩ := id cx
  have fm' := fm.cg (ep 6 (by omega)) (ep 7 (by omega)) (ep 8 (by omega)) eO eP
  obtain ⟨r, l, ec, e, u1, u2, u3, u4, u5, u6, u7, u8, u9⟩ := ru
  have hst := st.at hvc
  have rl : rcn nms = rcn r + rcn l := by rw [u1, rcn_app]
  have fr := fr_st (m := g + 10) (U := g + 1) (X := fun x => x < 60 ∧ 1 = 1) hq hn st.2.2.1 fm' (by omega) (by omega) hst (fun x hx => ⟨hx, rfl⟩)
  have lf := lf_st (m := g + 10) (U := g + 1) hq hn st.2.2.1 fm' u1 (by omega) (by omega) hst u5
  rw [hrc] at fr
  refine (x_Ma_runw (H := rcn r) (F0 := F) (by omega) hF hx.1 hx.2.2.1 hx.2.2.2.2.2.2.1 st.2.2.2 env F60 hU fr u6 lf u2 u4 (by rw [eO, eP]; exact u7) u8 (by rw [eO]; exact u9)).mono (fun r' M' k => ?_)
  obtain ⟨k1, k2, k3⟩ := k
  have q := gr_mk hx k1
  rw [vls_r u1 u2 u3 u4] at k2
  exact ⟨q, k2, st.run hx q k3⟩
theorem stq_cg {cv cv' : Nat → vrs} {lo hi : Nat → Int} : ∀ (l : List (Nat × Nat × Nat × Nat)) (nx : Nat → Int), (∀ q, q ∈ l → vlq W cv pl 0 0 q.2.1 q.2.2.1 = vlq W cv' pl 0 0 q.2.1 q.2.2.1) → stq9 W cv pl lo hi l nx = stq9 W cv' pl lo hi l nx
  | [], nx, _ => rfl
  | q :: l, nx, h => by
    rw [stq9, stq9, h q List.mem_cons_self]
    rw [stq_cg l _ (fun q' h' => h q' (List.mem_cons_of_mem _ h'))]
/-- a branch's sets are worked out in a state -/
theorem x_Ga_runs {k s : Nat} {l : List (Nat × Nat × Nat × Nat)} {nx : Nat → Int} (hF : FMx G) (hx : GX M0 z g p O P K V F1 ns1 sf1 ef1 L cnt Ab0 Be0 C0 M Ab Be C) (cx : gcx M0 g p O P L V F Ab0 Be0 ns sf ef W pl nq sm N n nms) (st : gst9 M g V F ns W pl nq sm N nms k sg) (ru : SeC M0 O P L V W pl nq sm n ns ef nms l s) (hnx : ∀ j, j < 12 → mI M (g + 12) j = nx j) : Ci G y_Ma_run (d + 4) [vr (g + 10), vi s] M (fun r M' => grQ M0 z g p O P K V F1 ns1 sf1 ef1 L cnt Ab0 Be0 C0 M Ab Be r M' ∧ ((r = 0 ∧ (stq9 W (cvs W pl nq sm N sg nms.reverse) pl (mI M0 (p + 3)) (mI M0 (p + 4)) l nx).1.1 ≠ 0 ∧ mI M' (g + 10) 1 = (stq9 W (cvs W pl nq sm N sg nms.reverse) pl (mI M0 (p + 3)) (mI M0 (p + 4)) l nx).1.1 ∧ mI M' (g + 10) 2 = (stq9 W (cvs W pl nq sm N sg nms.reverse) pl (mI M0 (p + 3)) (mI M0 (p + 4)) l nx).1.2) ∨ (r = 1 ∧ (stq9 W (cvs W pl nq sm N sg nms.reverse) pl (mI M0 (p + 3)) (mI M0 (p + 4)) l nx).1.1 = 0 ∧ ∀ j, j < 12 → mI M' (g + 12) j = (stq9 W (cvs W pl nq sm N sg nms.reverse) pl (mI M0 (p + 3)) (mI M0 (p + 4)) l nx).2 j)) ∧ gst9 M' g V F ns W pl nq sm N nms k sg) := by
  obtain ⟨env, hU, V12⟩ := gx_env hx
  have F60 := cx.1.2.2.2.2
  obtain ⟨eO, eP⟩ := gx_O hx cx
  have ep := gx_p hx
  obtain ⟨-, hq, hn, fm, hrc, hvc⟩ := id cx
  have fm' := fm.cg (ep 6 (by omega)) (ep 7 (by omega)) (ep 8 (by omega)) eO eP
  obtain ⟨r, l', e, u1, u2, u6, u7, u8, u9⟩ := ru
  have hst := st.at hvc
  have rl : rcn nms = rcn r + rcn l' := by rw [u1, rcn_app]
  have fr := fr_st (m := g + 10) (U := g + 1) (X := fun x => x < 60 ∧ 1 = 1) hq hn st.2.2.1 fm' (by omega) (by omega) hst (fun x hx => ⟨hx, rfl⟩)
  have lf := fun (ec : Nat → Int × Int) (u5 : LfC W nq sm n r ec) => lf_st (m := g + 10) (U := g + 1) hq hn st.2.2.1 fm' u1 (by omega) (by omega) hst u5
  rw [hrc] at fr
  have ecg := stq_cg (W := W) (pl := pl) (cv := cvs W pl nq sm N sg nms.reverse) (cv' := cvb W pl nq sm N sg n r.reverse) (lo := mI M0 (p + 3)) (hi := mI M0 (p + 4)) l nx (fun q hq' => (vls_r u1 (u2 q hq').1 (u2 q hq').2.1 (u2 q hq').2.2.1).symm)
  rw [ecg]
  refine (x_Ma_runt (Φ := LfC W nq sm n r) (H := rcn r) (F0 := F) (lo := mI M0 (p + 3)) (hi := mI M0 (p + 4)) (by omega) hF hx.1 hx.2.2.1 hx.2.2.2.2.2.2.1 st.2.2.2 env F60 hU fr u6 lf (fun v _ => by rw [ep 3 (by omega)]) (fun v _ => by rw [ep 4 (by omega)]) (fun q h' => ⟨(u2 q h').1, (u2 q h').2.2.1, by have := (u2 q h').2.2.2.1; omega, (u2 q h').2.2.2.2⟩) (by rw [eO, eP]; exact u7) u8 (by rw [eO]; exact u9) hnx).mono (fun r' M' k => ?_)
  obtain ⟨k1, k2, k3⟩ := k
  have q := gr_mk hx k1
  exact ⟨q, k2, st.run hx q k3⟩
theorem x_Ga_machineFault (hO : mOk M) (hk : mK M g = 7) (hr : mR M g 15 = g + 10) (hm : mK M (g + 10) = 5) : Ci G y_Ga_machineFault d [vr g] M (fun r M' => i32 r ∧ r = mI M (g + 10) 1 ∧ plQ M g M' ∧ mI M' g 10 = mI M (g + 10) 2) := by
  refine k_Ga_machineFault hO ⟨hk, by rw [hr]; exact hm, fun M3 e3 => ?_⟩
  have f3 : FI (fun x => x = g) M M3 := by rw [e3]; exact FI.ui rfl
  have o3 : mOk M3 := by rw [e3]; exact mOk_UI hO (hO _ _).1
  rw [f3.1, f3.2.2.1, hr]
  refine ⟨hm, (o3 _ _).1, by rw [f3.2.2.2.2.2.2 (g + 10) (show ¬ g + 10 = g by omega)], ⟨o3, f3, fun i hi => ?_⟩, by rw [mI_ui g 10 e3, if_pos ⟨rfl, rfl⟩, hr]⟩
  rw [mI_ui g i e3, if_neg (fun u => hi u.2)]
end GBA
end
section
/-! The class's game, exactly: weighChances, the whole. -/
section GBB
variable {ev : List Int → Nat → Nat → vrs} {sg : List Int} {b : br9} {r : List br9}
theorem chq_f (h : (ev sg b.2.1.1 b.2.1.2).1 ≠ 0) : chq9 ev sg (b :: r) = (((ev sg b.2.1.1 b.2.1.2).1, (ev sg b.2.1.1 b.2.1.2).2.1), []) := if_pos h
theorem chq_r (h0 : (ev sg b.2.1.1 b.2.1.2).1 = 0) (h : (ev sg b.2.1.1 b.2.1.2).2.1 < 0 ∨ (ev sg b.2.1.1 b.2.1.2).2.2 < (ev sg b.2.1.1 b.2.1.2).2.1) : chq9 ev sg (b :: r) = ((11, b.1), []) := (if_neg (fun u => u h0)).trans (if_pos h)
theorem chq_s (h0 : (ev sg b.2.1.1 b.2.1.2).1 = 0) (h : ¬ ((ev sg b.2.1.1 b.2.1.2).2.1 < 0 ∨ (ev sg b.2.1.1 b.2.1.2).2.2 < (ev sg b.2.1.1 b.2.1.2).2.1)) : chq9 ev sg (b :: r) = ((chq9 ev sg r).1, (ev sg b.2.1.1 b.2.1.2).2 :: (chq9 ev sg r).2) := (if_neg (fun u => u h0)).trans (if_neg h)
end GBB
section GBC
variable {G : mG} {d z g p O P K V F L cnt Ab Be C Ab0 Be0 C0 n N c cc u v k : Nat} {M0 M M' M1 : mM} {ns : Nat → Int} {sf ef : Nat → Nat} {F1 : Nat} {ns1 : Nat → Int} {sf1 ef1 : Nat → Nat} {W pl nq : Nat → Int} {sm : Nat → Nat → Prop} {nms : List nm9} {sgL : List Int} {brs : List br9}
/-- what weighing comes to -/
def weY (ch : (Int × Int) × List (Int × Int)) (pc : Int) (g V F : Nat) (ns W pl nq : Nat → Int) (sm : Nat → Nat → Prop) (N : Nat) (nms : List nm9) (k : Nat) (sgL : List Int) (cc nb : Nat) (r : Int) (M' : mM) : Prop := (ch.1.1 ≠ 0 ∧ r = ch.1.1 ∧ mI M' g 10 = ch.1.2) ∨ (ch.1.1 = 0 ∧ muq9 ch.2 1 = 0 ∧ r = 6 ∧ mI M' g 10 = pc) ∨ (ch.1.1 = 0 ∧ muq9 ch.2 1 ≠ 0 ∧ smq9 (muq9 ch.2 1) ch.2 ≠ muq9 ch.2 1 ∧ r = 11 ∧ mI M' g 10 = pc) ∨ (ch.1.1 = 0 ∧ muq9 ch.2 1 ≠ 0 ∧ smq9 (muq9 ch.2 1) ch.2 = muq9 ch.2 1 ∧ r = 0 ∧ mI M' (g + 6) cc = muq9 ch.2 1 ∧ lch9 M' g nb = ch.2 ∧ gst9 M' g V F ns W pl nq sm N nms k (fun v => sgL.getD v 0))
theorem we_end (hx : GX M0 z g p O P K V F1 ns1 sf1 ef1 L cnt Ab0 Be0 C0 M Ab Be C) (hw : wgF M1 g M) (hc : c < cnt) (hn : v - u ≤ 8) (hch : chz M g (v - u)) (hcc : mI M g 12 = ((cc : Nat) : Int)) (hcc2 : cc ≤ 4096) (hcc1 : mI M1 g 12 = ((cc : Nat) : Int)) (st : gst9 M g V F ns W pl nq sm N nms k (fun v => sgL.getD v 0)) {ch : (Int × Int) × List (Int × Int)} (e : ch = ((0, 0), lch9 M g (v - u))) : h_Ga_weighChances_150 G (d + 1) g c ((v - u : Nat) : Int) 1 0 M (fun r M' => weQ M0 z g p O P K V F1 ns1 sf1 ef1 L cnt Ab0 Be0 C0 M1 (v - u) cc r M' ∧ weY ch (mI M0 (p + 10) c) g V F ns W pl nq sm N nms k sgL cc (v - u) r M') := by
  have key := x_we150 (G := G) (d := d) hx hw hc hn hch hcc hcc2 hcc1 (v - u) 0 1 (by omega) (by omega) ⟨by omega, by omega⟩ rfl (fun b hb => absurd hb (by omega))
  refine mWm.mono key (fun r9 M' ⟨x, ex, q1, q2⟩ => ⟨x, ex, q1, ?_⟩)
  rw [gx_p hx 10 (by omega)] at q2
  rw [e]
  rcases q2 with ⟨a1, a2, a3⟩ | ⟨a1, a2, a3, a4⟩ | ⟨a1, a2, a3, a4, f⟩
  · exact Or.inr (Or.inl ⟨rfl, a1, a2, a3⟩)
  · exact Or.inr (Or.inr (Or.inl ⟨rfl, a1, a2, a3, a4⟩))
  · have nb : ∀ y, y ≠ g + 6 → mI M' y = mI M y := fun y hy => f.2.2.2.2.2.2 y hy
    exact Or.inr (Or.inr (Or.inr ⟨rfl, a1, a2, a3, a4, lch_cg _ (fun b _ => by rw [nb (g + 21) (by omega), nb (g + 22) (by omega)]; exact ⟨rfl, rfl⟩), st.cg (fun i _ => by rw [nb (g + 10) (by omega)]) (fun v _ => by rw [nb (g + 1) (by omega)]) (nb _ (by omega)) (nb _ (by omega)) (nb _ (by omega))⟩))
theorem x_we27 (hF : FMx G) (cx : gcx M0 g p O P L V F Ab0 Be0 ns sf ef W pl nq sm N n nms) (hc : c < cnt) (hcc2 : cc ≤ 4096) (hcc1 : mI M1 g 12 = ((cc : Nat) : Int)) (huv : u ≤ v ∧ v ≤ u + 8 ∧ v ≤ 480) (hlen : brs.length = v - u) (hbr : ∀ (b : Nat) (x : br9), brs[b]? = some x → mI M0 (p + 13) (u + b) = x.1 ∧ ∃ s : Nat, mI M0 (p + 14) (u + b) = ((s : Nat) : Int) ∧ RuC M0 O P L W pl nq sm n ns ef nms x.2.1.1 x.2.1.2 s) : ∀ (t i : Nat) (M : mM) (Ab Be C : Nat), v - u ≤ i + t → i ≤ v - u → GX M0 z g p O P K V F1 ns1 sf1 ef1 L cnt Ab0 Be0 C0 M Ab Be C → wgF M1 g M → gst9 M g V F ns W pl nq sm N nms k (fun v => sgL.getD v 0) → chz M g i → chq9 (evq W pl nq sm N nms) sgL brs = ((chq9 (evq W pl nq sm N nms) sgL (brs.drop i)).1, lch9 M g i ++ (chq9 (evq W pl nq sm N nms) sgL (brs.drop i)).2) → h_Ga_weighChances_27 G (d + 4) g c u ((v - u : Nat) : Int) i M (fun r M' => weQ M0 z g p O P K V F1 ns1 sf1 ef1 L cnt Ab0 Be0 C0 M1 (v - u) cc r M' ∧ weY (chq9 (evq W pl nq sm N nms) sgL brs) (mI M0 (p + 10) c) g V F ns W pl nq sm N nms k sgL cc (v - u) r M') := by
  intro t
  have fin : ∀ {i : Nat} {M : mM} {Ab Be C : Nat}, i = v - u → GX M0 z g p O P K V F1 ns1 sf1 ef1 L cnt Ab0 Be0 C0 M Ab Be C → wgF M1 g M → gst9 M g V F ns W pl nq sm N nms k (fun v => sgL.getD v 0) → chz M g i → chq9 (evq W pl nq sm N nms) sgL brs = ((chq9 (evq W pl nq sm N nms) sgL (brs.drop i)).1, lch9 M g i ++ (chq9 (evq W pl nq sm N nms) sgL (brs.drop i)).2) → h_Ga_weighChances_150 G (d + 4) g c ((v - u : Nat) : Int) 1 0 M (fun r M' => weQ M0 z g p O P K V F1 ns1 sf1 ef1 L cnt Ab0 Be0 C0 M1 (v - u) cc r M' ∧ weY (chq9 (evq W pl nq sm N nms) sgL brs) (mI M0 (p + 10) c) g V F ns W pl nq sm N nms k sgL cc (v - u) r M') := fun {i M Ab Be C} en hx hw st hch hcq => by
    rw [en] at hch hcq
    rw [List.drop_eq_nil_of_le (by omega)] at hcq
    exact we_end (d := d + 3) hx hw hc (by omega) hch (by rw [hw.1 12 (by decide)]; exact hcc1) hcc2 hcc1 st (by rw [hcq]; show ((0, 0), lch9 M g (v - u) ++ []) = _; rw [List.append_nil])
  induction t with
  | zero =>
    intro i M Ab Be C hi hi2 hx hw st hch hcq
    have c60 := hx.2.2.2.1.2.2.2.2.1.2
    exact k_Ga_weighChances_27 hx.1 (i32s (by omega) (by omega)) (i32s (by omega) (by omega)) (i32s (by omega) (by omega)) (i32s (by omega) (by omega)) ⟨fun _ => fin (by omega) hx hw st hch hcq, fun y => absurd y (by omega)⟩
  | succ t ih =>
    intro i M Ab Be C hi hi2 hx hw st hch hcq
    have c60 := hx.2.2.2.1.2.2.2.2.1.2
    refine k_Ga_weighChances_27 hx.1 (i32s (by omega) (by omega)) (i32s (by omega) (by omega)) (i32s (by omega) (by omega)) (i32s (by omega) (by omega)) ⟨fun y => fin (by omega) hx hw st hch hcq, fun y => ?_⟩
    have inn : i < v - u := by omega
    obtain ⟨h1, h2, h3, h4, h5, -⟩ := id hx
    obtain ⟨g0, ⟨-, -, -, -, -, -, -, -, -, g15, -, g17, g18⟩, -, -⟩ := id h2
    obtain ⟨x, hxb⟩ : ∃ x, brs[i]? = some x := ⟨brs[i], List.getElem?_eq_getElem (by omega)⟩
    have hdr : brs.drop i = x :: brs.drop (i + 1) := by
      rw [List.drop_eq_getElem_cons (by omega)]
      rw [List.getElem?_eq_getElem (by omega)] at hxb
      rw [Option.some.inj hxb]
    obtain ⟨hpl, s1, b1, ru⟩ := hbr i x hxb
    obtain ⟨r9, l9, ec9, e9, u1, u2, u3, u4, -⟩ := id ru
    have gd : vgd (kdq W (E9 sm r9 0) 0 x.2.1.1 x.2.1.2) (evq W pl nq sm N nms sgL x.2.1.1 x.2.1.2) := vls_ok cx.2.1 cx.2.2.1 st.2.2.1 u1 u2 u3 u4
    rw [hdr] at hcq
    have p18 := h4.1.2.2.2.2.2.2.1.2.2.2.2.2.2.2.2.2.2.2.1
    have kp18 := h4.1.2.2.2.2.2.2.2.1.2.2.2.2.2.2.2.2.2.2.2.1
    have np18 := h4.1.2.2.2.2.2.2.2.2.2.2.2.2.2.2.2.2.2.2.2.1
    rw [h5.1, p18, np18, g15, show Int.toNat ((u : Int) + (i : Int)) = u + i by omega, gx_p hx 14 (by omega), b1]
    refine ⟨g0, h4.1.1, kp18, by omega, h3.1, (x_Ga_run hF hx cx st ru).mono (fun x14 M13 kk => ?_)⟩
    obtain ⟨⟨i14, o13, hx14, Ab', Be', C', hx13, f13, s13, -⟩, rx, st13⟩ := kk
    have rx : rnx (g + 10) (evq W pl nq sm N nms sgL x.2.1.1 x.2.1.2) x14 M13 := rx
    have w13 := hw.trans (ga_wg hx f13 s13)
    obtain ⟨ce1, ce2⟩ := ga_ce hx f13
    obtain ⟨-, k2, k3, k4, k5, -⟩ := id hx13
    obtain ⟨j0, ⟨-, -, -, -, -, -, -, -, -, j15, -, j17, j18⟩, ⟨-, -, -, -, -, -, -, -, -, -, jk21, jk22⟩, ⟨-, -, -, -, -, -, -, -, -, -, jn21, jn22⟩⟩ := id k2
    have mA := k3.2.1.2.2.1
    have mB := k3.2.1.2.2.2.1
    have kA := k3.2.2.1.2.2.1
    have kB := k3.2.2.1.2.2.2.1
    have nA := k3.2.2.2.1.2.1
    have nB := k3.2.2.2.1.2.2.1
    have c64 := k3.2.2.2.2.2.2.2.1
    obtain ⟨sA, sB, sne, sz⟩ := k3.2.2.2.2.2.1
    have h61 := hx13.2.2.2.2.2.1.1
    refine ⟨i14, o13, fun y14 => ⟨j0, (x_Ga_machineFault o13 j0 j15 k3.1).mono (fun r M' q => ?_)⟩, fun y14 => ?_⟩
    · obtain ⟨-, rx1, rx2, rx3⟩ := rx.resolve_right (fun u => by have := u.1; omega)
      obtain ⟨q1, q2, q3, q4⟩ := q
      refine ⟨q1, q3.1, pl_we hx13 w13 q3 q1 (by rw [q2, rx2]; exact rx1), Or.inl ?_⟩
      rw [hcq, chq_f rx1]
      exact ⟨rx1, by rw [q2, rx2], by rw [q4, rx3]⟩
    · obtain ⟨-, rx1, rx2, rx3⟩ := rx.resolve_left (fun u => y14 u.1)
      obtain ⟨-, gd1, gd2, gd3, -⟩ := gd.resolve_right (fun u => by omega)
      rw [mA] at rx2
      rw [mB] at rx3
      have p17 := k4.1.2.2.2.2.2.2.1.2.2.2.2.2.2.2.2.2.2.1
      have kp17 := k4.1.2.2.2.2.2.2.2.1.2.2.2.2.2.2.2.2.2.2.1
      have np17 := k4.1.2.2.2.2.2.2.2.2.2.2.2.2.2.2.2.2.2.2.1
      have B21 : Be' ≠ g + 21 ∧ Be' ≠ g + 22 := by
        clear hx hx13 k2 k3 k4 h2 h3 h4 ih hch f13 w13 hw ce1 ce2 hcq hbr gd1 gd2 gd3 rx1 rx2 rx3 rx gd fin ru cx st st13 hxb hdr u1 u2 u3 u4
        omega
      rw [j15, mA, j17, nA, jn21, Int.toNat_natCast]
      refine ⟨j0, k3.1, kA, ⟨by omega, by omega⟩, jk21, by omega, fun M28 e28 => ?_⟩
      have f28 : FI (fun x => x = g + 21) M13 M28 := by rw [e28]; exact FI.ui rfl
      have iB : mI M28 Be' 0 = mI M13 Be' 0 := by rw [f28.2.2.2.2.2.2 Be' B21.1]
      rw [f28.1, f28.2.1, f28.2.2.1, j15, mB, j18, nB, jn22, iB]
      refine ⟨k3.1, kB, ⟨by omega, by omega⟩, jk22, by omega, fun M35 e35 => ?_⟩
      have f35 : FI (fun x => x = g + 22) M28 M35 := by rw [e35]; exact FI.ui rfl
      have ff : FI (fun x => x = g + 21 ∨ x = g + 22) M13 M35 := (f28.mono (fun _ y => Or.inl y)).trans (f35.mono (fun _ y => Or.inr y))
      have o35 : mOk M35 := by rw [e35]; exact mOk_UI (by rw [e28]; exact mOk_UI o13 (o13 _ _).1) (o13 _ _).1
      have nb : ∀ x, x ≠ g + 21 → x ≠ g + 22 → mI M35 x = mI M13 x := fun x a b => ff.2.2.2.2.2.2 x (fun y => y.elim a b)
      have e21 : ∀ j, mI M35 (g + 21) j = if j = i then mI M13 Ab' 0 else mI M13 (g + 21) j := fun j => by
        rw [f35.2.2.2.2.2.2 _ (show ¬ g + 21 = g + 22 by omega), mI_ui _ j e28]
        by_cases yj : j = i
        · rw [if_pos ⟨rfl, yj⟩, if_pos yj]
        · rw [if_neg (fun t => yj t.2), if_neg yj]
      have e22 : ∀ j, mI M35 (g + 22) j = if j = i then mI M13 Be' 0 else mI M13 (g + 22) j := fun j => by
        rw [mI_ui _ j e35]
        by_cases yj : j = i
        · rw [if_pos ⟨rfl, yj⟩, if_pos yj]
        · rw [if_neg (fun t => yj t.2), if_neg yj, f28.2.2.2.2.2.2 _ (show ¬ g + 22 = g + 21 by omega)]
      have x35 := hx13.fi o35 (ff.mono (fun x y => Or.inr (Or.inr (by have y' : x = g + 21 ∨ x = g + 22 := y; omega))))
      have w35 : wgF M1 g M35 := w13.trans ⟨fun j _ => by rw [nb g (by omega) (by omega)], fun j j1 j9 _ => nb _ (by omega) (by omega), nb _ (by omega) (by omega), fun j _ => by rw [nb _ (by omega) (by omega)], by rw [nb _ (by omega) (by omega)]⟩
      have st35 : gst9 M35 g V F ns W pl nq sm N nms k (fun v => sgL.getD v 0) := st13.cg (fun i _ => by rw [nb _ (by omega) (by omega)]) (fun v _ => by rw [nb _ (by omega) (by omega)]) (nb _ (by omega) (by omega)) (nb _ (by omega) (by omega)) (nb _ (by omega) (by omega))
      have v21 : mI M35 (g + 21) i = (evq W pl nq sm N nms sgL x.2.1.1 x.2.1.2).2.1 := by rw [e21, if_pos rfl]; exact rx2
      have v22 : mI M35 (g + 22) i = (evq W pl nq sm N nms sgL x.2.1.1 x.2.1.2).2.2 := by rw [e22, if_pos rfl]; exact rx3
      rw [ff.1, ff.2.1, ff.2.2.1, j17, j18, jn21, jn22, k5.1, p17, np17]
      refine ⟨jk21, by omega, fun _ => ⟨by omega, jk22, by omega⟩, fun y => ⟨k4.1.1, kp17, by omega, ?_⟩, fun y => ?_⟩
      · refine (x_Ga_fault ⟨by decide, by decide⟩ (o35 _ _).1 o35 (by rw [ff.1]; exact j0)).mono (fun r M' q => ?_)
        rw [q.1]
        refine ⟨⟨by decide, by decide⟩, q.2.1.1, pl_we x35 w35 q.2.1 ⟨by decide, by decide⟩ (by decide), Or.inl ?_⟩
        rw [v21, v22] at y
        rw [hcq, chq_r rx1 (y.imp id (fun u => by omega))]
        refine ⟨by show (11 : Int) ≠ 0; decide, rfl, ?_⟩
        rw [q.2.2, gx_p x35 13 (by omega)]
        exact hpl
      · have y := y
        have yy : 0 ≤ mI M35 (g + 21) i ∧ mI M35 (g + 21) i ≤ mI M35 (g + 22) i := by
          by_cases y1 : mI M35 (g + 21) i < 0
          · exact absurd (Or.inl y1) y
          · by_cases y2 : mI M35 (g + 21) i ≤ mI M35 (g + 22) i
            · exact ⟨by omega, y2⟩
            · exact absurd (Or.inr y2) y
        have le : lch9 M35 g (i + 1) = lch9 M g i ++ [(evq W pl nq sm N nms sgL x.2.1.1 x.2.1.2).2] := by
          show lch9 M35 g i ++ [(mI M35 (g + 21) i, mI M35 (g + 22) i)] = _
          rw [v21, v22, lch_cg (M := M) (M' := M35) i (fun b hb => by rw [e21, e22, if_neg (by omega), if_neg (by omega), ce1 21 (by omega), ce1 22 (by omega)]; exact ⟨rfl, rfl⟩)]
        rw [v21, v22] at yy
        rw [show ((i : Int) + 1) = ((i + 1 : Nat) : Int) by omega]
        refine ih (i + 1) M35 Ab' Be' C' (by omega) (by omega) x35 w35 st35 (fun b hb => ?_) ?_
        · by_cases yb : b = i
          · subst yb
            rw [v21, v22]
            exact ⟨yy.1, yy.2, gd2.1, by omega⟩
          · rw [e21, e22, if_neg yb, if_neg yb, ce1 21 (by omega), ce1 22 (by omega)]
            exact hch b (by omega)
        · rw [hcq, chq_s rx1 (fun u => by omega), le]
          show (_, _ ++ _ :: _) = (_, _)
          rw [List.append_assoc]
          rfl
theorem x_Ga_weighChances (hF : FMx G) (cx : gcx M0 g p O P L V F Ab0 Be0 ns sf ef W pl nq sm N n nms) (hx : GX M0 z g p O P K V F1 ns1 sf1 ef1 L cnt Ab0 Be0 C0 M Ab Be C) (st : gst9 M g V F ns W pl nq sm N nms k (fun v => sgL.getD v 0)) (hc : c < cnt) (hcc2 : cc ≤ 4096) (hcc : mI M g 12 = ((cc : Nat) : Int)) (hu : mI M0 (p + 12) c = ((u : Nat) : Int)) (hv : mI M0 (p + 12) (c + 1) = ((v : Nat) : Int)) (huv : u ≤ v ∧ v ≤ u + 8 ∧ v ≤ 480) (hlen : brs.length = v - u) (hbr : ∀ (b : Nat) (x : br9), brs[b]? = some x → mI M0 (p + 13) (u + b) = x.1 ∧ ∃ s : Nat, mI M0 (p + 14) (u + b) = ((s : Nat) : Int) ∧ RuC M0 O P L W pl nq sm n ns ef nms x.2.1.1 x.2.1.2 s) : Ci G y_Ga_weighChances (d + 5) [vr g, vi c] M (fun r M' => weQ M0 z g p O P K V F1 ns1 sf1 ef1 L cnt Ab0 Be0 C0 M (v - u) cc r M' ∧ weY (chq9 (evq W pl nq sm N nms) sgL brs) (mI M0 (p + 10) c) g V F ns W pl nq sm N nms k sgL cc (v - u) r M') := by
  obtain ⟨h1, h2, h3, h4, h5, -⟩ := id hx
  have c60 := h4.2.2.2.2.1.2
  have p16 := h4.1.2.2.2.2.2.2.1.2.2.2.2.2.2.2.2.2.1
  have kp16 := h4.1.2.2.2.2.2.2.2.1.2.2.2.2.2.2.2.2.2.1
  have np16 := h4.1.2.2.2.2.2.2.2.2.2.2.2.2.2.2.2.2.2.1
  refine k_Ga_weighChances h1 (i32s (by omega) (by omega)) ?_
  rw [h5.1, p16, np16, Int.toNat_natCast, show Int.toNat ((c : Int) + 1) = c + 1 by omega, gx_p hx 12 (by omega), hu, hv, show ((v : Nat) : Int) - ((u : Nat) : Int) = ((v - u : Nat) : Int) by omega]
  exact ⟨h2.1, h4.1.1, kp16, by omega, by omega, x_we27 hF cx hc hcc2 hcc huv hlen hbr (v - u) 0 M Ab Be C (by omega) (by omega) hx wgF.refl st (fun b hb => absurd hb (by omega)) rfl⟩
end GBC
end
section
/-! The class's game, exactly: states and branches as lists; a branch is put to its command. -/
section GBD
variable {M M' : mM} {g V cn k a m : Nat}
/-- state k -/
def lsm (M : mM) (g V k : Nat) : List Int := (List.range V).map (fun v => mI M (g + 1) (12 * k + v))
/-- all states -/
def Sm9 (M : mM) (g V cn : Nat) : List (List Int) := (List.range cn).map (lsm M g V)
/-- the next state -/
def nxm (M : mM) (g V : Nat) : List Int := (List.range V).map (fun v => mI M (g + 10 + 2) v)
/-- m branches from a on -/
def brl (M : mM) (g a : Nat) : Nat → List (Nat × Int)
  | 0 => []
  | m + 1 => brl M g a m ++ [((mI M (g + 8) (a + m)).toNat, mI M (g + 9) (a + m))]
theorem lsm_nx : lsm M g V k = nxm M g V ↔ mtk M g V k := by
  unfold lsm nxm mtk
  rw [List.map_inj_left]
  exact ⟨fun h v hv => h v (List.mem_range.mpr hv), fun h v hv => h v (List.mem_range.mp hv)⟩
theorem lsm_cg (h : ∀ v, v < V → mI M' (g + 1) (12 * k + v) = mI M (g + 1) (12 * k + v)) : lsm M' g V k = lsm M g V k := by
  unfold lsm
  exact List.map_congr_left (fun v hv => h v (List.mem_range.mp hv))
theorem Sm9_cg (hV : V ≤ 12) (h : ∀ j, j < 12 * cn → mI M' (g + 1) j = mI M (g + 1) j) : Sm9 M' g V cn = Sm9 M g V cn := by
  unfold Sm9
  exact List.map_congr_left (fun k hk => lsm_cg (fun v hv => h _ (by have := List.mem_range.mp hk; omega)))
theorem Sm9_len : (Sm9 M g V cn).length = cn := by
  unfold Sm9
  rw [List.length_map, List.length_range]
theorem Sm9_get (h : k < cn) : (Sm9 M g V cn)[k]? = some (lsm M g V k) := by
  unfold Sm9
  rw [List.getElem?_map, List.getElem?_range h]
  rfl
theorem Sm9_s (h1 : ∀ v, v < 12 → mI M' (g + 1) (12 * cn + v) = mI M (g + 10 + 2) v) (hV : V ≤ 12) (h2 : ∀ j, j < 12 * cn → mI M' (g + 1) j = mI M (g + 1) j) : Sm9 M' g V (cn + 1) = Sm9 M g V cn ++ [nxm M g V] := by
  have e : Sm9 M' g V (cn + 1) = Sm9 M' g V cn ++ [lsm M' g V cn] := by
    unfold Sm9
    rw [List.range_succ, List.map_append]
    rfl
  rw [e, Sm9_cg hV h2]
  congr 2
  unfold lsm nxm
  exact List.map_congr_left (fun v hv => h1 v (by have := List.mem_range.mp hv; omega))
theorem enq_k (sm : SLm M g V cn) (hk : k < cn) (mt : mtk M g V k) : enq9 (Sm9 M g V cn) (nxm M g V) = some (k, Sm9 M g V cn) := by
  have f : (Sm9 M g V cn).findIdx? (fun y => y == nxm M g V) = some k := by
    rw [List.findIdx?_eq_some_iff_getElem]
    have gt : ∀ (j : Nat) (h : j < (Sm9 M g V cn).length), (Sm9 M g V cn)[j] = lsm M g V j := fun j h => by
      have := Sm9_get (M := M) (g := g) (V := V) (k := j) (cn := cn) (by rw [Sm9_len] at h; exact h)
      rw [List.getElem?_eq_getElem h] at this
      exact Option.some.inj this
    refine ⟨by rw [Sm9_len]; exact hk, ?_, fun j hj => ?_⟩
    · rw [gt k]
      exact beq_iff_eq.mpr (lsm_nx.mpr mt)
    · rw [gt j]
      intro u
      have mj := lsm_nx.mp (beq_iff_eq.mp u)
      have := sm.2 j k (by omega) hk (fun v hv => by rw [mj v hv, mt v hv])
      omega
  unfold enq9
  rw [f]
theorem enqN9 (h : ∀ k, k < cn → ¬ mtk M g V k) : enq9 (Sm9 M g V cn) (nxm M g V) = if cn = 512 then none else some (cn, Sm9 M g V cn ++ [nxm M g V]) := by
  have f : (Sm9 M g V cn).findIdx? (fun y => y == nxm M g V) = none := by
    rw [List.findIdx?_eq_none_iff]
    intro y hy
    unfold Sm9 at hy
    obtain ⟨k, hk, e⟩ := List.mem_map.mp hy
    rw [← e]
    exact beq_eq_false_iff_ne.mpr (fun u => h k (List.mem_range.mp hk) (lsm_nx.mp u))
  unfold enq9
  rw [f]
  show (if (Sm9 M g V cn).length = 512 then none else some ((Sm9 M g V cn).length, Sm9 M g V cn ++ [nxm M g V])) = _
  rw [Sm9_len]
theorem jnq_n {to : Nat} {wt : Int} : ∀ l : List (Nat × Int), (∀ x, x ∈ l → x.1 ≠ to) → jnq9 to wt l = none
  | [], _ => rfl
  | x :: l, h => by
    show (if x.1 = to then some ((x.1, x.2 + wt) :: l) else (jnq9 to wt l).map (fun l => x :: l)) = none
    rw [if_neg (h x List.mem_cons_self), jnq_n l (fun y hy => h y (List.mem_cons_of_mem _ hy))]
    rfl
theorem jnq_s {to : Nat} {wt : Int} {y : Nat × Int} {l2 : List (Nat × Int)} (hy : y.1 = to) : ∀ l : List (Nat × Int), (∀ x, x ∈ l → x.1 ≠ to) → jnq9 to wt (l ++ y :: l2) = some (l ++ (y.1, y.2 + wt) :: l2)
  | [], _ => by
    show (if y.1 = to then some ((y.1, y.2 + wt) :: l2) else (jnq9 to wt l2).map (fun l => y :: l)) = _
    rw [if_pos hy]
    rfl
  | x :: l, h => by
    show (if x.1 = to then some ((x.1, x.2 + wt) :: (l ++ y :: l2)) else (jnq9 to wt (l ++ y :: l2)).map (fun l => x :: l)) = _
    rw [if_neg (h x List.mem_cons_self), jnq_s hy l (fun z hz => h z (List.mem_cons_of_mem _ hz))]
    rfl
theorem brl_cg : ∀ m, (∀ i, a ≤ i → i < a + m → mI M' (g + 8) i = mI M (g + 8) i ∧ mI M' (g + 9) i = mI M (g + 9) i) → brl M' g a m = brl M g a m
  | 0, _ => rfl
  | m + 1, h => by
    show brl M' g a m ++ [((mI M' (g + 8) (a + m)).toNat, mI M' (g + 9) (a + m))] = brl M g a m ++ [((mI M (g + 8) (a + m)).toNat, mI M (g + 9) (a + m))]
    rw [brl_cg m (fun i h1 h2 => h i h1 (by omega)), (h (a + m) (by omega) (by omega)).1, (h (a + m) (by omega) (by omega)).2]
theorem brl_len : ∀ m, (brl M g a m).length = m
  | 0 => rfl
  | m + 1 => by
    show (brl M g a m ++ [_]).length = m + 1
    rw [List.length_append, brl_len m]
    rfl
theorem brl_mem {x : Nat × Int} : ∀ m, x ∈ brl M g a m → ∃ i, a ≤ i ∧ i < a + m ∧ x = ((mI M (g + 8) i).toNat, mI M (g + 9) i)
  | 0, h => absurd h (by simp [brl])
  | m + 1, h => by
    rcases List.mem_append.mp h with h | h
    · obtain ⟨i, h1, h2, h3⟩ := brl_mem m h
      exact ⟨i, h1, by omega, h3⟩
    · exact ⟨a + m, by omega, by omega, List.mem_singleton.mp h⟩
theorem brl_sp {i : Nat} : ∀ m, brl M g a (i + 1 + m) = brl M g a i ++ ((mI M (g + 8) (a + i)).toNat, mI M (g + 9) (a + i)) :: brl M g (a + i + 1) m
  | 0 => rfl
  | m + 1 => by
    show brl M g a (i + 1 + m) ++ [((mI M (g + 8) (a + (i + 1 + m))).toNat, mI M (g + 9) (a + (i + 1 + m)))] = _
    rw [brl_sp m, show a + (i + 1 + m) = a + i + 1 + m by omega]
    show _ = brl M g a i ++ _ :: (brl M g (a + i + 1) m ++ [_])
    rw [List.append_assoc]
    rfl
end GBD
/-- all states are sound -/
def SoO (nms : List nm9) (S : List (List Int)) : Prop := ∀ s, s ∈ S → SgO (fun v => s.getD v 0) nms
/-- the states in memory are S -/
def gxe (M : mM) (g V cn : Nat) (S : List (List Int)) : Prop := mI M g 0 = ((cn : Nat) : Int) ∧ SLm M g V cn ∧ Sm9 M g V cn = S
section GBE
variable {G : mG} {d z g p O P K V F L cnt Ab Be C Ab0 Be0 C0 n N c cc u v k cn bc bc0 : Nat} {M0 M M' M1 : mM} {ns : Nat → Int} {sf ef : Nat → Nat} {F1 : Nat} {ns1 : Nat → Int} {sf1 ef1 : Nat → Nat} {W pl nq : Nat → Int} {sm : Nat → Nat → Prop} {nms : List nm9} {sgL : List Int} {sum9 : Int}
theorem gxe.cg {S : List (List Int)} (h : gxe M g V cn S) (hV : V ≤ 12) (e0 : mI M' g 0 = mI M g 0) (e1 : mI M' (g + 1) = mI M (g + 1)) (e20 : mI M' (g + 20) = mI M (g + 20)) : gxe M' g V cn S := by
  obtain ⟨h1, h2, h3⟩ := h
  refine ⟨by rw [e0]; exact h1, ?_, by rw [Sm9_cg (M := M) (M' := M') hV (fun j _ => by rw [e1])]; exact h3⟩
  unfold SLm at h2 ⊢
  rw [e1, e20]
  exact h2
/-- what following a branch comes to; fq what the pure following is: of the rest, the states and the branches -/
def foX (fq : List (br9 × (Int × Int)) → List (List Int) → List (Nat × Int) → (Int × Int) × List (List Int) × List (Nat × Int)) (x : br9 × (Int × Int)) (S : List (List Int)) (B : List (Nat × Int)) (g V F : Nat) (ns W pl nq : Nat → Int) (sm : Nat → Nat → Prop) (N : Nat) (nms : List nm9) (k : Nat) (sgL : List Int) (bc0 : Nat) (r : Int) (M' : mM) : Prop := (r ≠ 0 ∧ ∀ rest, (fq (x :: rest) S B).1 = (r, mI M' g 10)) ∨ (r = 0 ∧ ∃ (S' : List (List Int)) (B' : List (Nat × Int)) (cn' bc' : Nat), (∀ rest, fq (x :: rest) S B = fq rest S' B') ∧ SoO nms S' ∧ gxe M' g V cn' S' ∧ mI M' g 13 = ((bc' : Nat) : Int) ∧ brl M' g bc0 (bc' - bc0) = B' ∧ gst9 M' g V F ns W pl nq sm N nms k (fun v => sgL.getD v 0))
theorem x_fo69 {sh to : Int} {tn : Nat} {fq : List (br9 × (Int × Int)) → List (List Int) → List (Nat × Int) → (Int × Int) × List (List Int) × List (Nat × Int)} {x : br9 × (Int × Int)} {S S2 : List (List Int)} {B : List (Nat × Int)} (cx : gcx M0 g p O P L V F Ab0 Be0 ns sf ef W pl nq sm N n nms) (st : gst9 M g V F ns W pl nq sm N nms k (fun v => sgL.getD v 0)) (so : SoO nms S2) (ge : gxe M g V cn S2) (hB : B = brl M g bc0 (bc - bc0)) (etn : to = ((tn : Nat) : Int)) (hfq : ∀ rest, fq (x :: rest) S B = match jnq9 tn sh B with | some B' => fq rest S2 B' | none => if bc0 + B.length = 4096 then ((5, mI M0 (p + 10) c), S2, B) else fq rest S2 (B ++ [(tn, sh)])) (hb1 : mI M1 g 13 = ((bc : Nat) : Int)) (hx : GX M0 z g p O P K V F1 ns1 sf1 ef1 L cnt Ab0 Be0 C0 M Ab Be C) (hf : flF M1 g p bc0 M) (hc : c < cnt) (hcn5 : cn ≤ 512) (hbc : mI M g 13 = ((bc : Nat) : Int)) (hip : ipG M g cn bc0 bc sum9) (hsh : 1 ≤ sh) (hsm : sum9 + sh < 1000000000) (hto : 0 ≤ to ∧ to < cn) (hcc : v ≤ cn) : ∀ (t i : Nat), bc ≤ i + t → bc0 ≤ i → i ≤ bc → (∀ j, bc0 ≤ j → j < i → mI M (g + 8) j ≠ to) → h_Ga_follow_69 G d g c sh to i M (fun r M' => foQ M0 z g p O P K V F1 ns1 sf1 ef1 L cnt Ab0 Be0 C0 M1 bc0 v (sum9 + sh) r M' ∧ foX fq x S B g V F ns W pl nq sm N nms k sgL bc0 r M') := by
  have hcn := ge.1
  have hsl : SLt M g cn := fun i hi => (ge.2.1.1.1 i hi).imp id (fun ⟨k, k1, k2⟩ => ⟨by omega, by omega⟩)
  obtain ⟨h1, h2, h3, h4, h5, -⟩ := id hx
  obtain ⟨g0, ⟨-, -, -, -, -, -, -, g8, g9, -⟩, ⟨-, -, -, -, -, -, -, k8, k9, -⟩, ⟨-, -, -, -, -, -, -, n8, n9, -⟩⟩ := h2
  have p14 := h4.1.2.2.2.2.2.2.1.2.2.2.2.2.2.2.1
  have kp14 := h4.1.2.2.2.2.2.2.2.1.2.2.2.2.2.2.2.1
  have np14 := h4.1.2.2.2.2.2.2.2.2.2.2.2.2.2.2.2.1
  have c60 := h4.2.2.2.2.1.2
  have V12 := h4.2.2.1.2
  have ep := gx_p hx
  obtain ⟨ip1, ip2, ip3, ip4⟩ := hip
  have off := ga_off hx
  have wpos : ∀ i, bc0 ≤ i → i < bc0 + (bc - bc0) → 1 ≤ mI M (g + 9) i := fun i a b => (ip3 i a (by omega)).2.2
  have smb := wsm_ge wpos (bc - bc0) (Nat.le_refl _)
  rw [ip4] at smb
  have lB : B.length = bc - bc0 := by rw [hB, brl_len]
  have jn : (∀ j, bc0 ≤ j → j < bc → mI M (g + 8) j ≠ to) → jnq9 tn sh B = none := fun hh => jnq_n B (fun y hy => by
    rw [hB] at hy
    obtain ⟨i, i1, i2, i3⟩ := brl_mem _ hy
    rw [i3]
    have a := hh i i1 (by omega)
    have b := (ip3 i i1 (by omega)).1
    show (mI M (g + 8) i).toNat ≠ tn
    omega)
  -- no branch has that goal yet
  have new : (∀ j, bc0 ≤ j → j < bc → mI M (g + 8) j ≠ to) → mK M g = 7 ∧ (((mI M g 13 = 4096) → (mK M (mR M g 14) = 6 ∧ mK M (mR M (mR M g 14) 14) = 30 ∧ ((0 : Int) ≤ c ∧ (c : Int) < (mN M (mR M (mR M g 14) 14) : Int)) ∧ Ci G y_Ga_fault d [vr g, vi 5, vi (mI M (mR M (mR M g 14) 14) (Int.toNat c))] M (fun x62 M61 => i32 x62 ∧ mOk M61 ∧ (foQ M0 z g p O P K V F1 ns1 sf1 ef1 L cnt Ab0 Be0 C0 M1 bc0 v (sum9 + sh) x62 M61 ∧ foX fq x S B g V F ns W pl nq sm N nms k sgL bc0 x62 M61)))) ∧ (¬ (mI M g 13 = 4096) → (mK M (mR M g 8) = 30 ∧ ((0 : Int) ≤ mI M g 13 ∧ mI M g 13 < (mN M (mR M g 8) : Int)) ∧ ∀ M66, M66 = mUI M (mR M g 8) (Int.toNat (mI M g 13)) to → mK M66 (mR M66 g 9) = 30 ∧ ((0 : Int) ≤ mI M66 g 13 ∧ mI M66 g 13 < (mN M66 (mR M66 g 9) : Int)) ∧ ∀ M70, M70 = mUI M66 (mR M66 g 9) (Int.toNat (mI M66 g 13)) sh → i32 ((mI M70 g 13) + 1) ∧ ∀ M73, M73 = mUI M70 g 13 ((mI M70 g 13) + 1) → foQ M0 z g p O P K V F1 ns1 sf1 ef1 L cnt Ab0 Be0 C0 M1 bc0 v (sum9 + sh) 0 M73 ∧ foX fq x S B g V F ns W pl nq sm N nms k sgL bc0 0 M73))) := fun hno => by
    have jn0 := jn hno
    refine ⟨g0, fun y => ?_, fun y => ?_⟩
    · rw [h5.1, p14, np14, Int.toNat_natCast]
      refine ⟨h4.1.1, kp14, by omega, (x_Ga_fault ⟨by decide, by decide⟩ (h1 _ _).1 h1 g0).mono (fun r M' q => ?_)⟩
      obtain ⟨e, ⟨q1, q2, q3⟩, q4⟩ := q
      rw [e]
      have nb : ∀ x, x ≠ g → mI M' x = mI M x := fun x hx => q2.2.2.2.2.2.2 x hx
      refine ⟨⟨by decide, by decide⟩, q1, ⟨⟨by decide, by decide⟩, hf.trans ⟨fun i _ i10 _ => q3 i i10, fun i i2 _ => nb _ (by omega), ⟨nb _ (by omega), nb _ (by omega)⟩, by rw [nb _ (by omega)], fun i hi => nb _ (by have := off i 0 hi (by omega); omega), fun i _ => ⟨by rw [nb _ (by omega)], by rw [nb _ (by omega)]⟩⟩, ⟨Ab, Be, C, hx.fi q1 (q2.mono (fun x y => Or.inl (by have y' : x = g := y; omega)))⟩, cn, bc, ⟨by rw [q3 0 (by decide)]; exact hcn, hcc, hcn5, fun i hi => by rw [nb _ (by omega)]; exact hsl i hi⟩, by rw [q3 13 (by decide)]; exact hbc, ip1, ⟨ip2, by omega⟩, fun u => absurd u (by decide)⟩, Or.inl ⟨by decide, fun rest => ?_⟩⟩
      rw [hfq rest, jn0]
      show (if bc0 + B.length = 4096 then ((5, mI M0 (p + 10) c), S2, B) else fq rest S2 (B ++ [(tn, sh)])).1 = _
      rw [if_pos (by rw [lB]; omega), q4, ep 10 (by omega)]
    · rw [g8, n8, hbc, Int.toNat_natCast]
      refine ⟨k8, by omega, fun M66 e66 => ?_⟩
      have f66 : FI (fun x => x = g + 8) M M66 := by rw [e66]; exact FI.ui rfl
      rw [f66.1, f66.2.1, f66.2.2.1, g9, n9, f66.2.2.2.2.2.2 g (show ¬ g = g + 8 by omega), hbc, Int.toNat_natCast]
      refine ⟨k9, by omega, fun M70 e70 => ?_⟩
      have f70 : FI (fun x => x = g + 9) M66 M70 := by rw [e70]; exact FI.ui rfl
      rw [f70.2.2.2.2.2.2 g (show ¬ g = g + 9 by omega), f66.2.2.2.2.2.2 g (show ¬ g = g + 8 by omega), hbc]
      refine ⟨⟨by omega, by omega⟩, fun M73 e73 => ?_⟩
      have f73 : FI (fun x => x = g) M70 M73 := by rw [e73]; exact FI.ui rfl
      have ff : FI (fun x => x = g ∨ x = g + 8 ∨ x = g + 9) M M73 := ((f66.mono (fun _ y => Or.inr (Or.inl y))).trans (f70.mono (fun _ y => Or.inr (Or.inr y)))).trans (f73.mono (fun _ y => Or.inl y))
      have o73 : mOk M73 := by rw [e73]; exact mOk_UI (by rw [e70]; exact mOk_UI (by rw [e66]; exact mOk_UI h1 ⟨by omega, by omega⟩) ⟨by omega, by omega⟩) ⟨by omega, by omega⟩
      have nb : ∀ x, x ≠ g → x ≠ g + 8 → x ≠ g + 9 → mI M73 x = mI M x := fun x a b c => ff.2.2.2.2.2.2 x (fun y => y.elim a (fun y => y.elim b c))
      have i73 : ∀ i, mI M73 g i = if i = 13 then (bc : Int) + 1 else mI M g i := fun i => by
        rw [mI_ui g i e73]
        by_cases y : i = 13
        · rw [if_pos ⟨rfl, y⟩, if_pos y]
        · rw [if_neg (fun t => y t.2), if_neg y, f70.2.2.2.2.2.2 g (show ¬ g = g + 9 by omega), f66.2.2.2.2.2.2 g (show ¬ g = g + 8 by omega)]
      have w73 : ∀ i, mI M73 (g + 9) i = if i = bc then sh else mI M (g + 9) i := fun i => by
        rw [f73.2.2.2.2.2.2 _ (show ¬ g + 9 = g by omega), mI_ui _ i e70]
        by_cases y : i = bc
        · rw [if_pos ⟨rfl, y⟩, if_pos y]
        · rw [if_neg (fun t => y t.2), if_neg y, f66.2.2.2.2.2.2 _ (show ¬ g + 9 = g + 8 by omega)]
      have v73 : ∀ i, mI M73 (g + 8) i = if i = bc then to else mI M (g + 8) i := fun i => by
        rw [f73.2.2.2.2.2.2 _ (show ¬ g + 8 = g by omega), f70.2.2.2.2.2.2 _ (show ¬ g + 8 = g + 9 by omega), mI_ui _ i e66]
        by_cases y : i = bc
        · rw [if_pos ⟨rfl, y⟩, if_pos y]
        · rw [if_neg (fun t => y t.2), if_neg y]
      have i13 : mI M73 g 13 = ((bc + 1 : Nat) : Int) := by rw [i73, if_pos rfl]; omega
      refine ⟨⟨⟨by decide, by decide⟩, hf.trans ⟨fun i _ _ i13 => by rw [i73, if_neg i13], fun i i2 i7 => nb _ (by omega) (by omega) (by omega), ⟨nb _ (by omega) (by omega) (by omega), nb _ (by omega) (by omega) (by omega)⟩, by rw [nb _ (by omega) (by omega) (by omega)], fun i hi => nb _ (off i 0 hi (by omega)) (off i 8 hi (by omega)) (off i 9 hi (by omega)), fun i hi => ⟨by rw [v73, if_neg (by omega)], by rw [w73, if_neg (by omega)]⟩⟩, ⟨Ab, Be, C, hx.fi o73 (ff.mono (fun x y => Or.inl (by have y' : x = g ∨ x = g + 8 ∨ x = g + 9 := y; omega)))⟩, cn, bc + 1, ⟨by rw [i73, if_neg (by decide)]; exact hcn, hcc, hcn5, fun i hi => by rw [nb _ (by omega) (by omega) (by omega)]; exact hsl i hi⟩, i13, by omega, ⟨by omega, by omega⟩, fun _ => ⟨by omega, by omega, fun i a b => ?_, ?_⟩⟩, Or.inr ⟨rfl, S2, B ++ [(tn, sh)], cn, bc + 1, fun rest => ?_, so, ge.cg V12 (by rw [i73, if_neg (by decide)]) (nb _ (by omega) (by omega) (by omega)) (nb _ (by omega) (by omega) (by omega)), i13, ?_, st.cg (fun i _ => by rw [nb _ (by omega) (by omega) (by omega)]) (fun v _ => by rw [nb _ (by omega) (by omega) (by omega)]) (nb _ (by omega) (by omega) (by omega)) (nb _ (by omega) (by omega) (by omega)) (nb _ (by omega) (by omega) (by omega))⟩⟩
      · rw [v73, w73]
        by_cases y : i = bc
        · rw [if_pos y, if_pos y]
          exact ⟨hto.1, hto.2, hsh⟩
        · rw [if_neg y, if_neg y]
          exact ip3 i a (by omega)
      · rw [show bc + 1 - bc0 = (bc - bc0) + 1 by omega]
        show wsm M73 g bc0 (bc - bc0) + mI M73 (g + 9) (bc0 + (bc - bc0)) = sum9 + sh
        rw [wsm_cg (M := M) (bc - bc0) (fun i a b => by rw [w73, if_neg (by omega)]), ip4, w73, if_pos (by omega)]
      · rw [hfq rest, jn0]
        show (if bc0 + B.length = 4096 then ((5, mI M0 (p + 10) c), S2, B) else fq rest S2 (B ++ [(tn, sh)])) = _
        rw [if_neg (by rw [lB]; omega)]
      · rw [show bc + 1 - bc0 = (bc - bc0) + 1 by omega]
        show brl M73 g bc0 (bc - bc0) ++ [((mI M73 (g + 8) (bc0 + (bc - bc0))).toNat, mI M73 (g + 9) (bc0 + (bc - bc0)))] = _
        rw [brl_cg (M := M) (bc - bc0) (fun i a b => by rw [v73, w73, if_neg (by omega), if_neg (by omega)]; exact ⟨rfl, rfl⟩), v73, w73, if_pos (by omega), if_pos (by omega), ← hB, etn, Int.toNat_natCast]
  intro t
  induction t with
  | zero =>
    intro i hi hi0 hi2 hno
    refine k_Ga_follow_69 h1 (i32s (by omega) (by omega)) ⟨by omega, by omega⟩ ⟨by omega, by omega⟩ (i32s (by omega) (by omega)) ⟨g0, fun _ => (new (fun j a b => hno j a (by omega))).2, fun y => absurd y (by omega)⟩
  | succ t ih =>
    intro i hi hi0 hi2 hno
    refine k_Ga_follow_69 h1 (i32s (by omega) (by omega)) ⟨by omega, by omega⟩ ⟨by omega, by omega⟩ (i32s (by omega) (by omega)) ⟨g0, fun y => (new (fun j a b => hno j a (by omega))).2, fun y => ?_⟩
    have ib : i < bc := by omega
    rw [g8, n8, g9, n9, Int.toNat_natCast]
    have wl := wsm_le wpos (bc - bc0) (Nat.le_refl _) i hi0 (by omega)
    have w1 := (ip3 i hi0 ib).2.2
    rw [ip4] at wl
    refine ⟨k8, by omega, fun y1 => ⟨k9, by omega, by omega, ⟨by omega, by omega⟩, fun M87 e87 => ?_⟩, fun y1 => ?_⟩
    · have f87 : FI (fun x => x = g + 9) M M87 := by rw [e87]; exact FI.ui rfl
      have nb : ∀ x, x ≠ g + 9 → mI M87 x = mI M x := fun x hx => f87.2.2.2.2.2.2 x hx
      have o87 : mOk M87 := by rw [e87]; exact mOk_UI h1 ⟨by omega, by omega⟩
      have w87 : ∀ j, mI M87 (g + 9) j = if j = i then mI M (g + 9) i + sh else mI M (g + 9) j := fun j => by
        rw [mI_ui _ j e87]
        by_cases y : j = i
        · rw [if_pos ⟨rfl, y⟩, if_pos y]
        · rw [if_neg (fun t => y t.2), if_neg y]
      have sp : B = brl M g bc0 (i - bc0) ++ ((mI M (g + 8) i).toNat, mI M (g + 9) i) :: brl M g (i + 1) (bc - (i + 1)) := by
        rw [hB, show bc - bc0 = (i - bc0) + 1 + (bc - (i + 1)) by omega, brl_sp, show bc0 + (i - bc0) = i by omega]
      have js : jnq9 tn sh B = some (brl M g bc0 (i - bc0) ++ ((mI M (g + 8) i).toNat, mI M (g + 9) i + sh) :: brl M g (i + 1) (bc - (i + 1))) := by
        rw [sp]
        refine jnq_s (by show (mI M (g + 8) i).toNat = tn; omega) _ (fun q hq => ?_)
        obtain ⟨j, j1, j2, j3⟩ := brl_mem _ hq
        rw [j3]
        have a := hno j j1 (by omega)
        have b := (ip3 j j1 (by omega)).1
        show (mI M (g + 8) j).toNat ≠ tn
        omega
      refine ⟨⟨⟨by decide, by decide⟩, hf.trans ⟨fun i _ _ _ => by rw [nb g (by omega)], fun i i2 i7 => nb _ (by omega), ⟨nb _ (by omega), nb _ (by omega)⟩, by rw [nb _ (by omega)], fun i hi => nb _ (off i 9 hi (by omega)), fun j hj => ⟨by rw [nb _ (by omega)], by rw [w87, if_neg (by omega)]⟩⟩, ⟨Ab, Be, C, hx.fi o87 (f87.mono (fun x y => Or.inl (by have y' : x = g + 9 := y; omega)))⟩, cn, bc, ⟨by rw [nb g (by omega)]; exact hcn, hcc, hcn5, fun j hj => by rw [nb _ (by omega)]; exact hsl j hj⟩, by rw [nb g (by omega)]; exact hbc, ip1, ⟨ip2, by omega⟩, fun _ => ⟨ip1, ip2, fun j a b => ?_, ?_⟩⟩, Or.inr ⟨rfl, S2, brl M g bc0 (i - bc0) ++ ((mI M (g + 8) i).toNat, mI M (g + 9) i + sh) :: brl M g (i + 1) (bc - (i + 1)), cn, bc, fun rest => ?_, so, ge.cg V12 (by rw [nb g (by omega)]) (nb _ (by omega)) (nb _ (by omega)), by rw [nb g (by omega)]; exact hbc, ?_, st.cg (fun i _ => by rw [nb _ (by omega)]) (fun v _ => by rw [nb _ (by omega)]) (nb _ (by omega)) (nb _ (by omega)) (nb _ (by omega))⟩⟩
      · rw [nb (g + 8) (by omega), w87]
        obtain ⟨c1, c2, c3⟩ := ip3 j a b
        refine ⟨c1, c2, ?_⟩
        by_cases y : j = i
        · rw [if_pos y]; omega
        · rw [if_neg y]; exact c3
      · rw [wsm_add w87 hi0, if_pos (by omega), ip4]
      · rw [hfq rest, js]
      · rw [show bc - bc0 = (i - bc0) + 1 + (bc - (i + 1)) by omega, brl_sp, show bc0 + (i - bc0) = i by omega, brl_cg (M := M) (i - bc0) (fun j a b => by rw [nb (g + 8) (by omega), w87, if_neg (by omega)]; exact ⟨rfl, rfl⟩), brl_cg (M := M) (bc - (i + 1)) (fun j a b => by rw [nb (g + 8) (by omega), w87, if_neg (by omega)]; exact ⟨rfl, rfl⟩), w87, if_pos rfl, nb (g + 8) (by omega)]
    · rw [show ((i : Int) + 1) = ((i + 1 : Nat) : Int) by omega]
      refine ih (i + 1) (by omega) (by omega) (by omega) (fun j a b => ?_)
      by_cases yj : j = i
      · rw [yj]; exact y1
      · exact hno j a (by omega)
end GBE
end
