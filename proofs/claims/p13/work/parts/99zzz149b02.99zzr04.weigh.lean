/-! The class's game, exactly: the multiple and the sum of chances. -/
section GAV
variable {G : mG} {d z g p O P K V F L cnt U Ab Be C Ab0 Be0 C0 s h t c cn k u v cc n : Nat} {M0 M M' M1 M2 : mM} {ns : Nat → Int} {sf ef : Nat → Nat} {H : Nat → Nat} {S R : Nat → Prop}
theorem x_Ga_fault {x y : Int} (hx : i32 x) (hy : i32 y) (hO : mOk M) (hk : mK M g = 7) : Ci G y_Ga_fault d [vr g, vi x, vi y] M (fun r M' => r = x ∧ plQ M g M' ∧ mI M' g 10 = y) := by
  refine k_Ga_fault hO hx hy ⟨hk, fun M2 e2 => ⟨rfl, ⟨by rw [e2]; exact mOk_UI hO hy, by rw [e2]; exact FI.ui rfl, fun i hi => ?_⟩, by rw [mI_ui g 10 e2, if_pos ⟨rfl, rfl⟩]⟩⟩
  rw [mI_ui g i e2, if_neg (fun u => hi u.2)]
/-- the chances of n branches -/
def lch9 (M : mM) (g : Nat) : Nat → List (Int × Int)
  | 0 => []
  | n + 1 => lch9 M g n ++ [(mI M (g + 21) n, mI M (g + 22) n)]
theorem lch_cg : ∀ n, (∀ b, b < n → mI M' (g + 21) b = mI M (g + 21) b ∧ mI M' (g + 22) b = mI M (g + 22) b) → lch9 M' g n = lch9 M g n
  | 0, _ => rfl
  | n + 1, hh => by
    show lch9 M' g n ++ [(mI M' (g + 21) n, mI M' (g + 22) n)] = lch9 M g n ++ [(mI M (g + 21) n, mI M (g + 22) n)]
    rw [lch_cg n (fun b hb => hh b (by omega)), (hh n (by omega)).1, (hh n (by omega)).2]
theorem smq_app {m : Int} (l r : List (Int × Int)) : smq9 m (l ++ r) = smq9 m l + smq9 m r := by
  induction l with
  | nil => show smq9 m r = 0 + smq9 m r; omega
  | cons x l ih =>
    show m / x.2 * x.1 + smq9 m (l ++ r) = m / x.2 * x.1 + smq9 m l + smq9 m r
    rw [ih]
    omega
theorem shs_smq {mu : Nat} : ∀ {n : Nat}, chz M g n → 1 ≤ mu → smq9 ((mu : Nat) : Int) (lch9 M g n) = shS M g ((mu : Nat) : Int) n
  | 0, _, _ => rfl
  | n + 1, h, hm => by
    show smq9 ((mu : Nat) : Int) (lch9 M g n ++ [(mI M (g + 21) n, mI M (g + 22) n)]) = shS M g ((mu : Nat) : Int) n + Int.tdiv ((mu : Nat) : Int) (mI M (g + 22) n) * mI M (g + 21) n
    rw [smq_app, shs_smq (fun b hb => h b (by omega)) hm, Int.tdiv_eq_ediv_of_nonneg (by omega)]
    show _ + (((mu : Nat) : Int) / mI M (g + 22) n * mI M (g + 21) n + 0) = _
    omega
theorem muq_zero : ∀ (l : List (Int × Int)), muq9 l 0 = 0
  | [] => rfl
  | x :: l => by
    show (if 1000000000 ≤ (0 : Int) / (Int.gcd 0 x.2 : Int) * x.2 then 0 else muq9 l ((0 : Int) / (Int.gcd 0 x.2 : Int) * x.2)) = 0
    rw [Int.zero_ediv, Int.zero_mul, if_neg (by decide)]
    exact muq_zero l
theorem muq_app : ∀ (l r : List (Int × Int)) (m : Int), muq9 (l ++ r) m = if muq9 l m = 0 then 0 else muq9 r (muq9 l m)
  | [], r, m => by
    show muq9 r m = if m = 0 then 0 else muq9 r m
    by_cases y : m = 0
    · rw [if_pos y, y]; exact muq_zero r
    · rw [if_neg y]
  | x :: l, r, m => by
    show (if 1000000000 ≤ m / (Int.gcd m x.2 : Int) * x.2 then 0 else muq9 (l ++ r) (m / (Int.gcd m x.2 : Int) * x.2)) = if (if 1000000000 ≤ m / (Int.gcd m x.2 : Int) * x.2 then 0 else muq9 l (m / (Int.gcd m x.2 : Int) * x.2)) = 0 then 0 else muq9 r (if 1000000000 ≤ m / (Int.gcd m x.2 : Int) * x.2 then 0 else muq9 l (m / (Int.gcd m x.2 : Int) * x.2))
    by_cases y : 1000000000 ≤ m / (Int.gcd m x.2 : Int) * x.2
    · simp only [if_pos y, if_true]
    · simp only [if_neg y]
      exact muq_app l r _
theorem muq_up {i : Nat} (h : muq9 (lch9 M g i) 1 = 0) : ∀ n, i ≤ n → muq9 (lch9 M g n) 1 = 0 := by
  intro n
  induction n with
  | zero =>
    intro hn
    rw [show (0 : Nat) = i by omega]
    exact h
  | succ n ih =>
    intro hn
    by_cases y : i = n + 1
    · rw [← y]; exact h
    · show muq9 (lch9 M g n ++ [(mI M (g + 21) n, mI M (g + 22) n)]) 1 = 0
      rw [muq_app, if_pos (ih (by omega))]
/-- what the weighing of n chances comes to; pc the command's place -/
def weX (pc : Int) (g cc : Nat) (l : List (Int × Int)) (MA : mM) (r : Int) (M' : mM) : Prop := (muq9 l 1 = 0 ∧ r = 6 ∧ mI M' g 10 = pc) ∨ (muq9 l 1 ≠ 0 ∧ smq9 (muq9 l 1) l ≠ muq9 l 1 ∧ r = 11 ∧ mI M' g 10 = pc) ∨ (muq9 l 1 ≠ 0 ∧ smq9 (muq9 l 1) l = muq9 l 1 ∧ r = 0 ∧ mI M' (g + 6) cc = muq9 l 1 ∧ FI (fun x => x = g + 6) MA M')
theorem x_we232 {MA : mM} {mu : Nat} (fA : FI (fun x => x = g + 6) MA M) (hx : GX M0 z g p O P K V F ns sf ef L cnt Ab0 Be0 C0 M Ab Be C) (hw : wgF M1 g M) (hc : c < cnt) (hn : n ≤ 8) (hch : chz M g n) (hmu : 1 ≤ mu ∧ mu < 1000000000) (h6 : mI M (g + 6) cc = ((mu : Nat) : Int)) (hm9 : muq9 (lch9 M g n) 1 = ((mu : Nat) : Int)) (hdv : ∀ b, b < n → (mI M (g + 22) b) ∣ ((mu : Nat) : Int)) : ∀ (t i : Nat), n ≤ i + t → i ≤ n → 0 ≤ shS M g mu i → shS M g mu i ≤ i * 1000000000 → h_Ga_weighChances_232 G d g c n mu (shS M g mu i) i M (fun r M' => weQ M0 z g p O P K V F ns sf ef L cnt Ab0 Be0 C0 M1 n cc r M' ∧ weX (mI M (p + 10) c) g cc (lch9 M g n) MA r M') := by
  obtain ⟨h1, h2, h3, h4, h5, -⟩ := id hx
  obtain ⟨g0, ⟨-, -, -, -, -, -, -, -, -, -, -, g17, g18⟩, ⟨-, -, -, -, -, -, -, -, -, -, k21, k22⟩, ⟨-, -, -, -, -, -, -, -, -, -, n21, n22⟩⟩ := h2
  have p14 := h4.1.2.2.2.2.2.2.1.2.2.2.2.2.2.2.1
  have kp14 := h4.1.2.2.2.2.2.2.2.1.2.2.2.2.2.2.2.1
  have np14 := h4.1.2.2.2.2.2.2.2.2.2.2.2.2.2.2.2.1
  have c60 := h4.2.2.2.2.1.2
  intro t
  induction t with
  | zero =>
    intro i hi hi2 s0 s1
    have cm := (cmpz (shS M g mu i) mu).2.2.2.1
    have en : i = n := by omega
    refine k_Ga_weighChances_232 h1 (i32s (by omega) (by omega)) (i32s (by omega) (by omega)) ⟨by omega, by omega⟩ ⟨by omega, by omega⟩ (i32s (by omega) (by omega)) ⟨fun _ => ⟨fun y => ?_, fun y => ?_⟩, fun y => absurd y (by omega)⟩
    · rw [cm] at y
      rw [en] at y
      exact k_Ga_weighChances_296 h1 ⟨by decide, by decide⟩ ⟨⟨⟨by decide, by decide⟩, hw, ⟨Ab, Be, C, hx⟩, fun _ => ⟨hch, mu, h6, hmu.1, hmu.2, y, hdv⟩⟩, Or.inr (Or.inr ⟨by rw [hm9]; omega, by rw [hm9, shs_smq hch (by omega)]; exact y, rfl, by rw [hm9]; exact h6, fA⟩)⟩
    · rw [h5.1, p14, np14]
      refine ⟨g0, h4.1.1, kp14, by omega, (x_Ga_fault ⟨by decide, by decide⟩ (h1 _ _).1 h1 g0).mono (fun r M' q => ?_)⟩
      rw [q.1]
      exact ⟨⟨by decide, by decide⟩, q.2.1.1, k_Ga_weighChances_296 q.2.1.1 ⟨by decide, by decide⟩ ⟨pl_we hx hw q.2.1 ⟨by decide, by decide⟩ (by decide), Or.inr (Or.inl ⟨by rw [hm9]; omega, by rw [hm9, shs_smq hch (by omega)]; intro y9; exact y (cm.mpr (by rw [show i = n by omega]; exact y9)), rfl, by rw [q.2.2, Int.toNat_natCast]⟩)⟩⟩
  | succ t ih =>
    intro i hi hi2 s0 s1
    have cm := (cmpz (shS M g mu i) mu).2.2.2.1
    refine k_Ga_weighChances_232 h1 (i32s (by omega) (by omega)) (i32s (by omega) (by omega)) ⟨by omega, by omega⟩ ⟨by omega, by omega⟩ (i32s (by omega) (by omega)) ⟨fun yy => ⟨fun y => ?_, fun y => ?_⟩, fun y => ?_⟩
    · have en : i = n := by omega
      rw [cm] at y
      rw [en] at y
      exact k_Ga_weighChances_296 h1 ⟨by decide, by decide⟩ ⟨⟨⟨by decide, by decide⟩, hw, ⟨Ab, Be, C, hx⟩, fun _ => ⟨hch, mu, h6, hmu.1, hmu.2, y, hdv⟩⟩, Or.inr (Or.inr ⟨by rw [hm9]; omega, by rw [hm9, shs_smq hch (by omega)]; exact y, rfl, by rw [hm9]; exact h6, fA⟩)⟩
    · rw [h5.1, p14, np14]
      refine ⟨g0, h4.1.1, kp14, by omega, (x_Ga_fault ⟨by decide, by decide⟩ (h1 _ _).1 h1 g0).mono (fun r M' q => ?_)⟩
      rw [q.1]
      exact ⟨⟨by decide, by decide⟩, q.2.1.1, k_Ga_weighChances_296 q.2.1.1 ⟨by decide, by decide⟩ ⟨pl_we hx hw q.2.1 ⟨by decide, by decide⟩ (by decide), Or.inr (Or.inl ⟨by rw [hm9]; omega, by rw [hm9, shs_smq hch (by omega)]; intro y9; exact y (cm.mpr (by rw [show i = n by omega]; exact y9)), rfl, by rw [q.2.2, Int.toNat_natCast]⟩)⟩⟩
    · have inn : i < n := by omega
      obtain ⟨b1, b2, b3, b4⟩ := hch i inn
      rw [g18, g17, n22, n21, Int.toNat_natCast]
      have e : shS M g mu (i + 1) = shS M g mu i + Int.tdiv mu (mI M (g + 22) i) * mI M (g + 21) i := rfl
      have tb : 0 ≤ Int.tdiv mu (mI M (g + 22) i) * mI M (g + 21) i ∧ Int.tdiv mu (mI M (g + 22) i) * mI M (g + 21) i ≤ 1000000000 := by
        have q0 := Int.tdiv_nonneg (show (0 : Int) ≤ mu by omega) (show (0 : Int) ≤ mI M (g + 22) i by omega)
        refine ⟨Int.mul_nonneg q0 b1, ?_⟩
        have q1 := Int.mul_le_mul_of_nonneg_left b2 q0
        have q2 : Int.tdiv mu (mI M (g + 22) i) * mI M (g + 22) i ≤ mu := by
          rw [Int.tdiv_eq_ediv_of_nonneg (by omega)]
          exact Int.ediv_mul_le _ (by omega)
        omega
      refine ⟨g0, k22, by omega, by omega, k21, by omega, ?_⟩
      rw [← e, show ((i : Int) + 1) = ((i + 1 : Nat) : Int) by omega]
      exact ih (i + 1) (by omega) (by omega) (by rw [e]; omega) (by rw [e]; omega)
theorem x_we150 (hx : GX M0 z g p O P K V F ns sf ef L cnt Ab0 Be0 C0 M Ab Be C) (hw : wgF M1 g M) (hc : c < cnt) (hn : n ≤ 8) (hch : chz M g n) (hcc : mI M g 12 = ((cc : Nat) : Int)) (hcc2 : cc ≤ 4096) (hcc1 : mI M1 g 12 = ((cc : Nat) : Int)) : ∀ (t i mu : Nat), n ≤ i + t → i ≤ n → (1 ≤ mu ∧ mu < 1000000000) → muq9 (lch9 M g i) 1 = ((mu : Nat) : Int) → (∀ b, b < i → (mI M (g + 22) b) ∣ ((mu : Nat) : Int)) → h_Ga_weighChances_150 G (d + 1) g c n mu i M (fun r M' => weQ M0 z g p O P K V F ns sf ef L cnt Ab0 Be0 C0 M1 n cc r M' ∧ weX (mI M (p + 10) c) g cc (lch9 M g n) M r M') := by
  obtain ⟨h1, h2, h3, h4, h5, -⟩ := id hx
  obtain ⟨g0, ⟨-, -, -, -, -, g6, -, -, -, -, -, g17, g18⟩, ⟨-, -, -, -, -, k6, -, -, -, -, k21, k22⟩, ⟨-, -, -, -, -, n6, -, -, -, -, n21, n22⟩⟩ := h2
  have p14 := h4.1.2.2.2.2.2.2.1.2.2.2.2.2.2.2.1
  have kp14 := h4.1.2.2.2.2.2.2.2.1.2.2.2.2.2.2.2.1
  have np14 := h4.1.2.2.2.2.2.2.2.2.2.2.2.2.2.2.2.1
  have c60 := h4.2.2.2.2.1.2
  have fin : ∀ {mu : Nat}, (1 ≤ mu ∧ mu < 1000000000) → muq9 (lch9 M g n) 1 = ((mu : Nat) : Int) → (∀ b, b < n → (mI M (g + 22) b) ∣ ((mu : Nat) : Int)) → mK M g = 7 ∧ mK M (mR M g 6) = 30 ∧ ((0 : Int) ≤ mI M g 12 ∧ mI M g 12 < (mN M (mR M g 6) : Int)) ∧ i32 ((mu : Nat) : Int) ∧ ∀ M66, M66 = mUI M (mR M g 6) (Int.toNat (mI M g 12)) mu → h_Ga_weighChances_232 G (d + 1) g c n mu 0 0 M66 (fun r M' => weQ M0 z g p O P K V F ns sf ef L cnt Ab0 Be0 C0 M1 n cc r M' ∧ weX (mI M (p + 10) c) g cc (lch9 M g n) M r M') := fun {mu} hmu hm9 hd => by
    rw [g6, n6, hcc, Int.toNat_natCast]
    refine ⟨g0, k6, by omega, ⟨by omega, by omega⟩, fun M66 e66 => ?_⟩
    have f66 : FI (fun x => x = g + 6) M M66 := by rw [e66]; exact FI.ui rfl
    have nb : ∀ x, x ≠ g + 6 → mI M66 x = mI M x := fun x hx => f66.2.2.2.2.2.2 x hx
    have o66 : mOk M66 := by rw [e66]; exact mOk_UI h1 ⟨by omega, by omega⟩
    have x66 := hx.fi o66 (f66.mono (fun x y => Or.inl (by have y' : x = g + 6 := y; omega)))
    have w66 : wgF M g M66 := ⟨fun i _ => by rw [nb g (by omega)], fun i i1 i9 i6 => nb _ (by omega), nb _ (by omega), fun i hi => by rw [mI_ui _ i e66, if_neg (fun t => hi (by rw [hcc, Int.toNat_natCast]; exact t.2))], by rw [nb _ (by omega)]⟩
    have e21 := nb (g + 21) (by omega)
    have e22 := nb (g + 22) (by omega)
    have ep : mI M66 (p + 10) c = mI M (p + 10) c := by rw [nb _ (by have := hx.2.2.2.2.2.1.2.1; omega)]
    have el : lch9 M66 g n = lch9 M g n := lch_cg n (fun b _ => by rw [e21, e22]; exact ⟨rfl, rfl⟩)
    rw [← ep, ← el]
    exact x_we232 (cc := cc) (MA := M) f66 x66 (hw.trans w66) hc hn (fun b hb => by rw [e21, e22]; exact hch b hb) hmu (by rw [mI_ui _ _ e66, if_pos ⟨rfl, rfl⟩]) (by rw [el]; exact hm9) (fun b hb => by rw [e22]; exact hd b hb) n 0 (by omega) (by omega) (Int.le_refl _) (by show (0 : Int) ≤ _; omega)
  intro t
  induction t with
  | zero =>
    intro i mu hi hi2 hmu hm hd
    exact k_Ga_weighChances_150 h1 (i32s (by omega) (by omega)) (i32s (by omega) (by omega)) ⟨by omega, by omega⟩ (i32s (by omega) (by omega)) ⟨fun _ => fin hmu (by rw [show n = i by omega]; exact hm) (fun b hb => hd b (by omega)), fun y => absurd y (by omega)⟩
  | succ t ih =>
    intro i mu hi hi2 hmu hm hd
    refine k_Ga_weighChances_150 h1 (i32s (by omega) (by omega)) (i32s (by omega) (by omega)) ⟨by omega, by omega⟩ (i32s (by omega) (by omega)) ⟨fun y => fin hmu (by rw [show n = i by omega]; exact hm) (fun b hb => hd b (by omega)), fun y => ?_⟩
    have inn : i < n := by omega
    obtain ⟨b1, b2, b3, b4⟩ := hch i inn
    rw [g18, n22, Int.toNat_natCast]
    obtain ⟨bl, ebl⟩ : ∃ bl : Nat, mI M (g + 22) i = ((bl : Nat) : Int) := ⟨(mI M (g + 22) i).toNat, by omega⟩
    rw [ebl]
    refine ⟨g0, k22, by omega, (x_Ma_commonDivisor (x := (mu : Int)) (y := (bl : Int)) (by omega) (by omega) h1).mono (fun r M' q => ?_)⟩
    obtain ⟨e', ⟨w1, -⟩, ew⟩ := q
    obtain ⟨w, ewn⟩ : ∃ w : Nat, w = Nat.gcd mu bl := ⟨_, rfl⟩
    have ew : r = ((w : Nat) : Int) := by rw [ew, ewn]; rfl
    have w1 : 1 ≤ w := by omega
    obtain ⟨q1, wd1⟩ : w ∣ mu := by rw [ewn]; exact Nat.gcd_dvd_left _ _
    obtain ⟨q2, wd2⟩ : w ∣ bl := by rw [ewn]; exact Nat.gcd_dvd_right _ _
    subst e'
    have ed : Int.tdiv (mu : Int) r = ((q1 : Nat) : Int) := by
      rw [ew, Int.tdiv_eq_ediv_of_nonneg (by omega), wd1]
      rw [Int.natCast_mul]
      exact Int.mul_ediv_cancel_left _ (by omega)
    have q10 : 1 ≤ q1 := by
      by_cases u : q1 = 0
      · rw [u] at wd1; omega
      · omega
    have wm : w ≤ mu := by rw [wd1]; exact Nat.le_mul_of_pos_right _ (by omega)
    have q1m : q1 ≤ mu := by rw [wd1]; exact Nat.le_mul_of_pos_left _ (by omega)
    rw [ed, g18, n22, ebl, ← Int.natCast_mul]
    have pb : q1 * bl ≤ 1000000000 * 1000000000 := Nat.mul_le_mul (by omega) (by omega)
    have p1 : 1 ≤ q1 * bl := Nat.mul_pos (by omega) (by omega)
    have cm := (cmpz ((q1 * bl : Nat) : Int) 1000000000).2.2.1
    have nx9 : muq9 (lch9 M' g (i + 1)) 1 = if (1000000000 : Int) ≤ ((q1 * bl : Nat) : Int) then 0 else ((q1 * bl : Nat) : Int) := by
      show muq9 (lch9 M' g i ++ [(mI M' (g + 21) i, mI M' (g + 22) i)]) 1 = _
      rw [muq_app, hm, if_neg (by omega), ebl]
      show (if (1000000000 : Int) ≤ (mu : Int) / (Int.gcd (mu : Int) (bl : Int) : Int) * (bl : Int) then 0 else (mu : Int) / (Int.gcd (mu : Int) (bl : Int) : Int) * (bl : Int)) = _
      have e3 : (mu : Int) / (Int.gcd (mu : Int) (bl : Int) : Int) * (bl : Int) = ((q1 * bl : Nat) : Int) := by
        have e4 : (Int.gcd (mu : Int) (bl : Int) : Int) = ((w : Nat) : Int) := by rw [ewn]; rfl
        rw [e4, Int.natCast_mul, ← ed, ew, Int.tdiv_eq_ediv_of_nonneg (by omega)]
      rw [e3]
    refine ⟨by rw [ew]; exact ⟨by omega, by omega⟩, h1, by omega, g0, k22, by omega, ⟨by omega, by omega⟩, fun y1 => ?_, fun y1 => ?_⟩
    · rw [cm] at y1
      rw [show ((i : Int) + 1) = ((i + 1 : Nat) : Int) by omega]
      refine ih (i + 1) (q1 * bl) (by omega) (by omega) ⟨p1, by omega⟩ (by rw [nx9, if_neg (by omega)]) (fun b hb => ?_)
      by_cases yb : b = i
      · rw [yb, ebl, Int.natCast_mul]
        exact Int.dvd_mul_left _ _
      · have e2 : ((q1 * bl : Nat) : Int) = (mu : Int) * (q2 : Int) := by
          rw [wd1, wd2, ← Int.natCast_mul]
          congr 1
          rw [Nat.mul_left_comm, Nat.mul_assoc]
        rw [e2]
        exact Int.dvd_trans (hd b (by omega)) (Int.dvd_mul_right _ _)
    · rw [h5.1, p14, np14]
      refine ⟨h4.1.1, kp14, by omega, (x_Ga_fault ⟨by decide, by decide⟩ (h1 _ _).1 h1 g0).mono (fun r2 M2 q => ?_)⟩
      rw [q.1]
      rw [cm] at y1
      exact ⟨⟨by decide, by decide⟩, q.2.1.1, pl_we hx hw q.2.1 ⟨by decide, by decide⟩ (by decide), Or.inl ⟨muq_up (by rw [nx9, if_pos (by omega)]) n (by omega), rfl, by rw [q.2.2, Int.toNat_natCast]⟩⟩
end GAV
