section
/-! The class's reader of texts: settleNamed. -/
section TRI
variable {G : mG} {d z q w T A B D N C n p O P K Ab Be Cm V F c s s' L L' cnt Bn a d0 V1 F1 nw k e s9 Ab0 Be0 Cm0 Ab1 Be1 Cm1 : Nat} {M0 M M' M1 M2 : mM} {ns ns' ns1 : Nat → Int} {sf ef sf' ef' : Nat → Nat} {H : Nat → Nat} {S R : Nat → Prop}
theorem wu_tr (f : FA (fun x => x = q + 1 ∨ mcS (q + 11) Ab Be x) (fun x => x = q + 11) M M') (g : (Ab1 = Ab ∨ mZ M ≤ Ab1) ∧ (Be1 = Be ∨ mZ M ≤ Be1)) (r : mS M' + 4 * Cm = mS M + 4 * Cm1 ∧ 32 * mZ M' + Cm ≤ 32 * mZ M + Cm1) : trF M q p O P Ab Be Cm M' Ab1 Be1 Cm1 :=
  ⟨f.mono (fun x _ y => y.elim (fun u => Or.inl (Or.inl ⟨by omega, by omega⟩)) (fun u => Or.inr u)) (fun _ _ y => y), g, r⟩
/-- the places of the program's tables -/
theorem TX.tab (h : TX M z q w T A B D N C n p O P K Ab Be Cm V F ns sf ef c cnt L) : mK M p = 6 ∧ (mR M p 4 = p + 3 ∧ mR M p 5 = p + 4 ∧ mR M p 6 = p + 5 ∧ mR M p 8 = p + 6 ∧ mR M p 9 = p + 7 ∧ mR M p 10 = p + 8 ∧ mR M p 13 = p + 9 ∧ mR M p 14 = p + 10 ∧ mR M p 15 = p + 11 ∧ mR M p 16 = p + 12 ∧ mR M p 17 = p + 13 ∧ mR M p 18 = p + 14 ∧ mR M p 19 = p + 15) ∧ (mK M (p + 3) = 30 ∧ mK M (p + 4) = 30 ∧ mK M (p + 5) = 30 ∧ mK M (p + 6) = 30 ∧ mK M (p + 7) = 30 ∧ mK M (p + 8) = 30 ∧ mK M (p + 9) = 30 ∧ mK M (p + 10) = 30 ∧ mK M (p + 11) = 30 ∧ mK M (p + 12) = 30 ∧ mK M (p + 13) = 30 ∧ mK M (p + 14) = 30 ∧ mK M (p + 15) = 30) ∧ (mN M (p + 3) = 12 ∧ mN M (p + 4) = 12 ∧ mN M (p + 5) = 12 ∧ mN M (p + 6) = 60 ∧ mN M (p + 7) = 60 ∧ mN M (p + 8) = 60 ∧ mN M (p + 9) = 60 ∧ mN M (p + 10) = 60 ∧ mN M (p + 11) = 60 ∧ mN M (p + 12) = 61 ∧ mN M (p + 13) = 480 ∧ mN M (p + 14) = 480 ∧ mN M (p + 15) = 480) := ⟨h.1.1.2.2.2.2.1.1, h.1.1.2.2.2.2.1.2.2.2.2.2.2⟩
theorem s_sn_fin (h : TX M z q w T A B D N C n p O P K Ab Be Cm V F ns sf ef c cnt L) (h0 : mI M (q + 1) 3 = 0) (h60 : F < 60) (hb : 1 ≤ mI M Be 0 ∧ mI M Be 0 < 1000000000) (hn : mI M q 3 = ((nw : Nat) : Int) ∧ nw < n ∧ mI M A nw = 2) (h8 : mI M q 8 = 0 ∨ mI M q 8 = 1) (hLa : L ≤ a) (ha : mI M (q + 1) 2 = ((a : Nat) : Int)) (han : a ≤ n) (hd : mI M (q + 1) 5 = 0) (hf : trF M0 q p O P Ab0 Be0 Cm0 M Ab Be Cm) (o46 : mOk M') (fx : FI (txS q p O P) M M') (ip : ∀ i, mI M' p i = if i = 2 then ((L : Nat) : Int) else if i = 7 then (F : Int) + 1 else mI M p i) (i7 : ∀ i, mI M' (p + 7) i = if i = F then mI M Be 0 else mI M (p + 7) i) (i8 : ∀ i, mI M' (p + 8) i = if i = F then ((L : Nat) : Int) else mI M (p + 8) i) (nb : ∀ b, b ≠ p → b ≠ p + 6 → b ≠ p + 7 → b ≠ p + 8 → mI M' b = mI M b) : h_TR_settleNamed_115 G (d + 5) q 4 F M' (itE M0 z q w T A B D N C n p O P K Ab0 Be0 Cm0) := by
  have nO : mI M' O = mI M O ∧ mI M' P = mI M P ∧ (∀ i, i ≤ 10 → mI M' (q + i) = mI M (q + i)) ∧ (∀ i, 9 ≤ i → i ≤ 15 → mI M' (p + i) = mI M (p + i)) := by
    have ap := h.1.apart
    have qp := h.1.2.2.2.2.2.1.2.1
    clear h h0 hb hn h8 ha hd hf ip i7 i8 fx
    exact ⟨nb O (by omega) (by omega) (by omega) (by omega), nb P (by omega) (by omega) (by omega) (by omega), fun i hi => nb _ (by omega) (by omega) (by omega) (by omega), fun i h9 h15 => nb _ (by omega) (by omega) (by omega) (by omega)⟩
  have h46 := tx_name (l1 := 4) (e := 0) (H := fun _ => 0) (L' := L) h h0 h60 o46 fx (fun i hi => by rw [show q + 1 + i = q + (1 + i) by omega]; exact nO.2.2.1 _ (by omega)) (fun i y2 y7 => by rw [ip, if_neg y2, if_neg y7]) (by rw [ip, if_neg (by decide), if_pos rfl]; rfl) nO.2.2.2 (fun i hi => by rw [i7, if_neg (Nat.ne_of_lt hi)]) (fun i hi => by rw [i8, if_neg (Nat.ne_of_lt hi)]) (fun i _ => ⟨by rw [nO.1], by rw [nO.2.1]⟩) (Nat.le_refl _) (Or.inl ⟨rfl, by rw [i7, if_pos rfl]; exact hb⟩)
  have wA := (h.1.words fx).1
  have n0 := nO.2.2.1 0 (by omega)
  have n1 := nO.2.2.1 1 (by omega)
  rw [Nat.add_zero] at n0
  exact s_sn115 (Or.inl rfl) h46 h60 ⟨by rw [n0]; exact hn.1, hn.2.1, by rw [wA]; exact hn.2.2⟩ (by rw [n0]; exact h8) (by rw [ip, if_pos rfl]) (by rw [n1]; exact ha) han hLa (by rw [n1]; exact hd) (hf.trans (trF.fi fx))
theorem s_sn_const (h : TX M z q w T A B D N C n p O P K Ab Be Cm V F ns sf ef c cnt L) (h0 : mI M (q + 1) 3 = 0) (h60 : F < 60) (hb : 1 ≤ mI M Be 0 ∧ mI M Be 0 < 1000000000) (hn : mI M q 3 = ((nw : Nat) : Int) ∧ nw < n ∧ mI M A nw = 2) (h8 : mI M q 8 = 0 ∨ mI M q 8 = 1) (h21 : mI M (q + 21) 0 = ((L : Nat) : Int)) (hLa : L ≤ a) (ha : mI M (q + 1) 2 = ((a : Nat) : Int)) (han : a ≤ n) (hd : mI M (q + 1) 5 = 0) (hf : trF M0 q p O P Ab0 Be0 Cm0 M Ab Be Cm) : mK M q = 3 ∧ mK M (mR M q 2) = 6 ∧ i32 ((mI M (mR M q 2) 7) + 1) ∧ ∀ M16, M16 = mUI M (mR M q 2) 7 ((mI M (mR M q 2) 7) + 1) → mK M16 (mR M16 q 2) = 6 ∧ mK M16 (mR M16 q 5) = 30 ∧ ((0 : Int) ≤ 0 ∧ 0 < (mN M16 (mR M16 q 5) : Int)) ∧ mK M16 (mR M16 (mR M16 q 2) 10) = 30 ∧ ((0 : Int) ≤ mI M (mR M q 2) 7 ∧ mI M (mR M q 2) 7 < (mN M16 (mR M16 (mR M16 q 2) 10) : Int)) ∧ ∀ M23, M23 = mUI M16 (mR M16 (mR M16 q 2) 10) (Int.toNat (mI M (mR M q 2) 7)) (mI M16 (mR M16 q 5) 0) → (mK M23 (mR M23 q 2) = 6 ∧ mK M23 (mR M23 q 1) = 5 ∧ mK M23 (mR M23 (mR M23 q 1) 6) = 30 ∧ ((0 : Int) ≤ 0 ∧ 0 < (mN M23 (mR M23 (mR M23 q 1) 6) : Int)) ∧ mK M23 (mR M23 (mR M23 q 2) 8) = 30 ∧ ((0 : Int) ≤ mI M (mR M q 2) 7 ∧ mI M (mR M q 2) 7 < (mN M23 (mR M23 (mR M23 q 2) 8) : Int)) ∧ ∀ M33, M33 = mUI M23 (mR M23 (mR M23 q 2) 8) (Int.toNat (mI M (mR M q 2) 7)) (mI M23 (mR M23 (mR M23 q 1) 6) 0) → mK M33 (mR M33 q 2) = 6 ∧ mK M33 (mR M33 q 1) = 5 ∧ mK M33 (mR M33 (mR M33 q 1) 7) = 30 ∧ ((0 : Int) ≤ 0 ∧ 0 < (mN M33 (mR M33 (mR M33 q 1) 7) : Int)) ∧ mK M33 (mR M33 (mR M33 q 2) 9) = 30 ∧ ((0 : Int) ≤ mI M (mR M q 2) 7 ∧ mI M (mR M q 2) 7 < (mN M33 (mR M33 (mR M33 q 2) 9) : Int)) ∧ ∀ M41, M41 = mUI M33 (mR M33 (mR M33 q 2) 9) (Int.toNat (mI M (mR M q 2) 7)) (mI M33 (mR M33 (mR M33 q 1) 7) 0) → mK M41 (mR M41 q 5) = 30 ∧ ((0 : Int) ≤ 0 ∧ 0 < (mN M41 (mR M41 q 5) : Int)) ∧ mK M41 (mR M41 q 2) = 6 ∧ ∀ M46, M46 = mUI M41 (mR M41 q 2) 2 (mI M41 (mR M41 q 5) 0) → h_TR_settleNamed_115 G (d + 5) q 4 (mI M (mR M q 2) 7) M46 (itE M0 z q w T A B D N C n p O P K Ab0 Be0 Cm0)) := by
  obtain ⟨⟨np0, np1, np21, -⟩, ⟨nO0, nO1, -, -, nOp⟩, nP0, nP1, -, -, nPp⟩ := h.1.ne
  have ap := h.1.apart
  have qp := h.1.2.2.2.2.2.1.2.1
  have ok := h.1.1.1
  obtain ⟨t0, t1, t2, t3, t4, t5⟩ := h.1.2.1
  obtain ⟨s1, s2, s3, s4⟩ := h.1.2.2.1
  obtain ⟨k6, ⟨-, -, -, p8, p9, p10, -⟩, ⟨-, -, -, kp6, kp7, kp8, -⟩, ⟨-, -, -, np6, np7, np8, -⟩⟩ := h.tab
  obtain ⟨⟨c1, c2⟩, ⟨f7, -⟩, -⟩ := h.2.1
  obtain ⟨km, ⟨-, -, m6, m7, -⟩, ⟨-, -, kA, kB, -⟩, ⟨-, nA, nB, -⟩, -, ⟨sA, sB, sne, sz⟩, -, ⟨c64, -⟩⟩ := h.1.2.2.2.1
  have hN : n ≤ 16384 := by have := h.1.1.2.2.2.1.2.2.1; have := h.1.1.2.2.2.1.1.2.2.2.2.2.2.1; omega
  have Bp : Be ≠ p ∧ Be ≠ p + 8 ∧ Be ≠ p + 6 ∧ Be ≠ p + 7 ∧ Ab ≠ p ∧ Ab ≠ p + 8 := by
    have := ap.1
    unfold Mpr at this
    clear h hf hn
    omega
  have q21p : q + 21 ≠ p ∧ q + 21 ≠ p + 8 ∧ q + 21 ≠ p + 6 ∧ q + 21 ≠ p + 7 := by clear h hf hn; omega
  rw [t3, f7, Int.toNat_natCast]
  refine ⟨t0, k6, ⟨by omega, by omega⟩, fun M16 e16 => ?_⟩
  have f16 : FI (fun b => b = p) M M16 := by rw [e16]; exact FI.ui rfl
  rw [f16.1, f16.2.1, f16.2.2.1, t3, t4, p10, np8, s3, f16.2.2.2.2.2.2 _ q21p.1, h21]
  refine ⟨k6, s1, ⟨by omega, by omega⟩, kp8, by omega, fun M23 e23 => ?_⟩
  have f23 : FI (fun b => b = p + 8) M16 M23 := by rw [e23]; exact FI.ui rfl
  rw [f23.1, f23.2.1, f23.2.2.1, f16.1, f16.2.1, f16.2.2.1, t2, t3, p8, np6, m6, nA]
  refine ⟨k6, km, kA, ⟨by omega, by omega⟩, kp6, by omega, fun M33 e33 => ?_⟩
  have f33 : FI (fun b => b = p + 6) M23 M33 := by rw [e33]; exact FI.ui rfl
  rw [f33.1, f33.2.1, f33.2.2.1, f23.1, f23.2.1, f23.2.2.1, f16.1, f16.2.1, f16.2.2.1, t2, t3, p9, np7, m7, nB]
  refine ⟨k6, km, kB, ⟨by omega, by omega⟩, kp7, by omega, fun M41 e41 => ?_⟩
  have f41 : FI (fun b => b = p + 7) M33 M41 := by rw [e41]; exact FI.ui rfl
  have i21 : mI M41 (q + 21) 0 = ((L : Nat) : Int) := by rw [f41.2.2.2.2.2.2 _ q21p.2.2.2, f33.2.2.2.2.2.2 _ q21p.2.2.1, f23.2.2.2.2.2.2 _ q21p.2.1, f16.2.2.2.2.2.2 _ q21p.1]; exact h21
  rw [f41.1, f41.2.1, f41.2.2.1, f33.1, f33.2.1, f33.2.2.1, f23.1, f23.2.1, f23.2.2.1, f16.1, f16.2.1, f16.2.2.1, t3, t4, s3, i21]
  refine ⟨s1, ⟨by omega, by omega⟩, k6, fun M46 e46 => ?_⟩
  have f46 : FI (fun b => b = p) M41 M46 := by rw [e46]; exact FI.ui rfl
  have iB : mI M33 Be 0 = mI M Be 0 := by rw [f33.2.2.2.2.2.2 _ Bp.2.2.1, f23.2.2.2.2.2.2 _ Bp.2.1, f16.2.2.2.2.2.2 _ Bp.1]
  have ff : FI (fun b => b = p ∨ b = p + 6 ∨ b = p + 7 ∨ b = p + 8) M M46 := ((((f16.mono (fun _ y => Or.inl y)).trans (f23.mono (fun _ y => Or.inr (Or.inr (Or.inr y))))).trans (f33.mono (fun _ y => Or.inr (Or.inl y)))).trans (f41.mono (fun _ y => Or.inr (Or.inr (Or.inl y))))).trans (f46.mono (fun _ y => Or.inl y))
  have o16 : mOk M16 := by rw [e16]; exact mOk_UI ok ⟨by omega, by omega⟩
  have o23 : mOk M23 := by rw [e23]; exact mOk_UI o16 ⟨by omega, by omega⟩
  have o33 : mOk M33 := by rw [e33]; exact mOk_UI o23 (o23 _ _).1
  have o41 : mOk M41 := by rw [e41]; exact mOk_UI o33 (o33 _ _).1
  have o46 : mOk M46 := by rw [e46]; exact mOk_UI o41 ⟨by omega, by omega⟩
  have ip : ∀ i, mI M46 p i = if i = 2 then ((L : Nat) : Int) else if i = 7 then (F : Int) + 1 else mI M p i := fun i => by
    rw [mI_ui p i e46]
    by_cases y2 : i = 2
    · rw [if_pos ⟨rfl, y2⟩, if_pos y2]
    · rw [if_neg (fun u => y2 u.2), if_neg y2, f41.2.2.2.2.2.2 p (by omega), f33.2.2.2.2.2.2 p (by omega), f23.2.2.2.2.2.2 p (by omega), mI_ui p i e16]
      by_cases y7 : i = 7
      · rw [if_pos ⟨rfl, y7⟩, if_pos y7]
      · rw [if_neg (fun u => y7 u.2), if_neg y7]
  have i7 : ∀ i, mI M46 (p + 7) i = if i = F then mI M Be 0 else mI M (p + 7) i := fun i => by
    rw [f46.2.2.2.2.2.2 _ (by omega), mI_ui _ i e41, iB]
    by_cases y : i = F
    · rw [if_pos ⟨rfl, y⟩, if_pos y]
    · rw [if_neg (fun u => y u.2), if_neg y, f33.2.2.2.2.2.2 _ (by omega), f23.2.2.2.2.2.2 _ (by omega), f16.2.2.2.2.2.2 _ (by omega)]
  have i8 : ∀ i, mI M46 (p + 8) i = if i = F then ((L : Nat) : Int) else mI M (p + 8) i := fun i => by
    rw [f46.2.2.2.2.2.2 _ (by omega), f41.2.2.2.2.2.2 _ (by omega), f33.2.2.2.2.2.2 _ (by omega), mI_ui _ i e23]
    by_cases y : i = F
    · rw [if_pos ⟨rfl, y⟩, if_pos y]
    · rw [if_neg (fun u => y u.2), if_neg y, f16.2.2.2.2.2.2 _ (by omega)]
  have nb : ∀ b, b ≠ p → b ≠ p + 6 → b ≠ p + 7 → b ≠ p + 8 → mI M46 b = mI M b := fun b b1 b2 b3 b4 => ff.2.2.2.2.2.2 b (fun y => by
    have y' : b = p ∨ b = p + 6 ∨ b = p + 7 ∨ b = p + 8 := y
    omega)
  have fx : FI (txS q p O P) M M46 := ff.mono (fun b y => by
    have y' : b = p ∨ b = p + 6 ∨ b = p + 7 ∨ b = p + 8 := y
    show (q ≤ b ∧ b ≤ q + 10) ∨ b = q + 21 ∨ b = q + 22 ∨ b = p ∨ (p + 3 ≤ b ∧ b ≤ p + 15) ∨ b = O ∨ b = P
    omega)
  exact s_sn_fin h h0 h60 hb hn h8 hLa ha han hd hf o46 fx ip i7 i8 nb
end TRI
end
section
/-! The class's reader of texts: settleNamed, the whole; settleVar. -/
section TRJ
variable {G : mG} {d z q w T A B D N C n p O P K Ab Be Cm V F c s s' L L' cnt Bn a d0 V1 F1 nw k e s9 Ab0 Be0 Cm0 Ab1 Be1 Cm1 : Nat} {M0 M M' M1 M2 : mM} {ns ns' ns1 : Nat → Int} {sf ef sf' ef' : Nat → Nat} {H : Nat → Nat} {S R : Nat → Prop}
theorem s_sn_formula (h : TX M z q w T A B D N C n p O P K Ab Be Cm V F ns sf ef c cnt L) (h0 : mI M (q + 1) 3 = 0) (h60 : F < 60) (cd : Cod M O P V F ns L e H 1) (hn : mI M q 3 = ((nw : Nat) : Int) ∧ nw < n ∧ mI M A nw = 2) (h8 : mI M q 8 = 0 ∨ mI M q 8 = 1) (hp : mI M p 2 = ((e + 1 : Nat) : Int)) (hLa : e + 1 ≤ a) (ha : mI M (q + 1) 2 = ((a : Nat) : Int)) (han : a ≤ n) (hd : mI M (q + 1) 5 = 0) (e50 : M1 = mUI M p 7 ((F : Int) + 1)) (e57 : M2 = mUI M1 (p + 8) F ((L : Nat) : Int)) : h_TR_settleNamed_115 G (d + 5) q 7 F M2 (itE M z q w T A B D N C n p O P K Ab Be Cm) := by
  have f50 : FI (fun b => b = p) M M1 := by rw [e50]; exact FI.ui rfl
  have f57 : FI (fun b => b = p + 8) M1 M2 := by rw [e57]; exact FI.ui rfl
  have ff : FI (fun b => b = p ∨ b = p + 8) M M2 := (f50.mono (fun _ y => Or.inl y)).trans (f57.mono (fun _ y => Or.inr y))
  have hLe : L ≤ e := cd.2.2.2.2.2
  have hN : n ≤ 16384 := by have := h.1.1.2.2.2.1.2.2.1; have := h.1.1.2.2.2.1.1.2.2.2.2.2.2.1; omega
  have o57 : mOk M2 := by rw [e57]; exact mOk_UI (by rw [e50]; exact mOk_UI h.1.1.1 ⟨by omega, by omega⟩) ⟨by omega, by omega⟩
  have ip : ∀ i, mI M2 p i = if i = 7 then (F : Int) + 1 else mI M p i := fun i => by
    rw [f57.2.2.2.2.2.2 p (by omega), mI_ui p i e50]
    by_cases y7 : i = 7
    · rw [if_pos ⟨rfl, y7⟩, if_pos y7]
    · rw [if_neg (fun u => y7 u.2), if_neg y7]
  have i8 : ∀ i, mI M2 (p + 8) i = if i = F then ((L : Nat) : Int) else mI M (p + 8) i := fun i => by
    rw [mI_ui _ i e57]
    by_cases y : i = F
    · rw [if_pos ⟨rfl, y⟩, if_pos y]
    · rw [if_neg (fun u => y u.2), if_neg y, f50.2.2.2.2.2.2 _ (by omega)]
  have nb : ∀ b, b ≠ p → b ≠ p + 8 → mI M2 b = mI M b := fun b b1 b2 => ff.2.2.2.2.2.2 b (fun y => y.elim b1 b2)
  have fx : FI (txS q p O P) M M2 := ff.mono (fun b y => by
    have y' : b = p ∨ b = p + 8 := y
    show (q ≤ b ∧ b ≤ q + 10) ∨ b = q + 21 ∨ b = q + 22 ∨ b = p ∨ (p + 3 ≤ b ∧ b ≤ p + 15) ∨ b = O ∨ b = P
    omega)
  have nO : mI M2 O = mI M O ∧ mI M2 P = mI M P ∧ (∀ i, i ≤ 10 → mI M2 (q + i) = mI M (q + i)) ∧ (∀ i, 9 ≤ i → i ≤ 15 → mI M2 (p + i) = mI M (p + i)) := by
    have ap := h.1.apart
    have qp := h.1.2.2.2.2.2.1.2.1
    clear h h0 hn h8 ha hd ip i8 fx f50 f57 ff cd
    exact ⟨nb O (by omega) (by omega), nb P (by omega) (by omega), fun i hi => nb _ (by omega) (by omega), fun i h9 h15 => nb _ (by omega) (by omega)⟩
  have h57 := tx_name (l1 := 7) (e := e) (H := H) (L' := e + 1) h h0 h60 o57 fx (fun i hi => by rw [show q + 1 + i = q + (1 + i) by omega]; exact nO.2.2.1 _ (by omega)) (fun i y2 y7 => by rw [ip, if_neg y7]) (by rw [ip, if_pos rfl]; rfl) nO.2.2.2 (fun i hi => by rw [nb (p + 7) (by omega) (by omega)]) (fun i hi => by rw [i8, if_neg (Nat.ne_of_lt hi)]) (fun i _ => ⟨by rw [nO.1], by rw [nO.2.1]⟩) (Nat.le_succ_of_le hLe) (Or.inr ⟨rfl, by rw [i8, if_pos rfl], cd.cg (fun i _ => by rw [nO.1]) (fun i _ => by rw [nO.2.1]), Nat.lt_succ_self _⟩)
  have wA := (h.1.words fx).1
  have n0 := nO.2.2.1 0 (by omega)
  have n1 := nO.2.2.1 1 (by omega)
  rw [Nat.add_zero] at n0
  exact s_sn115 (Or.inr rfl) h57 h60 ⟨by rw [n0]; exact hn.1, hn.2.1, by rw [wA]; exact hn.2.2⟩ (by rw [n0]; exact h8) (by rw [ip, if_neg (by decide)]; exact hp) (by rw [n1]; exact ha) han hLa (by rw [n1]; exact hd) (trF.fi fx)
theorem nsc7 (ns : Nat → Int) (y : Nat) : nsc ns y ≠ 7 := by unfold nsc; split <;> decide
theorem nsc4 {ns : Nat → Int} {y : Nat} (h : nsc ns y = 4) : ns y = 4 := by
  unfold nsc at h
  split at h
  · assumption
  · exact absurd h (by decide)
theorem s_TR_settleNamed {l1 : Int} (hF : FMs G) (h4 : l1 = 4 ∨ l1 = 7) (h : TX M z q w T A B D N C n p O P K Ab Be Cm V F ns sf ef c cnt L) (y60 : 60 ≤ F → mI M (q + 1) 3 ≠ 0) (cd : Cod M O P (vco l1 V) F (nco l1 ns) L e H 1) (hp : mI M p 2 = ((e + 1 : Nat) : Int)) (ha : mI M (q + 1) 2 = ((a : Nat) : Int)) (han : a ≤ n) (hLa : e + 1 ≤ a) (hd : mI M (q + 1) 5 = 0) (hn : mI M q 3 = ((nw : Nat) : Int) ∧ nw < n ∧ mI M A nw = 2) (h8 : mI M q 8 = 0 ∨ mI M q 8 = 1) (h21 : mI M (q + 21) 0 = ((L : Nat) : Int)) : Cv G y_TR_settleNamed (d + 6) [vr q, vi l1] M (itE M z q w T A B D N C n p O P K Ab Be Cm) := by
  have hLe : L ≤ e := cd.2.2.2.2.2
  obtain ⟨t0, t1, t2, t3, t4, t5⟩ := h.1.2.1
  obtain ⟨s1, s2, s3, s4⟩ := h.1.2.2.1
  obtain ⟨k6, ⟨-, -, -, p8, p9, p10, -⟩, ⟨-, -, -, kp6, kp7, kp8, -⟩, ⟨-, -, -, np6, np7, np8, -⟩⟩ := h.tab
  have f7 := h.2.1.2.1.1
  have hN : n ≤ 16384 := by have := h.1.1.2.2.2.1.2.2.1; have := h.1.1.2.2.2.1.1.2.2.2.2.2.2.1; omega
  have q21p : q + 21 ≠ p ∧ q + 21 ≠ p + 8 := by have := h.1.2.2.2.2.2.1.2.1; omega
  refine k_TR_settleNamed h.1.1.1 (i32s (by omega) (by omega)) ?_
  refine ⟨t0, by rw [t1]; exact h.1.1.2.1.1, fun y0 => ⟨fun y4 => ?_, fun y4 => ?_⟩, fun y0 => ?_⟩
  · rw [t1] at y0
    have h60 : F < 60 := by
      by_cases u : 60 ≤ F
      · exact absurd y0 (y60 u)
      · omega
    subst y4
    have cd' : Cod M O P 0 F (nsc ns) L e H 1 := cd
    refine (s_TR_worksOut (k := 0) hF (by omega) (i32s (by omega) (by omega)) h y0 h21 cd' (fun y _ => nsc7 ns y) (fun y _ u => nsc4 u) (by omega) hp (Nat.lt_succ_self _) (by omega)).mono (fun x9 M8 k => ?_)
    obtain ⟨Ab1, Be1, Cm1, h1, fa, hab, hr, ⟨q0, q1, q21, qp, qO, qP, qA⟩, k8⟩ := k
    have tr := wu_tr (p := p) (O := O) (P := P) fa hab hr
    have i9 : i32 x9 := m_b32 (k8.imp (fun u => u) (fun u => u.1))
    have a8 : mI M8 (q + 1) 2 = ((a : Nat) : Int) := by rw [q1 2 (by decide) (by decide)]; exact ha
    have d8 : mI M8 (q + 1) 5 = 0 := by rw [q1 5 (by decide) (by decide)]; exact hd
    refine ⟨i9, h1.1.1.1, fun y => ?_, fun y => ?_⟩
    · exact ⟨Ab1, Be1, Cm1, V, F, ns, sf, ef, c, cnt, e + 1, a, h1.any (fun _ => Nat.le_succ_of_le hLe), by rw [qp]; exact hp, a8, han, hLa, d8, tr⟩
    · obtain ⟨-, u2, u3⟩ := k8.resolve_left y
      obtain ⟨v1, v2, v3, v4⟩ := s_sn_const (G := G) (d := d) h1 u2 h60 u3 ⟨by rw [q0]; exact hn.1, hn.2.1, by rw [qA]; exact hn.2.2⟩ (by rw [q0]; exact h8) (by rw [q21]; exact h21) (show L ≤ a by omega) a8 han d8 tr
      refine ⟨v1, v2, v3, fun M16 e16 => ?_⟩
      obtain ⟨w1, w2, w3, w4, w5, w6⟩ := v4 M16 e16
      exact ⟨w1, w2, w3, w4, w5, fun M23 e23 => ⟨fun _ => w6 M23 e23, fun u => absurd rfl u⟩⟩
  · have y7 : l1 = 7 := h4.resolve_left y4
    subst y7
    rw [t1] at y0
    have h60 : F < 60 := by
      by_cases u : 60 ≤ F
      · exact absurd y0 (y60 u)
      · omega
    have cd' : Cod M O P V F ns L e H 1 := cd
    rw [t3, f7, Int.toNat_natCast]
    refine ⟨k6, ⟨by omega, by omega⟩, fun M50 e50 => ?_⟩
    have f50 : FI (fun b => b = p) M M50 := by rw [e50]; exact FI.ui rfl
    rw [f50.1, f50.2.1, f50.2.2.1, t3, t4, p10, np8, s3, f50.2.2.2.2.2.2 _ q21p.1, h21]
    refine ⟨k6, s1, ⟨by omega, by omega⟩, kp8, by omega, fun M57 e57 => ⟨fun u => absurd u (by decide), fun _ => ?_⟩⟩
    exact s_sn_formula h y0 h60 cd' hn h8 hp hLa ha han hd e50 e57
  · exact ⟨Ab, Be, Cm, V, F, ns, sf, ef, c, cnt, e + 1, a, h.any (fun _ => Nat.le_succ_of_le hLe), hp, ha, han, hLa, hd, trF.refl⟩
/-- a var that is being settled -/
def svS (M0 : mM) (z q w T A B D N C n p O P K Ab0 Be0 Cm0 V F : Nat) (ns : Nat → Int) (sf ef : Nat → Nat) (c cnt L s a nw : Nat) (M : mM) : Prop := ∃ Ab Be Cm, TX M z q w T A B D N C n p O P K Ab Be Cm V F ns sf ef c cnt L ∧ trF M0 q p O P Ab0 Be0 Cm0 M Ab Be Cm ∧ vrS M q A n p L s a nw V ∧ (mI M q 8 = 0 → rvR M q O P F ns L s 0 ∧ rvR M q O P F ns L s 1) ∧ (mI M q 7 ≠ 0 → rvR M q O P F ns L s 2)
theorem svS.pl (h : svS M0 z q w T A B D N C n p O P K Ab0 Be0 Cm0 V F ns sf ef c cnt L s a nw M) : mOk M ∧ mK M q = 3 ∧ mR M q 0 = q + 1 ∧ mK M (q + 1) = 4 ∧ mR M q 1 = q + 11 ∧ mK M (q + 11) = 5 ∧ mK M (mR M (q + 11) 6) = 30 ∧ (0 : Int) < mN M (mR M (q + 11) 6) ∧ mR M q 6 = q + 22 ∧ mK M (q + 22) = 30 ∧ mN M (q + 22) = 3 := by
  obtain ⟨Ab, Be, Cm, h1, -⟩ := h
  obtain ⟨t0, t1, t2, t3, t4, t5⟩ := h1.1.2.1
  obtain ⟨s1, s2, s3, s4⟩ := h1.1.2.2.1
  have hk := h1.1.2.2.2.1
  have m6 := hk.2.1.2.2.1
  have n6 := hk.2.2.2.1.2.1
  have c6 := hk.2.2.2.2.2.2.2.1
  exact ⟨h1.1.1.1, t0, t1, h1.1.1.2.1.1, t2, hk.1, by rw [m6]; exact hk.2.2.1.2.2.1, by rw [m6, n6]; omega, t5, s2, s4⟩
theorem s_sv_note {x y : Int} (hx : i32 x) (hy : i32 y) (h : svS M0 z q w T A B D N C n p O P K Ab0 Be0 Cm0 V F ns sf ef c cnt L s a nw M) : Cv G y_RR_note d [vr (q + 1), vi x, vi y] M (fun M' => mOk M' ∧ svS M0 z q w T A B D N C n p O P K Ab0 Be0 Cm0 V F ns sf ef c cnt L s a nw M') := by
  obtain ⟨Ab, Be, Cm, h1, tr, ⟨v1, v2, v3, v4, v5, v6, v7, v8, v9, v10, v11, v12⟩, r8, r7⟩ := h
  obtain ⟨⟨np0, np1, -, -⟩, ⟨nO0, nO1, -, -, -⟩, nP0, nP1, -, -, -⟩ := h1.1.ne
  obtain ⟨q01, q10, q210, q211, -⟩ := q_ne q
  refine (s_tx_note0 hx hy h1).mono (fun M' k => ?_)
  obtain ⟨o1, h2, x2, r2, b2⟩ := k
  have e0 := b2 q q01
  have cg : ∀ {k : Nat}, rvR M q O P F ns L s k → rvR M' q O P F ns L s k := fun hr => hr.cg (by rw [b2 _ q211]) (fun i _ => ⟨by rw [b2 O nO1], by rw [b2 P nP1]⟩) (Nat.le_refl _)
  refine ⟨o1, Ab, Be, Cm, h2, tr.trans (trF.fi x2.1), ⟨by rw [b2 p np1]; exact v1, v2, v3, by rw [r2 2 (by decide) (by decide)]; exact v4, v5, by rw [r2 5 (by decide) (by decide)]; exact v6, by rw [e0]; exact v7, v8, by rw [(h1.1.words x2.1).1]; exact v9, by rw [e0]; exact v10, by rw [e0]; exact v11, fun u => x2.2.2.1 (v12 u)⟩, fun u => ?_, fun u => ?_⟩
  · rw [e0] at u
    exact ⟨cg (r8 u).1, cg (r8 u).2⟩
  · rw [e0] at u
    exact cg (r7 u)
theorem s_sv_works {l2 : Int} (hF : FMs G) (hk : k < 3) (i2 : i32 l2) (h : svS M0 z q w T A B D N C n p O P K Ab0 Be0 Cm0 V F ns sf ef c cnt L s a nw M) (h0 : mI M (q + 1) 3 = 0) (hr : rvR M q O P F ns L s k) : Ci G y_TR_worksOut (d + 5) [vr q, vi k, vi l2] M (fun x M' => i32 x ∧ mOk M' ∧ svS M0 z q w T A B D N C n p O P K Ab0 Be0 Cm0 V F ns sf ef c cnt L s a nw M' ∧ mI M' q = mI M q) := by
  obtain ⟨Ab, Be, Cm, h1, tr, ⟨v1, v2, v3, v4, v5, v6, v7, v8, v9, v10, v11, v12⟩, r8, r7⟩ := h
  obtain ⟨sr, er, Hr, u1, u2, u3, u4⟩ := hr
  refine (s_TR_worksOut hF hk i2 h1 h0 u1 u2 (fun y _ => nsc7 ns y) (fun y _ u => nsc4 u) (by omega) v1 u4 (by omega)).mono (fun x M' k => ?_)
  obtain ⟨Ab1, Be1, Cm1, h2, fa, hab, hrm, ⟨q0, q1, q21, qp, qO, qP, qA⟩, k8⟩ := k
  have i9 : i32 x := m_b32 (k8.imp (fun u => u) (fun u => u.1))
  have cg : ∀ {k : Nat}, rvR M q O P F ns L s k → rvR M' q O P F ns L s k := fun hr => hr.cg (by rw [q21]) (fun i _ => ⟨by rw [qO], by rw [qP]⟩) (Nat.le_refl _)
  have v12' : 12 ≤ V → mI M' (q + 1) 3 ≠ 0 := fun u => absurd h0 (v12 u)
  refine ⟨i9, h2.1.1.1, ⟨Ab1, Be1, Cm1, h2, tr.trans (wu_tr fa hab hrm), ⟨by rw [qp]; exact v1, v2, v3, by rw [q1 2 (by decide) (by decide)]; exact v4, v5, by rw [q1 5 (by decide) (by decide)]; exact v6, by rw [q0]; exact v7, v8, by rw [qA]; exact v9, by rw [q0]; exact v10, by rw [q0]; exact v11, v12'⟩, fun u => ?_, fun u => ?_⟩, q0⟩
  · rw [q0] at u
    exact ⟨cg (r8 u).1, cg (r8 u).2⟩
  · rw [q0] at u
    exact cg (r7 u)
end TRJ
end
