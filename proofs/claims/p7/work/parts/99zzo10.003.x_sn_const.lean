section
variable {G : mG} {d z q w T A B D N C n p O P K Ab Be Cm V F c s s' L L' cnt Bn a d0 V1 F1 nw k e s9 Ab0 Be0 Cm0 Ab1 Be1 Cm1 : Nat} {M0 M M' M1 M2 : mM} {ns ns' ns1 : Nat → Int} {sf ef sf' ef' : Nat → Nat} {H : Nat → Nat} {S R : Nat → Prop} {W pl nq E : Nat → Int} {Cf : Nat → Int × Int} {sm : Nat → Nat → Prop} {nms : List nm9} {ft : Int × Int} {e9 : nm9} {v : vrs}
theorem x_sn_const {Q : mM → Prop} (hrc : rcn nms = F) (hQ : ∀ M9, itE M0 z q w T A B D N C n p O P K Ab0 Be0 Cm0 M9 ∧ snY M q p F nms (nw, 1, mI M q 8, v) M9 ∧ snD p O P F M M9 ∧ (mI M9 (p + 6) F = v.2.1 ∧ mI M9 (p + 7) F = v.2.2) ∧ mI M9 p 2 = ((L : Nat) : Int) → Q M9) (h : TX M z q w T A B D N C n p O P K Ab Be Cm V F ns sf ef c cnt L) (h0 : mI M (q + 1) 3 = 0) (h60 : F < 60) (hb : 1 ≤ mI M Be 0 ∧ mI M Be 0 < 1000000000) (hn : mI M q 3 = ((nw : Nat) : Int) ∧ nw < n ∧ mI M A nw = 2) (h8 : mI M q 8 = 0 ∨ mI M q 8 = 1) (h21 : mI M (q + 21) 0 = ((L : Nat) : Int)) (hLa : L ≤ a) (ha : mI M (q + 1) 2 = ((a : Nat) : Int)) (han : a ≤ n) (hd : mI M (q + 1) 5 = 0) (hf : trF M0 q p O P Ab0 Be0 Cm0 M Ab Be Cm) (ct : CT M (q + 1) p nms) (hl : nms.length = c) (hc72 : c < 72) (hv : v.1 = 0 ∧ mI M Ab 0 = v.2.1 ∧ mI M Be 0 = v.2.2) (gv : vgd (mI M q 8) v) : mK M q = 3 ∧ mK M (mR M q 2) = 6 ∧ i32 ((mI M (mR M q 2) 7) + 1) ∧ ∀ M16, M16 = mUI M (mR M q 2) 7 ((mI M (mR M q 2) 7) + 1) → mK M16 (mR M16 q 2) = 6 ∧ mK M16 (mR M16 q 5) = 30 ∧ ((0 : Int) ≤ 0 ∧ 0 < (mN M16 (mR M16 q 5) : Int)) ∧ mK M16 (mR M16 (mR M16 q 2) 10) = 30 ∧ ((0 : Int) ≤ mI M (mR M q 2) 7 ∧ mI M (mR M q 2) 7 < (mN M16 (mR M16 (mR M16 q 2) 10) : Int)) ∧ ∀ M23, M23 = mUI M16 (mR M16 (mR M16 q 2) 10) (Int.toNat (mI M (mR M q 2) 7)) (mI M16 (mR M16 q 5) 0) → (mK M23 (mR M23 q 2) = 6 ∧ mK M23 (mR M23 q 1) = 5 ∧ mK M23 (mR M23 (mR M23 q 1) 6) = 30 ∧ ((0 : Int) ≤ 0 ∧ 0 < (mN M23 (mR M23 (mR M23 q 1) 6) : Int)) ∧ mK M23 (mR M23 (mR M23 q 2) 8) = 30 ∧ ((0 : Int) ≤ mI M (mR M q 2) 7 ∧ mI M (mR M q 2) 7 < (mN M23 (mR M23 (mR M23 q 2) 8) : Int)) ∧ ∀ M33, M33 = mUI M23 (mR M23 (mR M23 q 2) 8) (Int.toNat (mI M (mR M q 2) 7)) (mI M23 (mR M23 (mR M23 q 1) 6) 0) → mK M33 (mR M33 q 2) = 6 ∧ mK M33 (mR M33 q 1) = 5 ∧ mK M33 (mR M33 (mR M33 q 1) 7) = 30 ∧ ((0 : Int) ≤ 0 ∧ 0 < (mN M33 (mR M33 (mR M33 q 1) 7) : Int)) ∧ mK M33 (mR M33 (mR M33 q 2) 9) = 30 ∧ ((0 : Int) ≤ mI M (mR M q 2) 7 ∧ mI M (mR M q 2) 7 < (mN M33 (mR M33 (mR M33 q 2) 9) : Int)) ∧ ∀ M41, M41 = mUI M33 (mR M33 (mR M33 q 2) 9) (Int.toNat (mI M (mR M q 2) 7)) (mI M33 (mR M33 (mR M33 q 1) 7) 0) → mK M41 (mR M41 q 5) = 30 ∧ ((0 : Int) ≤ 0 ∧ 0 < (mN M41 (mR M41 q 5) : Int)) ∧ mK M41 (mR M41 q 2) = 6 ∧ ∀ M46, M46 = mUI M41 (mR M41 q 2) 2 (mI M41 (mR M41 q 5) 0) → h_TR_settleNamed_115 G (d + 5) q 4 (mI M (mR M q 2) 7) M46 Q) := by
  obtain ⟨⟨np0, np1, np21, -⟩, ⟨nO0, nO1, -, -, nOp⟩, nP0, nP1, -, -, nPp⟩ := h.1.ne
  have ap := h.1.apart
  have qp := h.1.2.2.2.2.2.1.2.1
  have ok := h.1.1.1
  obtain ⟨t0, t1, t2, t3, t4, t5⟩ := h.1.2.1
  obtain ⟨s1, s2, s3, s4⟩ := h.1.2.2.1
  obtain ⟨k6, ⟨-, -, -, p8, p9, p10, -⟩, ⟨-, -, -, kp6, kp7, kp8, -⟩, ⟨-, -, -, np6, np7, np8, -⟩⟩ := h.tab
  obtain ⟨⟨c1, c2⟩, ⟨f7, -⟩, -⟩ := h.2.1
  obtain ⟨km, ⟨-, -, m6, m7, -⟩, ⟨-, -, kA, kB, -⟩, ⟨-, nA, nB, -⟩, -, ⟨sA, sB, sne, sz⟩, -, ⟨c64, -⟩⟩ := h.1.2.2.2.1
  have hN : n ≤ 16384 := by have := h.1.1.2.2.2.1.2.2.1; have := h.1.1.2.2.2.1.1.2.2.2.2.2.2.1; omega
  have Bp : Be ≠ p ∧ Be ≠ p + 8 ∧ Be ≠ p + 6 ∧ Be ≠ p + 7 ∧ Ab ≠ p ∧ Ab ≠ p + 8 := by
    have := ap.1
    unfold Mpr at this
    exact bp9 this.1 this.2.2.2.1 this.2.2.2.2.1 this.2.2.2.2.2
  have q21p : q + 21 ≠ p ∧ q + 21 ≠ p + 8 ∧ q + 21 ≠ p + 6 ∧ q + 21 ≠ p + 7 := q21z qp
  rw [t3, f7, Int.toNat_natCast]
  refine ⟨t0, k6, ⟨by omega, by omega⟩, fun M16 e16 => ?_⟩
  have f16 : FI (fun b => b = p) M M16 := by rw [e16]; exact FI.ui rfl
  rw [f16.1, f16.2.1, f16.2.2.1, t3, t4, p10, np8, s3, f16.2.2.2.2.2.2 _ q21p.1, h21]
  refine ⟨k6, s1, ⟨by omega, by omega⟩, kp8, by omega, fun M23 e23 => ?_⟩
  have f23 : FI (fun b => b = p + 8) M16 M23 := by rw [e23]; exact FI.ui rfl
  rw [f23.1, f23.2.1, f23.2.2.1, f16.1, f16.2.1, f16.2.2.1, t2, t3, p8, np6, m6, nA]
  refine ⟨k6, km, kA, ⟨by omega, by omega⟩, kp6, by omega, fun M33 e33 => ?_⟩
  have f33 : FI (fun b => b = p + 6) M23 M33 := by rw [e33]; exact FI.ui rfl
  rw [f33.1, f33.2.1, f33.2.2.1, f23.1, f23.2.1, f23.2.2.1, f16.1, f16.2.1, f16.2.2.1, t2, t3, p9, np7, m7, nB]
  refine ⟨k6, km, kB, ⟨by omega, by omega⟩, kp7, by omega, fun M41 e41 => ?_⟩
  have f41 : FI (fun b => b = p + 7) M33 M41 := by rw [e41]; exact FI.ui rfl
  have i21 : mI M41 (q + 21) 0 = ((L : Nat) : Int) := by rw [f41.2.2.2.2.2.2 _ q21p.2.2.2, f33.2.2.2.2.2.2 _ q21p.2.2.1, f23.2.2.2.2.2.2 _ q21p.2.1, f16.2.2.2.2.2.2 _ q21p.1]; exact h21
  rw [f41.1, f41.2.1, f41.2.2.1, f33.1, f33.2.1, f33.2.2.1, f23.1, f23.2.1, f23.2.2.1, f16.1, f16.2.1, f16.2.2.1, t3, t4, s3, i21]
  refine ⟨s1, ⟨by omega, by omega⟩, k6, fun M46 e46 => ?_⟩
  have f46 : FI (fun b => b = p) M41 M46 := by rw [e46]; exact FI.ui rfl
  have iB : mI M33 Be 0 = mI M Be 0 := by rw [f33.2.2.2.2.2.2 _ Bp.2.2.1, f23.2.2.2.2.2.2 _ Bp.2.1, f16.2.2.2.2.2.2 _ Bp.1]
  have ff : FI (fun b => b = p ∨ b = p + 6 ∨ b = p + 7 ∨ b = p + 8) M M46 := ((((f16.mono (fun _ y => Or.inl y)).trans (f23.mono (fun _ y => Or.inr (Or.inr (Or.inr y))))).trans (f33.mono (fun _ y => Or.inr (Or.inl y)))).trans (f41.mono (fun _ y => Or.inr (Or.inr (Or.inl y))))).trans (f46.mono (fun _ y => Or.inl y))
  have o16 : mOk M16 := by rw [e16]; exact mOk_UI ok ⟨by omega, by omega⟩
  have o23 : mOk M23 := by rw [e23]; exact mOk_UI o16 ⟨by omega, by omega⟩
  have o33 : mOk M33 := by rw [e33]; exact mOk_UI o23 (o23 _ _).1
  have o41 : mOk M41 := by rw [e41]; exact mOk_UI o33 (o33 _ _).1
  have o46 : mOk M46 := by rw [e46]; exact mOk_UI o41 ⟨by omega, by omega⟩
  have ip : ∀ i, mI M46 p i = if i = 2 then ((L : Nat) : Int) else if i = 7 then (F : Int) + 1 else mI M p i := fun i => by
    rw [mI_ui p i e46]
    by_cases y2 : i = 2
    · rw [if_pos ⟨rfl, y2⟩, if_pos y2]
    · rw [if_neg (fun u => y2 u.2), if_neg y2, f41.2.2.2.2.2.2 p (by omega), f33.2.2.2.2.2.2 p (by omega), f23.2.2.2.2.2.2 p (by omega), mI_ui p i e16]
      by_cases y7 : i = 7
      · rw [if_pos ⟨rfl, y7⟩, if_pos y7]
      · rw [if_neg (fun u => y7 u.2), if_neg y7]
  have i7 : ∀ i, mI M46 (p + 7) i = if i = F then mI M Be 0 else mI M (p + 7) i := fun i => by
    rw [f46.2.2.2.2.2.2 _ (by omega), mI_ui _ i e41, iB]
    by_cases y : i = F
    · rw [if_pos ⟨rfl, y⟩, if_pos y]
    · rw [if_neg (fun u => y u.2), if_neg y, f33.2.2.2.2.2.2 _ (by omega), f23.2.2.2.2.2.2 _ (by omega), f16.2.2.2.2.2.2 _ (by omega)]
  have i8 : ∀ i, mI M46 (p + 8) i = if i = F then ((L : Nat) : Int) else mI M (p + 8) i := fun i => by
    rw [f46.2.2.2.2.2.2 _ (by omega), f41.2.2.2.2.2.2 _ (by omega), f33.2.2.2.2.2.2 _ (by omega), mI_ui _ i e23]
    by_cases y : i = F
    · rw [if_pos ⟨rfl, y⟩, if_pos y]
    · rw [if_neg (fun u => y u.2), if_neg y, f16.2.2.2.2.2.2 _ (by omega)]
  have iA : mI M23 Ab 0 = mI M Ab 0 := by rw [f23.2.2.2.2.2.2 _ Bp.2.2.2.2.2, f16.2.2.2.2.2.2 _ Bp.2.2.2.2.1]
  have i6 : ∀ i, mI M46 (p + 6) i = if i = F then mI M Ab 0 else mI M (p + 6) i := fun i => by
    rw [f46.2.2.2.2.2.2 _ (by omega), f41.2.2.2.2.2.2 _ (by omega), mI_ui _ i e33, iA]
    by_cases y : i = F
    · rw [if_pos ⟨rfl, y⟩, if_pos y]
    · rw [if_neg (fun u => y u.2), if_neg y, f23.2.2.2.2.2.2 _ (by omega), f16.2.2.2.2.2.2 _ (by omega)]
  have nb : ∀ b, b ≠ p → b ≠ p + 6 → b ≠ p + 7 → b ≠ p + 8 → mI M46 b = mI M b := fun b b1 b2 b3 b4 => ff.2.2.2.2.2.2 b (fun y => by
    have y' : b = p ∨ b = p + 6 ∨ b = p + 7 ∨ b = p + 8 := y
    exact y'.elim b1 (fun y => y.elim b2 (fun y => y.elim b3 b4)))
  have fx : FI (txS q p O P) M M46 := ff.mono (fun b y => by
    have y' : b = p ∨ b = p + 6 ∨ b = p + 7 ∨ b = p + 8 := y
    exact y4z y')
  exact sn_mono (x_sn_fin h h0 h60 hb hn h8 hLa ha han hd hf o46 fx ip i7 i8 nb i6 ct hl hc72 hv gv hrc) hQ
end
