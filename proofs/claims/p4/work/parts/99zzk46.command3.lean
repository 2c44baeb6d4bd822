/-! The class's reader of texts: readCommand. -/
section TRQ
variable {G : mG} {d z q w T A B D N C n p O P K Ab Be Cm V F c s s' L L' cnt Bn a d0 V1 F1 nw k e s9 S0 wd ix nbr u v i Ab0 Be0 Cm0 Ab1 Be1 Cm1 : Nat} {M0 M M' M1 M2 : mM} {ns ns' ns1 : Nat → Int} {sf ef sf' ef' : Nat → Nat} {H H1 : Nat → Nat} {S R : Nat → Prop}
/-- the guard has been read: the command begins -/
theorem s_rc_guard (f1 : FI (txS q p O P) M0 M) (h : TX M z q w T A B D N C n p O P K Ab Be Cm V F ns sf ef c cnt L) (hix : ix ≤ 59) (hi : mI M (q + 1) 3 = 0 → ix = cnt ∧ cnt < 60) (cd : Cod M O P V F ns L e H 1) (h21 : mI M (q + 21) 0 = ((L : Nat) : Int)) (hp : mI M p 2 = ((e + 1 : Nat) : Int)) (ha : mI M (q + 1) 2 = ((a : Nat) : Int)) (han : a ≤ n) (hea : e + 1 ≤ a) (hd : mI M (q + 1) 5 = 0) (h6 : mI M (q + 1) 6 = 0) : mK M q = 3 ∧ mK M (mR M q 2) = 6 ∧ mK M (mR M q 5) = 30 ∧ ((0 : Int) ≤ 0 ∧ 0 < (mN M (mR M q 5) : Int)) ∧ mK M (mR M (mR M q 2) 15) = 30 ∧ ((0 : Int) ≤ ix ∧ (ix : Int) < (mN M (mR M (mR M q 2) 15) : Int)) ∧ ∀ M59, M59 = mUI M (mR M (mR M q 2) 15) (Int.toNat ix) (mI M (mR M q 5) 0) → mK M59 (mR M59 q 2) = 6 ∧ mK M59 (mR M59 (mR M59 q 2) 16) = 30 ∧ ((0 : Int) ≤ ix ∧ (ix : Int) < (mN M59 (mR M59 (mR M59 q 2) 16) : Int)) ∧ ((0 : Int) ≤ (ix : Int) + 1 ∧ (ix : Int) + 1 < (mN M59 (mR M59 (mR M59 q 2) 16) : Int)) ∧ ∀ M65, M65 = mUI M59 (mR M59 (mR M59 q 2) 16) (Int.toNat ((ix : Int) + 1)) (mI M59 (mR M59 (mR M59 q 2) 16) (Int.toNat ix)) → h_TR_readCommand_160 G (d + 6) q ix 1 0 M65 (cmQ9 M0 z q w T A B D N C n p O P K Ab Be Cm V F ns sf ef c) := by
  have ap := h.1.apart
  have qp := h.1.2.2.2.2.2.1.2.1
  have ne1 : q + 1 ≠ p + 11 ∧ q + 1 ≠ p + 12 ∧ O ≠ p + 11 ∧ O ≠ p + 12 ∧ P ≠ p + 11 ∧ P ≠ p + 12 ∧ p ≠ p + 11 ∧ p ≠ p + 12 := by omega
  clear ap qp
  have hLe : L ≤ e := cd.2.2.2.2.2
  have hN : n ≤ 16384 := by have := h.1.1.2.2.2.1.2.2.1; have := h.1.1.2.2.2.1.1.2.2.2.2.2.2.1; omega
  obtain ⟨t0, t1, t2, t3, t4, t5⟩ := h.1.2.1
  obtain ⟨s1, s2, s3, s4⟩ := h.1.2.2.1
  obtain ⟨k6, ⟨-, -, -, -, -, -, -, -, p15, p16, -⟩, ⟨-, -, -, -, -, -, -, -, kp11, kp12, -⟩, ⟨-, -, -, -, -, -, -, -, np11, np12, -⟩⟩ := h.tab
  rw [t3, t4, s3, p15, np11, h21, Int.toNat_natCast]
  refine ⟨t0, k6, s1, ⟨by omega, by omega⟩, kp11, by omega, fun M59 e59 => ?_⟩
  obtain ⟨h59, f59, n59, i59⟩ := h.up (b := 11) ⟨by omega, by omega⟩ e59 ⟨by omega, by omega⟩ (fun _ y => by have := hi y; omega) (fun y => absurd y (by omega))
  obtain ⟨-, ⟨-, -, -, -, -, -, -, -, -, p16', -⟩, ⟨-, -, -, -, -, -, -, -, -, kp12', -⟩, ⟨-, -, -, -, -, -, -, -, -, np12', -⟩⟩ := h59.tab
  rw [h59.1.2.1.2.2.2.1, p16', np12', show Int.toNat ((ix : Int) + 1) = ix + 1 by omega, n59 (p + 12) (by omega)]
  refine ⟨h59.1.1.2.2.2.2.1.1, kp12', by omega, by omega, fun M65 e65 => ?_⟩
  have z59 : mI M59 (q + 1) 3 = mI M (q + 1) 3 := by rw [n59 _ ne1.1]
  obtain ⟨h65, f65, n65, i65⟩ := h59.up (b := 12) (h.1.1.1 _ _).1 e65 ⟨by omega, by omega⟩ (fun y => absurd y (by omega)) (fun _ y => by rw [z59] at y; have := hi y; omega)
  have r65 : mI M65 (q + 1) = mI M (q + 1) := by rw [n65 _ ne1.2.1, n59 _ ne1.1]
  have O65 : mI M65 O = mI M O := by rw [n65 _ ne1.2.2.2.1, n59 _ ne1.2.2.1]
  have P65 : mI M65 P = mI M P := by rw [n65 _ ne1.2.2.2.2.2.1, n59 _ ne1.2.2.2.2.1]
  have q65 : mI M65 p = mI M p := by rw [n65 _ ne1.2.2.2.2.2.2.2, n59 _ ne1.2.2.2.2.2.2.1]
  have cy : CY M65 q p O P V F ns sf ef (e + 1) cnt ix 0 := fun y => by
    obtain ⟨u, eu, gu⟩ := h65.2.2.2 y
    rw [r65] at y
    obtain ⟨y1, y2⟩ := hi y
    refine ⟨y1, y2, u, u, eu, ?_, by omega, by omega, gu.longer (Nat.le_succ_of_le hLe), L, ?_, e, H, F, cd.cg (fun i _ => by rw [O65]) (fun i _ => by rw [P65]), Nat.lt_succ_self _, Nat.le_refl _, fun y hy h7 => ((gu.1 y hy).2 h7).2.2.1⟩
    · rw [← y1, i65, if_pos rfl]
      rw [← y1, i65, if_neg (by omega), n59 (p + 12) (by omega)] at eu
      exact eu
    · rw [n65 (p + 11) (by omega), i59, if_pos y1.symm]
  exact s_rc160 (n + 1) 0 M65 1 (e + 1) 0 a (by omega) (by omega) (i32s (by omega) (by omega)) ⟨(f1.trans f59).trans f65, h65.any (fun _ => Nat.le_succ_of_le hLe), cy, by rw [r65]; exact ha, han, by rw [q65]; exact hp, by rw [r65]; exact hd, by rw [r65]; exact h6, hix⟩ (fun _ => hea) (by omega) (fun _ => by omega)
theorem s_rc27 {l1 : Int} (f1 : FI (txS q p O P) M0 M) (i1 : i32 l1) (h : TX M z q w T A B D N C n p O P K Ab Be Cm V F ns sf ef c cnt L) (h60 : cnt = 60 → mI M (q + 1) 3 ≠ 0) (ha : mI M (q + 1) 2 = ((a : Nat) : Int)) (han : a < n) (hs : mI M p 2 = ((L : Nat) : Int)) (hsa : L ≤ a) (hd : mI M (q + 1) 5 = 0) : h_TR_readCommand_27 G (d + 6) q l1 M (cmQ9 M0 z q w T A B D N C n p O P K Ab Be Cm V F ns sf ef c) := by
  have ap := h.1.apart
  have qp := h.1.2.2.2.2.2.1.2.1
  have ne1 : q + 1 ≠ p + 9 ∧ q + 1 ≠ p + 10 ∧ p ≠ p + 9 ∧ p ≠ p + 10 ∧ p ≠ q + 1 ∧ q + 21 ≠ q + 1 := by omega
  clear ap qp
  have hN : n ≤ 16384 := by have := h.1.1.2.2.2.1.2.2.1; have := h.1.1.2.2.2.1.1.2.2.2.2.2.2.1; omega
  obtain ⟨t0, t1, t2, t3, t4, t5⟩ := h.1.2.1
  have c12 := h.2.2.1.1
  have c60 := h.2.2.1.2
  obtain ⟨k6, ⟨-, -, -, -, -, -, p13, p14, -⟩, ⟨-, -, -, -, -, -, kp9, kp10, -⟩, ⟨-, -, -, -, -, -, np9, np10, -⟩⟩ := h.tab
  obtain ⟨ix, eix, hix, hcx⟩ : ∃ ix : Nat, (if (59 : Int) < (cnt : Int) then (59 : Int) else (cnt : Int)) = ix ∧ ix ≤ 59 ∧ (cnt < 60 → ix = cnt) := by
    by_cases y : (59 : Int) < cnt
    · exact ⟨59, by rw [if_pos y]; rfl, by omega, by omega⟩
    · exact ⟨cnt, by rw [if_neg y], by omega, fun _ => rfl⟩
  refine k_TR_readCommand_27 h.1.1.1 i1 ?_
  rw [t3, c12, p13, np9, eix, Int.toNat_natCast]
  refine ⟨t0, k6, fun v16 e16 => ⟨kp9, by omega, fun M22 e22 => ?_⟩⟩
  have i16 : i32 v16 := by rw [e16]; split <;> exact i32s (by omega) (by omega)
  obtain ⟨h22, f22, n22, -⟩ := h.up (b := 9) i16 e22 ⟨by omega, by omega⟩ (fun y => absurd y (by omega)) (fun y => absurd y (by omega))
  have r22 := n22 (q + 1) ne1.1
  have a22 : mI M22 (q + 1) 2 = ((a : Nat) : Int) := by rw [r22]; exact ha
  obtain ⟨-, ⟨-, -, -, -, -, -, -, p14', -⟩, ⟨-, -, -, -, -, -, -, kp10', -⟩, ⟨-, -, -, -, -, -, -, np10', -⟩⟩ := h22.tab
  rw [h22.1.2.1.2.1, h22.1.2.1.2.2.2.1, p14']
  refine ⟨h22.1.1.2.2.2.2.1.1, h22.1.1.2.1.1, (s_RR_here h22.1.1 a22 (by omega)).mono (fun x27 M26 k => ?_)⟩
  obtain ⟨e26, -, x0, x1⟩ := k
  subst e26
  rw [np10']
  refine ⟨i32s (by omega) (by omega), h22.1.1.1, kp10', by omega, fun M31 e31 => ?_⟩
  obtain ⟨h31, f31, n31, -⟩ := h22.up (b := 10) (i32s (by omega) (by omega)) e31 ⟨by omega, by omega⟩ (fun y => absurd y (by omega)) (fun y => absurd y (by omega))
  have r31 : mI M31 (q + 1) = mI M (q + 1) := by rw [n31 (q + 1) ne1.2.1, r22]
  have p31 : mI M31 p = mI M p := by rw [n31 p ne1.2.2.2.1, n22 p ne1.2.2.1]
  rw [h31.1.2.1.2.1, r31, ha]
  refine ⟨h31.1.2.1.1, h31.1.1.2.1.1, ⟨by omega, by omega⟩, fun M36 e36 => ?_⟩
  obtain ⟨h36, x36, g36⟩ := tx_ui h31 ⟨by omega, by omega⟩ e36 (Or.inr (Or.inr (Or.inr (Or.inl ⟨rfl, Or.inl rfl⟩))))
  rw [h36.1.2.1.2.1]
  refine ⟨h36.1.1.2.1.1, fun M39 e39 => ?_⟩
  obtain ⟨h39, x39, g39⟩ := tx_ui h36 (i32s (by omega) (by omega)) e39 (Or.inr (Or.inr (Or.inr (Or.inl ⟨rfl, Or.inr (Or.inr rfl)⟩))))
  have a39 : mI M39 (q + 1) 2 = ((a + 1 : Nat) : Int) := by rw [g39, if_neg (fun u => absurd u.2 (by decide)), g36, if_pos ⟨rfl, rfl⟩]; rfl
  have d39 : mI M39 (q + 1) 5 = ((0 : Nat) : Int) := by rw [g39, if_neg (fun u => absurd u.2 (by decide)), g36, if_neg (fun u => absurd u.2 (by decide)), r31]; exact hd
  have c39 : mI M39 (q + 1) 6 = 0 := by rw [g39, if_pos ⟨rfl, rfl⟩]
  have z39 : mI M39 (q + 1) 3 = mI M (q + 1) 3 := by rw [g39, if_neg (fun u => absurd u.2 (by decide)), g36, if_neg (fun u => absurd u.2 (by decide)), r31]
  have p39 : mI M39 p 2 = ((L : Nat) : Int) := by rw [g39, if_neg (fun u => ne1.2.2.2.2.1 u.1), g36, if_neg (fun u => ne1.2.2.2.2.1 u.1), p31]; exact hs
  have f39 : FI (txS q p O P) M0 M39 := (((f1.trans f22).trans f31).trans x36.1).trans x39.1
  clear f22 n22 f31 n31 x36 g36 x39 g39 r22 r31 a22 p31 h22 h31 h36
  refine (s_TR_readItemRule (k := 0) (d0 := 0) (by omega) (i32s (by omega) (by omega)) h39 a39 (by omega) p39 (Nat.le_refl _) (by omega) d39 (by omega) h39.2.1.2.2.1.nk).mono (fun x42 M41 k => ?_)
  obtain ⟨h41, x41, ⟨c41, q41, t41⟩, k41⟩ := k
  have i42 : i32 x42 := m_b32 (k41.imp (fun u => u.1) (fun u => u.1))
  refine ⟨i42, h41.1.1.1, fun y => ?_, fun y => ?_⟩
  · obtain ⟨-, u⟩ := k41.resolve_right (fun u => by rw [y] at u; exact absurd u.1 (by decide))
    exact ⟨f39.trans x41.1, Or.inl ⟨rfl, L, cnt, h41, u⟩⟩
  obtain ⟨-, e, H, a', cd, p41, a41, aa, an, ea, d41⟩ := k41.resolve_left (fun u => y u.1)
  clear k41
  rw [h41.1.2.1.2.1]
  refine ⟨h41.1.2.1.1, h41.1.1.2.1.1, (s_tx_accept (x := 18) (i32s (by omega) (by omega)) (by omega) h41 a41 an).mono (fun x49 M48 k => ?_)⟩
  obtain ⟨i49, o48, -, h48, x48, k48, r48, b48⟩ := k
  refine ⟨i49, o48, fun y => ?_, fun y => ?_⟩
  · rw [(k48.resolve_left (fun u => by rw [y] at u; exact absurd u.1 (by decide))).2]
    exact ⟨f39.trans x41.1, Or.inl ⟨rfl, L, cnt, h41, a', a41, an⟩⟩
  obtain ⟨-, -, a48, an48⟩ := k48.resolve_right (fun u => y u.1)
  obtain ⟨-, ⟨nO0, nO1, -, -, -⟩, nP0, nP1, -, -, -⟩ := h41.1.ne
  refine s_rc_guard ((f39.trans x41.1).trans x48.1) h48 hix (fun t => ?_) (cd.cg (fun i _ => by rw [b48 O nO1]) (fun i _ => by rw [b48 P nP1])) (by rw [b48 _ ne1.2.2.2.2.2, t41, if_pos rfl]) (by rw [b48 p ne1.2.2.2.2.1]; exact p41) a48 an48 (by omega) (by rw [r48 5 (by decide), d41]; exact d39) (by rw [r48 6 (by decide), c41]; exact c39)
  have t41' : mI M41 (q + 1) 3 = 0 := by rw [r48 3 (by decide)] at t; exact t
  have t39 : mI M39 (q + 1) 3 = 0 := Classical.byContradiction (fun t2 => x41.2.2.1 t2 t41')
  have : cnt ≠ 60 := fun u => h60 u (by rw [← z39]; exact t39)
  exact ⟨hcx (by omega), by omega⟩
theorem s_TR_readCommand {l1 : Int} (i1 : i32 l1) (h : TX M z q w T A B D N C n p O P K Ab Be Cm V F ns sf ef c cnt L) (ha : mI M (q + 1) 2 = ((a : Nat) : Int)) (han : a < n) (hs : mI M p 2 = ((L : Nat) : Int)) (hsa : L ≤ a) (hd : mI M (q + 1) 5 = 0) : Ci G y_TR_readCommand (d + 7) [vr q, vi l1] M (cmQ9 M z q w T A B D N C n p O P K Ab Be Cm V F ns sf ef c) := by
  obtain ⟨t0, t1, t2, t3, t4, t5⟩ := h.1.2.1
  have c12 := h.2.2.1.1
  refine k_TR_readCommand h.1.1.1 i1 ?_
  rw [t3, t1, c12]
  refine ⟨t0, h.1.1.2.2.2.2.1.1, fun y => s_rc27 FI.refl i1 h (fun u => absurd y (by omega)) ha han hs hsa hd, fun y => ⟨h.1.1.2.1.1, (s_RR_here h.1.1 ha (by omega)).mono (fun x7 M6 k => ?_)⟩⟩
  obtain ⟨e6, -, x0, x1⟩ := k
  subst e6
  refine ⟨i32s (by omega) (by omega), h.1.1.1, h.1.1.2.1.1, (s_tx_note (x := 5) (i32s (by omega) (by omega)) (by omega) (i32s (by omega) (by omega)) h).mono (fun M10 k => ?_)⟩
  obtain ⟨o10, h10, x10, u3, u4, u5⟩ := k
  obtain ⟨⟨np0, np1, -, -⟩, -, -⟩ := h.1.ne
  exact ⟨o10, s_rc27 x10.1 i1 h10 (fun _ => u3) (by rw [u4 2 (by decide) (by decide)]; exact ha) han (by rw [u5 p np1]; exact hs) hsa (by rw [u4 5 (by decide) (by decide)]; exact hd)⟩
end TRQ
