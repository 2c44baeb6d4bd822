section
/-! The class's reader of texts: readCommand. -/
section TRQ
variable {G : mG} {d z q w T A B D N C n p O P K Ab Be Cm V F c s s' L L' cnt Bn a d0 V1 F1 nw k e s9 S0 wd ix nbr u v i Ab0 Be0 Cm0 Ab1 Be1 Cm1 : Nat} {M0 M M' M1 M2 : mM} {ns ns' ns1 : Nat → Int} {sf ef sf' ef' : Nat → Nat} {H H1 : Nat → Nat} {S R : Nat → Prop}
/-- the guard has been read: the command begins -/
theorem s_rc_guard (f1 : FI (txS q p O P) M0 M) (h : TX M z q w T A B D N C n p O P K Ab Be Cm V F ns sf ef c cnt L) (hix : ix ≤ 59) (hi : mI M (q + 1) 3 = 0 → ix = cnt ∧ cnt < 60) (cd : Cod M O P V F ns L e H 1) (h21 : mI M (q + 21) 0 = ((L : Nat) : Int)) (hp : mI M p 2 = ((e + 1 : Nat) : Int)) (ha : mI M (q + 1) 2 = ((a : Nat) : Int)) (han : a ≤ n) (hea : e + 1 ≤ a) (hd : mI M (q + 1) 5 = 0) (h6 : mI M (q + 1) 6 = 0) : mK M q = 3 ∧ mK M (mR M q 2) = 6 ∧ mK M (mR M q 5) = 30 ∧ ((0 : Int) ≤ 0 ∧ 0 < (mN M (mR M q 5) : Int)) ∧ mK M (mR M (mR M q 2) 15) = 30 ∧ ((0 : Int) ≤ ix ∧ (ix : Int) < (mN M (mR M (mR M q 2) 15) : Int)) ∧ ∀ M59, M59 = mUI M (mR M (mR M q 2) 15) (Int.toNat ix) (mI M (mR M q 5) 0) → mK M59 (mR M59 q 2) = 6 ∧ mK M59 (mR M59 (mR M59 q 2) 16) = 30 ∧ ((0 : Int) ≤ ix ∧ (ix : Int) < (mN M59 (mR M59 (mR M59 q 2) 16) : Int)) ∧ ((0 : Int) ≤ (ix : Int) + 1 ∧ (ix : Int) + 1 < (mN M59 (mR M59 (mR M59 q 2) 16) : Int)) ∧ ∀ M65, M65 = mUI M59 (mR M59 (mR M59 q 2) 16) (Int.toNat ((ix : Int) + 1)) (mI M59 (mR M59 (mR M59 q 2) 16) (Int.toNat ix)) → h_TR_readCommand_160 G (d + 6) q ix 1 0 M65 (cmQ9 M0 z q w T A B D N C n p O P K Ab Be Cm V F ns sf ef c) := by
  have ap := h.1.apart
  have qp := h.1.2.2.2.2.2.1.2.1
  have ne1 : q + 1 ≠ p + 11 ∧ q + 1 ≠ p + 12 ∧ O ≠ p + 11 ∧ O ≠ p + 12 ∧ P ≠ p + 11 ∧ P ≠ p + 12 ∧ p ≠ p + 11 ∧ p ≠ p + 12 := by omega
  clear ap qp
  have hLe : L ≤ e := cd.2.2.2.2.2
  have hN : n ≤ 16384 := by have := h.1.1.2.2.2.1.2.2.1; have := h.1.1.2.2.2.1.1.2.2.2.2.2.2.1; omega
  obtain ⟨t0, t1, t2, t3, t4, t5⟩ := h.1.2.1
  obtain ⟨s1, s2, s3, s4⟩ := h.1.2.2.1
  obtain ⟨k6, ⟨-, -, -, -, -, -, -, -, p15, p16, -⟩, ⟨-, -, -, -, -, -, -, -, kp11, kp12, -⟩, ⟨-, -, -, -, -, -, -, -, np11, np12, -⟩⟩ := h.tab
  rw [t3, t4, s3, p15, np11, h21, Int.toNat_natCast]
  refine ⟨t0, k6, s1, ⟨by omega, by omega⟩, kp11, by omega, fun M59 e59 => ?_⟩
  obtain ⟨h59, f59, n59, i59⟩ := h.up (b := 11) ⟨by omega, by omega⟩ e59 ⟨by omega, by omega⟩ (fun _ y => by have := hi y; omega) (fun y => absurd y (by omega))
  obtain ⟨-, ⟨-, -, -, -, -, -, -, -, -, p16', -⟩, ⟨-, -, -, -, -, -, -, -, -, kp12', -⟩, ⟨-, -, -, -, -, -, -, -, -, np12', -⟩⟩ := h59.tab
  rw [h59.1.2.1.2.2.2.1, p16', np12', show Int.toNat ((ix : Int) + 1) = ix + 1 by omega, n59 (p + 12) (by omega)]
  refine ⟨h59.1.1.2.2.2.2.1.1, kp12', by omega, by omega, fun M65 e65 => ?_⟩
  have z59 : mI M59 (q + 1) 3 = mI M (q + 1) 3 := by rw [n59 _ ne1.1]
  obtain ⟨h65, f65, n65, i65⟩ := h59.up (b := 12) (h.1.1.1 _ _).1 e65 ⟨by omega, by omega⟩ (fun y => absurd y (by omega)) (fun _ y => by rw [z59] at y; have := hi y; omega)
  have r65 : mI M65 (q + 1) = mI M (q + 1) := by rw [n65 _ ne1.2.1, n59 _ ne1.1]
  have O65 : mI M65 O = mI M O := by rw [n65 _ ne1.2.2.2.1, n59 _ ne1.2.2.1]
  have P65 : mI M65 P = mI M P := by rw [n65 _ ne1.2.2.2.2.2.1, n59 _ ne1.2.2.2.2.1]
  have q65 : mI M65 p = mI M p := by rw [n65 _ ne1.2.2.2.2.2.2.2, n59 _ ne1.2.2.2.2.2.2.1]
  have cy : CY M65 q p O P V F ns sf ef (e + 1) cnt ix 0 := fun y => by
    obtain ⟨u, eu, gu⟩ := h65.2.2.2 y
    rw [r65] at y
    obtain ⟨y1, y2⟩ := hi y
    refine ⟨y1, y2, u, u, eu, ?_, by omega, by omega, gu.longer (Nat.le_succ_of_le hLe), L, ?_, e, H, F, cd.cg (fun i _ => by rw [O65]) (fun i _ => by rw [P65]), Nat.lt_succ_self _, Nat.le_refl _, fun y hy h7 => ((gu.1 y hy).2 h7).2.2.1⟩
    · rw [← y1, i65, if_pos rfl]
      rw [← y1, i65, if_neg (by omega), n59 (p + 12) (by omega)] at eu
      exact eu
    · rw [n65 (p + 11) (by omega), i59, if_pos y1.symm]
  exact s_rc160 (n + 1) 0 M65 1 (e + 1) 0 a (by omega) (by omega) (i32s (by omega) (by omega)) ⟨(f1.trans f59).trans f65, h65.any (fun _ => Nat.le_succ_of_le hLe), cy, by rw [r65]; exact ha, han, by rw [q65]; exact hp, by rw [r65]; exact hd, by rw [r65]; exact h6, hix⟩ (fun _ => hea) (by omega) (fun _ => by omega)
theorem s_rc27 {l1 : Int} (f1 : FI (txS q p O P) M0 M) (i1 : i32 l1) (h : TX M z q w T A B D N C n p O P K Ab Be Cm V F ns sf ef c cnt L) (h60 : cnt = 60 → mI M (q + 1) 3 ≠ 0) (ha : mI M (q + 1) 2 = ((a : Nat) : Int)) (han : a < n) (hs : mI M p 2 = ((L : Nat) : Int)) (hsa : L ≤ a) (hd : mI M (q + 1) 5 = 0) : h_TR_readCommand_27 G (d + 6) q l1 M (cmQ9 M0 z q w T A B D N C n p O P K Ab Be Cm V F ns sf ef c) := by
  have ap := h.1.apart
  have qp := h.1.2.2.2.2.2.1.2.1
  have ne1 : q + 1 ≠ p + 9 ∧ q + 1 ≠ p + 10 ∧ p ≠ p + 9 ∧ p ≠ p + 10 ∧ p ≠ q + 1 ∧ q + 21 ≠ q + 1 := by omega
  clear ap qp
  have hN : n ≤ 16384 := by have := h.1.1.2.2.2.1.2.2.1; have := h.1.1.2.2.2.1.1.2.2.2.2.2.2.1; omega
  obtain ⟨t0, t1, t2, t3, t4, t5⟩ := h.1.2.1
  have c12 := h.2.2.1.1
  have c60 := h.2.2.1.2
  obtain ⟨k6, ⟨-, -, -, -, -, -, p13, p14, -⟩, ⟨-, -, -, -, -, -, kp9, kp10, -⟩, ⟨-, -, -, -, -, -, np9, np10, -⟩⟩ := h.tab
  obtain ⟨ix, eix, hix, hcx⟩ : ∃ ix : Nat, (if (59 : Int) < (cnt : Int) then (59 : Int) else (cnt : Int)) = ix ∧ ix ≤ 59 ∧ (cnt < 60 → ix = cnt) := by
    by_cases y : (59 : Int) < cnt
    · exact ⟨59, by rw [if_pos y]; rfl, by omega, by omega⟩
    · exact ⟨cnt, by rw [if_neg y], by omega, fun _ => rfl⟩
  refine k_TR_readCommand_27 h.1.1.1 i1 ?_
  rw [t3, c12, p13, np9, eix, Int.toNat_natCast]
  refine ⟨t0, k6, fun v16 e16 => ⟨kp9, by omega, fun M22 e22 => ?_⟩⟩
  have i16 : i32 v16 := by rw [e16]; split <;> exact i32s (by omega) (by omega)
  obtain ⟨h22, f22, n22, -⟩ := h.up (b := 9) i16 e22 ⟨by omega, by omega⟩ (fun y => absurd y (by omega)) (fun y => absurd y (by omega))
  have r22 := n22 (q + 1) ne1.1
  have a22 : mI M22 (q + 1) 2 = ((a : Nat) : Int) := by rw [r22]; exact ha
  obtain ⟨-, ⟨-, -, -, -, -, -, -, p14', -⟩, ⟨-, -, -, -, -, -, -, kp10', -⟩, ⟨-, -, -, -, -, -, -, np10', -⟩⟩ := h22.tab
  rw [h22.1.2.1.2.1, h22.1.2.1.2.2.2.1, p14']
  refine ⟨h22.1.1.2.2.2.2.1.1, h22.1.1.2.1.1, (s_RR_here h22.1.1 a22 (by omega)).mono (fun x27 M26 k => ?_)⟩
  obtain ⟨e26, -, x0, x1⟩ := k
  subst e26
  rw [np10']
  refine ⟨i32s (by omega) (by omega), h22.1.1.1, kp10', by omega, fun M31 e31 => ?_⟩
  obtain ⟨h31, f31, n31, -⟩ := h22.up (b := 10) (i32s (by omega) (by omega)) e31 ⟨by omega, by omega⟩ (fun y => absurd y (by omega)) (fun y => absurd y (by omega))
  have r31 : mI M31 (q + 1) = mI M (q + 1) := by rw [n31 (q + 1) ne1.2.1, r22]
  have p31 : mI M31 p = mI M p := by rw [n31 p ne1.2.2.2.1, n22 p ne1.2.2.1]
  rw [h31.1.2.1.2.1, r31, ha]
  refine ⟨h31.1.2.1.1, h31.1.1.2.1.1, ⟨by omega, by omega⟩, fun M36 e36 => ?_⟩
  obtain ⟨h36, x36, g36⟩ := tx_ui h31 ⟨by omega, by omega⟩ e36 (Or.inr (Or.inr (Or.inr (Or.inl ⟨rfl, Or.inl rfl⟩))))
  rw [h36.1.2.1.2.1]
  refine ⟨h36.1.1.2.1.1, fun M39 e39 => ?_⟩
  obtain ⟨h39, x39, g39⟩ := tx_ui h36 (i32s (by omega) (by omega)) e39 (Or.inr (Or.inr (Or.inr (Or.inl ⟨rfl, Or.inr (Or.inr rfl)⟩))))
  have a39 : mI M39 (q + 1) 2 = ((a + 1 : Nat) : Int) := by rw [g39, if_neg (fun u => absurd u.2 (by decide)), g36, if_pos ⟨rfl, rfl⟩]; rfl
  have d39 : mI M39 (q + 1) 5 = ((0 : Nat) : Int) := by rw [g39, if_neg (fun u => absurd u.2 (by decide)), g36, if_neg (fun u => absurd u.2 (by decide)), r31]; exact hd
  have c39 : mI M39 (q + 1) 6 = 0 := by rw [g39, if_pos ⟨rfl, rfl⟩]
  have z39 : mI M39 (q + 1) 3 = mI M (q + 1) 3 := by rw [g39, if_neg (fun u => absurd u.2 (by decide)), g36, if_neg (fun u => absurd u.2 (by decide)), r31]
  have p39 : mI M39 p 2 = ((L : Nat) : Int) := by rw [g39, if_neg (fun u => ne1.2.2.2.2.1 u.1), g36, if_neg (fun u => ne1.2.2.2.2.1 u.1), p31]; exact hs
  have f39 : FI (txS q p O P) M0 M39 := (((f1.trans f22).trans f31).trans x36.1).trans x39.1
  clear f22 n22 f31 n31 x36 g36 x39 g39 r22 r31 a22 p31 h22 h31 h36
  refine (s_TR_readItemRule (k := 0) (d0 := 0) (by omega) (i32s (by omega) (by omega)) h39 a39 (by omega) p39 (Nat.le_refl _) (by omega) d39 (by omega) h39.2.1.2.2.1.nk).mono (fun x42 M41 k => ?_)
  obtain ⟨h41, x41, ⟨c41, q41, t41⟩, k41⟩ := k
  have i42 : i32 x42 := m_b32 (k41.imp (fun u => u.1) (fun u => u.1))
  refine ⟨i42, h41.1.1.1, fun y => ?_, fun y => ?_⟩
  · obtain ⟨-, u⟩ := k41.resolve_right (fun u => by rw [y] at u; exact absurd u.1 (by decide))
    exact ⟨f39.trans x41.1, Or.inl ⟨rfl, L, cnt, h41, u⟩⟩
  obtain ⟨-, e, H, a', cd, p41, a41, aa, an, ea, d41⟩ := k41.resolve_left (fun u => y u.1)
  clear k41
  rw [h41.1.2.1.2.1]
  refine ⟨h41.1.2.1.1, h41.1.1.2.1.1, (s_tx_accept (x := 18) (i32s (by omega) (by omega)) (by omega) h41 a41 an).mono (fun x49 M48 k => ?_)⟩
  obtain ⟨i49, o48, -, h48, x48, k48, r48, b48⟩ := k
  refine ⟨i49, o48, fun y => ?_, fun y => ?_⟩
  · rw [(k48.resolve_left (fun u => by rw [y] at u; exact absurd u.1 (by decide))).2]
    exact ⟨f39.trans x41.1, Or.inl ⟨rfl, L, cnt, h41, a', a41, an⟩⟩
  obtain ⟨-, -, a48, an48⟩ := k48.resolve_right (fun u => y u.1)
  obtain ⟨-, ⟨nO0, nO1, -, -, -⟩, nP0, nP1, -, -, -⟩ := h41.1.ne
  refine s_rc_guard ((f39.trans x41.1).trans x48.1) h48 hix (fun t => ?_) (cd.cg (fun i _ => by rw [b48 O nO1]) (fun i _ => by rw [b48 P nP1])) (by rw [b48 _ ne1.2.2.2.2.2, t41, if_pos rfl]) (by rw [b48 p ne1.2.2.2.2.1]; exact p41) a48 an48 (by omega) (by rw [r48 5 (by decide), d41]; exact d39) (by rw [r48 6 (by decide), c41]; exact c39)
  have t41' : mI M41 (q + 1) 3 = 0 := by rw [r48 3 (by decide)] at t; exact t
  have t39 : mI M39 (q + 1) 3 = 0 := Classical.byContradiction (fun t2 => x41.2.2.1 t2 t41')
  have : cnt ≠ 60 := fun u => h60 u (by rw [← z39]; exact t39)
  exact ⟨hcx (by omega), by omega⟩
theorem s_TR_readCommand {l1 : Int} (i1 : i32 l1) (h : TX M z q w T A B D N C n p O P K Ab Be Cm V F ns sf ef c cnt L) (ha : mI M (q + 1) 2 = ((a : Nat) : Int)) (han : a < n) (hs : mI M p 2 = ((L : Nat) : Int)) (hsa : L ≤ a) (hd : mI M (q + 1) 5 = 0) : Ci G y_TR_readCommand (d + 7) [vr q, vi l1] M (cmQ9 M z q w T A B D N C n p O P K Ab Be Cm V F ns sf ef c) := by
  obtain ⟨t0, t1, t2, t3, t4, t5⟩ := h.1.2.1
  have c12 := h.2.2.1.1
  refine k_TR_readCommand h.1.1.1 i1 ?_
  rw [t3, t1, c12]
  refine ⟨t0, h.1.1.2.2.2.2.1.1, fun y => s_rc27 FI.refl i1 h (fun u => absurd y (by omega)) ha han hs hsa hd, fun y => ⟨h.1.1.2.1.1, (s_RR_here h.1.1 ha (by omega)).mono (fun x7 M6 k => ?_)⟩⟩
  obtain ⟨e6, -, x0, x1⟩ := k
  subst e6
  refine ⟨i32s (by omega) (by omega), h.1.1.1, h.1.1.2.1.1, (s_tx_note (x := 5) (i32s (by omega) (by omega)) (by omega) (i32s (by omega) (by omega)) h).mono (fun M10 k => ?_)⟩
  obtain ⟨o10, h10, x10, u3, u4, u5⟩ := k
  obtain ⟨⟨np0, np1, -, -⟩, -, -⟩ := h.1.ne
  exact ⟨o10, s_rc27 x10.1 i1 h10 (fun _ => u3) (by rw [u4 2 (by decide) (by decide)]; exact ha) han (by rw [u5 p np1]; exact hs) hsa (by rw [u4 5 (by decide) (by decide)]; exact hd)⟩
end TRQ
end
section
/-! The class's reader of texts: translate. -/
section TRR
variable {G : mG} {d z q w T A B D N C n p O P K Ab Be Cm V F c s s' L L' cnt Bn a d0 V1 F1 nw k e s9 S0 wd ix nbr u v i Ab0 Be0 Cm0 Ab1 Be1 Cm1 : Nat} {M0 M M' M1 M2 : mM} {ns ns' ns1 : Nat → Int} {sf ef sf' ef' : Nat → Nat} {H H1 : Nat → Nat} {S R : Nat → Prop}
/-- what translate comes to -/
def tlQ (M0 : mM) (z q w T A B D N C n p O P K Ab0 Be0 Cm0 : Nat) (x : Int) (M' : mM) : Prop := ∃ (Ab Be Cm V F : Nat) (ns : Nat → Int) (sf ef : Nat → Nat) (c cnt L : Nat), TX M' z q w T A B D N C n p O P K Ab Be Cm V F ns sf ef c cnt L ∧ trF M0 q p O P Ab0 Be0 Cm0 M' Ab Be Cm ∧ x = mI M' (q + 1) 3 ∧ (x = 0 → mI M' p 11 ≠ -1 ∧ mI M' p 2 = ((L : Nat) : Int) ∧ L ≤ n)
/-- an item does not stand -/
theorem s_tl_not (h : nstQ z q w T A B D N C n p O P K Ab Be Cm V F ns sf ef c cnt L M) (hf : trF M0 q p O P Ab0 Be0 Cm0 M Ab Be Cm) : mK M q = 3 ∧ mK M (mR M q 0) = 4 ∧ ∀ M93, M93 = mUI M (mR M q 0) 3 1 → mK M93 (mR M93 q 0) = 4 ∧ Ci G y_RR_here d [vr (mR M93 q 0)] M93 (fun x97 M96 => i32 x97 ∧ mOk M96 ∧ (mK M96 (mR M93 q 0) = 4 ∧ ∀ M100, M100 = mUI M96 (mR M93 q 0) 4 x97 → tlQ M0 z q w T A B D N C n p O P K Ab0 Be0 Cm0 1 M100)) := by
  obtain ⟨h1, a, a1, a2⟩ := h
  obtain ⟨t0, t1, t2, t3, t4, t5⟩ := h1.1.2.1
  have ap := h1.1.apart
  have qp := h1.1.2.2.2.2.2.1.2.1
  have ne1 : O ≠ q + 1 ∧ P ≠ q + 1 ∧ p ≠ q + 1 ∧ ∀ i, 3 ≤ i → i ≤ 15 → p + i ≠ q + 1 := by
    refine ⟨by omega, by omega, by omega, fun i _ _ => by omega⟩
  clear ap qp
  rw [t1]
  have gen : ∀ {Mx My : mM} {j : Nat} {x : Int}, TX Mx z q w T A B D N C n p O P K Ab Be Cm V F ns sf ef c cnt L → i32 x → My = mUI Mx (q + 1) j x → (j = 3 ∧ x ≠ 0) ∨ j = 4 → TX My z q w T A B D N C n p O P K Ab Be Cm V F ns sf ef c cnt L ∧ FI (txS q p O P) Mx My ∧ (∀ i, mI My (q + 1) i = if i = j then x else mI Mx (q + 1) i) := fun {Mx My j x} hx ix e hj => by
    have f : FI (fun y => y = q + 1) Mx My := by rw [e]; exact FI.ui rfl
    have nb : ∀ y, y ≠ q + 1 → mI My y = mI Mx y := fun y hy => f.2.2.2.2.2.2 y hy
    have ir : ∀ i, mI My (q + 1) i = if i = j then x else mI Mx (q + 1) i := fun i => by
      rw [mI_ui _ i e]
      by_cases y : i = j
      · rw [if_pos ⟨rfl, y⟩, if_pos y]
      · rw [if_neg (fun t => y t.2), if_neg y]
    have fx : FI (txS q p O P) Mx My := f.mono (fun y hy => Or.inl (by have hy' : y = q + 1 := hy; omega))
    have o : mOk My := by rw [e]; exact mOk_UI hx.1.1.1 ix
    refine ⟨hx.tx o ⟨fx, fun i _ i3 i4 _ _ _ _ _ => by rw [ir, if_neg (by omega)], fun y => ?_, fun i _ _ => nb _ (by omega), fun i _ => by rw [nb p ne1.2.2.1], fun i h3 h15 => nb _ (ne1.2.2.2 i h3 h15), fun i _ => ⟨by rw [nb O ne1.1], by rw [nb P ne1.2.1]⟩⟩ (fun y => by rw [nb _ (by omega)]; exact hx.2.1.2.2.2 y), fx, ir⟩
    rw [ir]
    rcases hj with ⟨j3, x0⟩ | j4
    · rw [if_pos j3.symm]; exact x0
    · rw [if_neg (by omega)]; exact y
  refine ⟨t0, h1.1.1.2.1.1, fun M93 e93 => ?_⟩
  obtain ⟨h93, f93, i93⟩ := gen h1 ⟨by decide, by decide⟩ e93 (Or.inl ⟨rfl, by decide⟩)
  rw [h93.1.2.1.2.1]
  refine ⟨h93.1.1.2.1.1, (s_RR_here h93.1.1 (a := a) (by rw [i93, if_neg (by decide)]; exact a1) a2).mono (fun x97 M96 k => ?_)⟩
  obtain ⟨e96, -, x0, x1⟩ := k
  subst e96
  refine ⟨i32s (by omega) (by omega), h93.1.1.1, h93.1.1.2.1.1, fun M100 e100 => ?_⟩
  obtain ⟨h100, f100, i100⟩ := gen h93 (i32s (by omega) (by omega)) e100 (Or.inr rfl)
  exact ⟨Ab, Be, Cm, V, F, ns, sf, ef, c, cnt, L, h100, (hf.trans (trF.fi f93)).trans (trF.fi f100), by rw [i100, if_neg (by decide), i93, if_pos rfl], fun u => absurd u (by decide)⟩
/-- the loop over the items -/
theorem s_tl41 (hF : FMs G) : ∀ (t i : Nat) (M : mM) (Ab Be Cm V F : Nat) (ns : Nat → Int) (sf ef : Nat → Nat) (c cnt L a : Nat), n + 1 ≤ i + t → i ≤ n + 1 → TX M z q w T A B D N C n p O P K Ab Be Cm V F ns sf ef c cnt L → mI M p 2 = ((L : Nat) : Int) → mI M (q + 1) 2 = ((a : Nat) : Int) → a ≤ n → L ≤ a → mI M (q + 1) 5 = 0 → trF M0 q p O P Ab0 Be0 Cm0 M Ab Be Cm → h_TR_translate_41 G (d + 7) q w i M (tlQ M0 z q w T A B D N C n p O P K Ab0 Be0 Cm0) := by
  intro t
  induction t with
  | zero =>
    intro i M Ab Be Cm V F ns sf ef c cnt L a ht hi h hp ha han hLa hd hf
    have hN : n ≤ 16384 := by have := h.1.1.2.2.2.1.2.2.1; have := h.1.1.2.2.2.1.1.2.2.2.2.2.2.1; omega
    obtain ⟨t0, t1, t2, t3, t4, t5⟩ := h.1.2.1
    obtain ⟨⟨w1, ⟨p0, p3, -⟩, -, ⟨kA, -⟩, ⟨cA, -⟩, w6, w7, w8, -⟩, w2, hnN, hw, hA, -⟩ := id h.1.1.2.2.2.1
    refine k_TR_translate_41 h.1.1.1 (i32s (by omega) (by omega)) ?_
    rw [w2, t1, t3, w6]
    refine ⟨w1, fun y => absurd y (by omega), fun _ => ⟨t0, h.1.1.2.2.2.2.1.1, fun y => ⟨h.1.1.2.1.1, (s_tx_note (x := 10) (i32s (by omega) (by omega)) (by omega) (i32s (by omega) (by omega)) h).mono (fun M32 k => ?_)⟩, fun y => ?_⟩, fun y => absurd (Or.inl (by omega)) y⟩
    · obtain ⟨o32, h32, x32, u3, u4, u5⟩ := k
      refine ⟨o32, k_TR_translate_248 o32 ⟨h32.1.2.1.1, by rw [h32.1.2.1.2.1]; exact h32.1.1.2.1.1, ?_⟩⟩
      rw [h32.1.2.1.2.1]
      exact ⟨Ab, Be, Cm, V, F, ns, sf, ef, c, cnt, L, h32, hf.trans (trF.fi x32.1), rfl, fun u => absurd u u3⟩
    · refine k_TR_translate_248 h.1.1.1 ⟨t0, by rw [t1]; exact h.1.1.2.1.1, ?_⟩
      rw [t1]
      exact ⟨Ab, Be, Cm, V, F, ns, sf, ef, c, cnt, L, h, hf, rfl, fun _ => ⟨y, hp, by omega⟩⟩
  | succ t ih =>
    intro i M Ab Be Cm V F ns sf ef c cnt L a ht hi h hp ha han hLa hd hf
    have hN : n ≤ 16384 := by have := h.1.1.2.2.2.1.2.2.1; have := h.1.1.2.2.2.1.1.2.2.2.2.2.2.1; omega
    obtain ⟨t0, t1, t2, t3, t4, t5⟩ := h.1.2.1
    obtain ⟨⟨w1, ⟨p0, p3, -⟩, -, ⟨kA, -⟩, ⟨cA, -⟩, w6, w7, w8, -⟩, w2, hnN, hw, hA, -⟩ := id h.1.1.2.2.2.1
    refine k_TR_translate_41 h.1.1.1 (i32s (by omega) (by omega)) ?_
    rw [w2, t1, t3, w6, p3, cA, ha, Int.toNat_natCast]
    have fin : i < n + 1 → ∀ {M1 : mM}, itE M0 z q w T A B D N C n p O P K Ab0 Be0 Cm0 M1 → h_TR_translate_218 G (d + 7) q w i M1 (tlQ M0 z q w T A B D N C n p O P K Ab0 Be0 Cm0) := fun hi1 {M1} hE => by
      obtain ⟨Ab1, Be1, Cm1, V1, F1, ns1, sf1, ef1, c1, cnt1, L1, a1, e1, e2, e3, e4, e5, e6, e7⟩ := hE
      refine k_TR_translate_218 e1.1.1.1 (i32s (by omega) (by omega)) ?_
      rw [show ((i : Int) + 1) = ((i + 1 : Nat) : Int) by omega]
      exact ih (i + 1) M1 Ab1 Be1 Cm1 V1 F1 ns1 sf1 ef1 c1 cnt1 L1 a1 (by omega) (by omega) e1 e2 e3 e4 e5 e6 e7
    have nst : ∀ {l4 : Int} {M1 : mM} {cnt1 L1 : Nat}, i32 l4 → nstQ z q w T A B D N C n p O P K Ab Be Cm V F ns sf ef c cnt1 L1 M1 → FI (txS q p O P) M M1 → h_TR_translate_155 G (d + 7) q w i l4 0 M1 (tlQ M0 z q w T A B D N C n p O P K Ab0 Be0 Cm0) := fun {l4 M1 cnt1 L1} il hn fi => k_TR_translate_155 hn.1.1.1.1 (i32s (by omega) (by omega)) il (i32s (by omega) (by omega)) ⟨fun _ => s_tl_not hn (hf.trans (trF.fi fi)), fun y => absurd rfl y⟩
    have itr : ∀ {M1 M2 : mM}, FI (txS q p O P) M M1 → itE M1 z q w T A B D N C n p O P K Ab Be Cm M2 → itE M0 z q w T A B D N C n p O P K Ab0 Be0 Cm0 M2 := fun {M1 M2} fi hE => by
      obtain ⟨Ab1, Be1, Cm1, V1, F1, ns1, sf1, ef1, c1, cnt1, L1, a1, e1, e2, e3, e4, e5, e6, e7⟩ := hE
      exact ⟨Ab1, Be1, Cm1, V1, F1, ns1, sf1, ef1, c1, cnt1, L1, a1, e1, e2, e3, e4, e5, e6, (hf.trans (trF.fi fi)).trans e7⟩
    refine ⟨w1, fun _ => ⟨t0, h.1.1.2.1.1, kA, by omega⟩, fun _ => ⟨t0, h.1.1.2.2.2.2.1.1, fun y => ⟨h.1.1.2.1.1, (s_tx_note (x := 10) (i32s (by omega) (by omega)) (by omega) (i32s (by omega) (by omega)) h).mono (fun M32 k => ?_)⟩, fun y => ?_⟩, fun y => ?_⟩
    · obtain ⟨o32, h32, x32, u3, u4, u5⟩ := k
      refine ⟨o32, k_TR_translate_248 o32 ⟨h32.1.2.1.1, by rw [h32.1.2.1.2.1]; exact h32.1.1.2.1.1, ?_⟩⟩
      rw [h32.1.2.1.2.1]
      exact ⟨Ab, Be, Cm, V, F, ns, sf, ef, c, cnt, L, h32, hf.trans (trF.fi x32.1), rfl, fun u => absurd u u3⟩
    · refine k_TR_translate_248 h.1.1.1 ⟨t0, by rw [t1]; exact h.1.1.2.1.1, ?_⟩
      rw [t1]
      exact ⟨Ab, Be, Cm, V, F, ns, sf, ef, c, cnt, L, h, hf, rfl, fun _ => ⟨y, hp, by omega⟩⟩
    · have i1n : i < n + 1 := by
        by_cases u : ((n : Int) + 1 ≤ i)
        · exact absurd (Or.inl u) y
        · omega
      have y0 : mI M A a ≠ 0 := fun u => y (Or.inr u)
      have an : a < n := by
        have : a ≠ n := fun u => y0 (by rw [u]; exact hA)
        omega
      have il := (h.1.1.1 A a).1
      have fin' := fun {M1 : mM} => fin i1n (M1 := M1)
      clear fin y
      refine ⟨t0, h.1.1.2.1.1, kA, by omega, fun y5 => ?_, fun y5 => ⟨fun y12 => ?_, fun y12 => ⟨fun y8 => ?_, fun y8 => ⟨fun y4 => ?_, fun y4 => ?_⟩⟩⟩⟩
      · refine (s_TR_readVar h ha an hp hLa hd).mono (fun x M1 k => ?_)
        obtain ⟨f1, k1⟩ := k
        rcases k1 with ⟨e, u⟩ | ⟨e, h1, s, a', nw, u1, u2, u3⟩
        · rw [e]
          exact ⟨⟨by decide, by decide⟩, u.1.1.1.1, nst il u f1⟩
        · rw [e]
          refine ⟨⟨by decide, by decide⟩, h1.1.1.1, k_TR_translate_155 h1.1.1.1 (i32s (by omega) (by omega)) il (i32s (by omega) (by omega)) ⟨fun t => absurd t (by decide), fun _ => ⟨fun _ => ⟨h1.1.2.1.1, (s_TR_settleVar hF h1 u1 u2 u3).mono (fun M2 k => ?_)⟩, fun t => absurd y5 t⟩⟩⟩
          have hE := itr f1 k
          exact ⟨by obtain ⟨_, _, _, _, _, _, _, _, _, _, _, _, e1, -⟩ := hE; exact e1.1.1.1, fin' hE⟩
      · refine (s_TR_readTarget h ha an hp hLa hd).mono (fun x M1 k => ?_)
        obtain ⟨f1, k1⟩ := k
        rcases k1 with ⟨e, L1, u⟩ | ⟨e, L1, a', h1, u1, u2, u3, u4, u5⟩
        · rw [e]
          exact ⟨⟨by decide, by decide⟩, u.1.1.1.1, nst il u f1⟩
        · rw [e]
          exact ⟨⟨by decide, by decide⟩, h1.1.1.1, k_TR_translate_155 h1.1.1.1 (i32s (by omega) (by omega)) il (i32s (by omega) (by omega)) ⟨fun t => absurd t (by decide), fun _ => ⟨fun t => absurd t y5, fun _ => ⟨fun t => absurd t (by omega), fun _ => fin' ⟨Ab, Be, Cm, V, F, ns, sf, ef, c, cnt, L1, a', h1, u1, u2, u3, u4, u5, hf.trans (trF.fi f1)⟩⟩⟩⟩⟩
      · refine (s_TR_readCommand il h ha an hp hLa hd).mono (fun x M1 k => ?_)
        obtain ⟨f1, k1⟩ := k
        rcases k1 with ⟨e, L1, cnt1, u⟩ | ⟨e, L1, cnt1, a', h1, u1, u2, u3, u4, u5⟩
        · rw [e]
          exact ⟨⟨by decide, by decide⟩, u.1.1.1.1, nst il u f1⟩
        · rw [e]
          exact ⟨⟨by decide, by decide⟩, h1.1.1.1, k_TR_translate_155 h1.1.1.1 (i32s (by omega) (by omega)) il (i32s (by omega) (by omega)) ⟨fun t => absurd t (by decide), fun _ => ⟨fun t => absurd t y5, fun _ => ⟨fun t => absurd t (by omega), fun _ => fin' ⟨Ab, Be, Cm, V, F, ns, sf, ef, c, cnt1, L1, a', h1, u1, u2, u3, u4, u5, hf.trans (trF.fi f1)⟩⟩⟩⟩⟩
      · refine (s_TR_readNamed y4 h ha an hp hLa hd).mono (fun x M1 k => ?_)
        obtain ⟨f1, k1⟩ := k
        rcases k1 with ⟨e, u⟩ | ⟨e, h1, u0, e', a', nw, H, u1, u2, u3, u4, u5, u6, u7, u8, u9, u10, u11⟩
        · rw [e]
          exact ⟨⟨by decide, by decide⟩, u.1.1.1.1, fun _ => nst il u f1, fun t => absurd rfl t⟩
        · rw [e]
          refine ⟨⟨by decide, by decide⟩, h1.1.1.1, fun t => absurd t (by decide), fun _ => k_TR_translate_155 h1.1.1.1 (i32s (by omega) (by omega)) il (i32s (by omega) (by omega)) ⟨fun t => absurd t (by decide), fun _ => ⟨fun t => absurd t y5, fun _ => ⟨fun _ => ⟨h1.1.2.1.1, (s_TR_settleNamed hF y4 h1 u0 u1 u2 u3 u4 u5 u6 ⟨u7, u8, u9⟩ u10 u11).mono (fun M2 k => ?_)⟩, fun t => absurd y4 t⟩⟩⟩⟩
          have hE := itr f1 k
          exact ⟨by obtain ⟨_, _, _, _, _, _, _, _, _, _, _, _, e1, -⟩ := hE; exact e1.1.1.1, fin' hE⟩
      · exact nst il ⟨h, a, ha, han⟩ FI.refl
end TRR
end
