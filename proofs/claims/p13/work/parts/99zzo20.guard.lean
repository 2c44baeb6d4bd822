/-! The class's reader of texts, exactly: a command from its arrow on. -/
section TXU
variable {G : mG} {L0 d z q w T A B D N C n p O P K Ab Be Cm V F c s L L' cnt a a0 j k e ix nbr i b f ar Nn : Nat} {M0 M M' M1 M2 Mc Mc' : mM} {ns : Nat → Int} {sf ef : Nat → Nat} {H : Nat → Nat} {W pl nq E : Nat → Int} {sm : Nat → Nat → Prop} {nms : List nm9} {ft fB fS : Int × Int} {zr : List Int}
theorem hF0 {r : Nat} (fB : Int × Int) (h : FT M r (fst9 ft fB)) : FT M r (fst9 ft (fst9 fB (0, 0))) := by
  rw [← fst9_as]
  exact h.none
theorem x_rc160 (hNn : n ≤ Nn) : ∀ (t i : Nat) (M : mM) (l3 : Int) (L nbr a : Nat), n + 1 ≤ i + t → i ≤ n + 1 → i32 l3 → cmI M0 z q w T A B D N C n p O P K Ab Be Cm V F ns sf ef c cnt L ix nbr a M → (l3 ≠ 0 → L ≤ a) → L ≤ a + 1 → (mI M (q + 1) 3 = 0 → nbr ≤ i) → rcJ T A B D n V O P L0 cnt W pl nq sm Nn Mc q p c k ar nms ft l3 i a M → h_TR_readCommand_160 G (d + 6) q ix l3 i M (fun x M' => cmQ9 M0 z q w T A B D N C n p O P K Ab Be Cm V F ns sf ef c x M' ∧ cmV W pl nq sm Nn n V O P L0 cnt Mc q p c k ar ix nms ft x M') := by
  intro t
  induction t with
  | zero =>
    intro i M l3 L nbr a ht hi i3 h hLa hLa1 hn J
    have h1 := h.2.1
    have hix := h.2.2.2.2.2.2.2.2
    have hN : n ≤ 16384 := by have := h1.1.1.2.2.2.1.2.2.1; have := h1.1.1.2.2.2.1.1.2.2.2.2.2.2.1; omega
    obtain ⟨t0, t1, t2, t3, t4, t5⟩ := h1.1.2.1
    have r0 := h1.1.1.2.2.1.1
    have w1 := h1.1.1.2.2.2.1.1.1
    have w2 := h1.1.1.2.2.2.1.2.1
    refine k_TR_readCommand_160 h1.1.1.1 (i32s (by omega) (by omega)) i3 (i32s (by omega) (by omega)) ?_
    rw [t1, r0, w2, t3]
    obtain ⟨wt, km, fB, hF, hb8, ⟨n4, hka'⟩, J⟩ := J
    have a2 := h.2.2.2.2.1
    have J := J.resolve_left (fun u => by
      have := u.2.1
      clear J
      omega)
    exact ⟨t0, h1.1.1.2.1.1, w1, fun _ => ⟨h1.1.1.2.2.2.2.1.1, ⟨by omega, by omega⟩, fun M78 e78 => x_rc_end h hLa1 e78 wt km hF n4 J.2.1 J.2.2.1 hb8 J.2.2.2⟩, fun y => absurd (Or.inl (by omega)) y⟩
  | succ t ih =>
    intro i M l3 L nbr a ht hi i3 h hLa hLa1 hn J
    have h1 := h.2.1
    have hix := h.2.2.2.2.2.2.2.2
    have hN : n ≤ 16384 := by have := h1.1.1.2.2.2.1.2.2.1; have := h1.1.1.2.2.2.1.1.2.2.2.2.2.2.1; omega
    obtain ⟨t0, t1, t2, t3, t4, t5⟩ := h1.1.2.1
    have r0 := h1.1.1.2.2.1.1
    have w1 := h1.1.1.2.2.2.1.1.1
    have w2 := h1.1.1.2.2.2.1.2.1
    have nxt : ∀ (M1 : mM) (l3 : Int) (L' nbr' a' : Nat), i32 l3 → cmI M0 z q w T A B D N C n p O P K Ab Be Cm V F ns sf ef c cnt L' ix nbr' a' M1 → (l3 ≠ 0 → L' ≤ a') → L' ≤ a' + 1 → (mI M1 (q + 1) 3 = 0 → nbr' ≤ i + 1) → rcJ T A B D n V O P L0 cnt W pl nq sm Nn Mc q p c k ar nms ft l3 (i + 1) a' M1 → i < n + 1 → h_TR_readCommand_160 G (d + 6) q ix l3 ((i : Int) + 1) M1 (fun x M' => cmQ9 M0 z q w T A B D N C n p O P K Ab Be Cm V F ns sf ef c x M' ∧ cmV W pl nq sm Nn n V O P L0 cnt Mc q p c k ar ix nms ft x M') := fun M1 l3 L' nbr' a' j1 j2 j3 j4 j5 jj j6 => by
      rw [show ((i : Int) + 1) = ((i + 1 : Nat) : Int) by omega]
      exact ih (i + 1) M1 l3 L' nbr' a' (by omega) (by omega) j1 j2 j3 j4 j5 jj
    obtain ⟨wt, km, fB, hF, hb8, ⟨n4, hka'⟩, J⟩ := J
    have a2 := h.2.2.2.2.1
    refine k_TR_readCommand_160 h1.1.1.1 (i32s (by clear J; omega) (by clear J; omega)) i3 (i32s (by clear J; omega) (by clear J; omega)) ?_
    rw [t1, r0, w2, t3]
    by_cases l30 : l3 = 0
    · have J := J.resolve_left (fun u => u.1 l30)
      exact ⟨t0, h1.1.1.2.1.1, w1, fun _ => ⟨h1.1.1.2.2.2.2.1.1, ⟨by omega, by omega⟩, fun M78 e78 => x_rc_end h hLa1 e78 wt km hF n4 J.2.1 J.2.2.1 hb8 J.2.2.2⟩, fun y => absurd (Or.inr l30) y⟩
    obtain ⟨-, hia, hR, bk, cr⟩ := J.resolve_right (fun u => l30 u.1)
    clear J
    refine ⟨t0, h1.1.1.2.1.1, w1, fun y => absurd y (by omega), fun y => ?_⟩
    have i1n : i < n + 1 := by
      by_cases u : ((n : Int) + 1 ≤ i)
      · exact absurd (Or.inl u) y
      · omega
    refine ⟨fun y8 => x_rc201 h (hLa l30) (by omega) hNn wt km (by rw [if_neg (by omega)]; exact hF0 fB hF) hb8 hia hka' n4 hR bk cr (fun u => ⟨hn u, by omega⟩) (fun M1 l3 L' nbr' a' j1 j2 j3 j4 j5 jj => nxt M1 l3 L' nbr' a' j1 j2 j3 j4 j5 jj i1n), fun y8 => (s_RR_here h1.1.1 h.2.2.2.1 h.2.2.2.2.1).mono (fun x89 M88 kk => ?_)⟩
    obtain ⟨e88, ex89, x0, x1⟩ := kk
    subst e88
    refine ⟨i32s (by omega) (by omega), h1.1.1.1, h1.1.1.2.1.1, (x_tx_note (x := 5) (i32s (by omega) (by omega)) (by omega) (i32s (by omega) (by omega)) h1).mono (fun M92 kk => ?_)⟩
    obtain ⟨o92, h92, x92, u3, u4, u5, u6⟩ := kk
    have F92 := u6 _ hF
    rw [ex89, (wt.1 a a2).2.2, fst9_as] at F92
    obtain ⟨⟨np0, np1, -, -⟩, ⟨nO0, nO1, -, -, -⟩, nP0, nP1, -, -, -⟩ := h1.1.ne
    have pq1 : ∀ i, i ≤ 15 → p + i ≠ q + 1 := fun i hi => by
      have qp := h1.1.2.2.2.2.2.1.2.1
      omega
    have cr92 := cr.cg (M' := M92) (fun u => absurd u u3) (fun i _ i15 => u5 _ (pq1 i i15)) (by rw [u5 p np1]) (by rw [u5 p np1]) (u5 O nO1) (u5 P nP1)
    obtain ⟨j1, j2, j3, j4, j5, j6, j7, j8, j9⟩ := h
    refine ⟨o92, x_rc201 (nbr := nbr) ⟨j1.trans x92.1, h92, j3.tx x92.2, by rw [u4 2 (by decide) (by decide)]; exact j4, j5, by rw [u5 p np1]; exact j6, by rw [u4 5 (by decide) (by decide)]; exact j7, by rw [u4 6 (by decide) (by decide)]; exact j8, j9⟩ (hLa l30) (by omega) hNn (wt.fi h1.1 x92.1) (km.trans (cmK.tx x92.2)) (by rw [if_pos (by omega)]; exact F92) hb8 hia hka' n4 hR bk cr92 (fun u => absurd u u3) (fun M1 l3 L' nbr' a' j1 j2 j3 j4 j5 jj => nxt M1 l3 L' nbr' a' j1 j2 j3 j4 j5 jj i1n)⟩
/-- the guard has been read: the command begins -/
theorem x_rc_guard {Q9 : Int → mM → Prop} (hQ : ∀ x M9, cmQ9 M0 z q w T A B D N C n p O P K Ab Be Cm V F ns sf ef c x M9 ∧ cmV W pl nq sm Nn n V O P L0 cnt Mc q p c k ar ix nms ft x M9 → Q9 x M9) (f1 : FI (txS q p O P) M0 M) (h : TX M z q w T A B D N C n p O P K Ab Be Cm V F ns sf ef c cnt L) (hix : ix ≤ 59) (hi : mI M (q + 1) 3 = 0 → ix = cnt ∧ cnt < 60) (cd : Cod M O P V F ns L e H 1) (h21 : mI M (q + 21) 0 = ((L : Nat) : Int)) (hp : mI M p 2 = ((e + 1 : Nat) : Int)) (ha : mI M (q + 1) 2 = ((a : Nat) : Int)) (han : a ≤ n) (hea : e + 1 ≤ a) (hd : mI M (q + 1) 5 = 0) (h6 : mI M (q + 1) 6 = 0) (hNn : n ≤ Nn) (hka : k + 1 ≤ a) (wt : WTq M T A B D n W pl nq sm) (km : cmK q p Mc M) (hF : FT M (q + 1) ft) (n4 : no34 W k a) (hR : Rc W [50] 0 [56, 57, 34, 50] a) (har : ar + 1 = a) (hd9 : CT Mc (q + 1) p nms → nms.length = c → mI M (q + 1) 3 = 0 → L0 ≤ L ∧ ∃ u : Nat, mI Mc (p + 12) cnt = ((u : Nat) : Int) ∧ cmF p O P L0 cnt u Mc M ∧ (mI M (p + 9) cnt = (if W k = 7 then 1 else 2) ∧ mI M (p + 10) cnt = pl k) ∧ RwC M O P L0 (e + 1) W pl nq sm n nms (k + 1) ar L) : mK M q = 3 ∧ mK M (mR M q 2) = 6 ∧ mK M (mR M q 5) = 30 ∧ ((0 : Int) ≤ 0 ∧ 0 < (mN M (mR M q 5) : Int)) ∧ mK M (mR M (mR M q 2) 15) = 30 ∧ ((0 : Int) ≤ ix ∧ (ix : Int) < (mN M (mR M (mR M q 2) 15) : Int)) ∧ ∀ M59, M59 = mUI M (mR M (mR M q 2) 15) (Int.toNat ix) (mI M (mR M q 5) 0) → mK M59 (mR M59 q 2) = 6 ∧ mK M59 (mR M59 (mR M59 q 2) 16) = 30 ∧ ((0 : Int) ≤ ix ∧ (ix : Int) < (mN M59 (mR M59 (mR M59 q 2) 16) : Int)) ∧ ((0 : Int) ≤ (ix : Int) + 1 ∧ (ix : Int) + 1 < (mN M59 (mR M59 (mR M59 q 2) 16) : Int)) ∧ ∀ M65, M65 = mUI M59 (mR M59 (mR M59 q 2) 16) (Int.toNat ((ix : Int) + 1)) (mI M59 (mR M59 (mR M59 q 2) 16) (Int.toNat ix)) → h_TR_readCommand_160 G (d + 6) q ix 1 0 M65 Q9 := by
  have ap := h.1.apart
  have qp := h.1.2.2.2.2.2.1.2.1
  have neq : ∀ i, i ≤ 9 → q + 1 + i ≠ p + 11 ∧ q + 1 + i ≠ p + 12 := fun i hi => by omega
  have ne1 : q + 1 ≠ p + 11 ∧ q + 1 ≠ p + 12 ∧ O ≠ p + 11 ∧ O ≠ p + 12 ∧ P ≠ p + 11 ∧ P ≠ p + 12 ∧ p ≠ p + 11 ∧ p ≠ p + 12 := by omega
  clear ap qp
  have hLe : L ≤ e := cd.2.2.2.2.2
  have hN : n ≤ 16384 := by have := h.1.1.2.2.2.1.2.2.1; have := h.1.1.2.2.2.1.1.2.2.2.2.2.2.1; omega
  obtain ⟨t0, t1, t2, t3, t4, t5⟩ := h.1.2.1
  obtain ⟨s1, s2, s3, s4⟩ := h.1.2.2.1
  obtain ⟨k6, ⟨-, -, -, -, -, -, -, -, p15, p16, -⟩, ⟨-, -, -, -, -, -, -, -, kp11, kp12, -⟩, ⟨-, -, -, -, -, -, -, -, np11, np12, -⟩⟩ := h.tab
  rw [t3, t4, s3, p15, np11, h21, Int.toNat_natCast]
  refine ⟨t0, k6, s1, ⟨by omega, by omega⟩, kp11, by omega, fun M59 e59 => ?_⟩
  obtain ⟨h59, f59, n59, i59⟩ := h.up (b := 11) ⟨by omega, by omega⟩ e59 ⟨by omega, by omega⟩ (fun _ y => by have := hi y; omega) (fun y => absurd y (by omega))
  obtain ⟨-, ⟨-, -, -, -, -, -, -, -, -, p16', -⟩, ⟨-, -, -, -, -, -, -, -, -, kp12', -⟩, ⟨-, -, -, -, -, -, -, -, -, np12', -⟩⟩ := h59.tab
  rw [h59.1.2.1.2.2.2.1, p16', np12', show Int.toNat ((ix : Int) + 1) = ix + 1 by omega, n59 (p + 12) (by omega)]
  refine ⟨h59.1.1.2.2.2.2.1.1, kp12', by omega, by omega, fun M65 e65 => ?_⟩
  have z59 : mI M59 (q + 1) 3 = mI M (q + 1) 3 := by rw [n59 _ ne1.1]
  obtain ⟨h65, f65, n65, i65⟩ := h59.up (b := 12) (h.1.1.1 _ _).1 e65 ⟨by omega, by omega⟩ (fun y => absurd y (by omega)) (fun _ y => by rw [z59] at y; have := hi y; omega)
  have r65 : mI M65 (q + 1) = mI M (q + 1) := by rw [n65 _ ne1.2.1, n59 _ ne1.1]
  have O65 : mI M65 O = mI M O := by rw [n65 _ ne1.2.2.2.1, n59 _ ne1.2.2.1]
  have P65 : mI M65 P = mI M P := by rw [n65 _ ne1.2.2.2.2.2.1, n59 _ ne1.2.2.2.2.1]
  have q65 : mI M65 p = mI M p := by rw [n65 _ ne1.2.2.2.2.2.2.2, n59 _ ne1.2.2.2.2.2.2.1]
  have cy : CY M65 q p O P V F ns sf ef (e + 1) cnt ix 0 := fun y => by
    obtain ⟨u, eu, gu⟩ := h65.2.2.2 y
    rw [r65] at y
    obtain ⟨y1, y2⟩ := hi y
    refine ⟨y1, y2, u, u, eu, ?_, by omega, by omega, gu.longer (Nat.le_succ_of_le hLe), L, ?_, e, H, F, cd.cg (fun i _ => by rw [O65]) (fun i _ => by rw [P65]), Nat.lt_succ_self _, Nat.le_refl _, fun y hy h7 => ((gu.1 y hy).2 h7).2.2.1⟩
    · rw [← y1, i65, if_pos rfl]
      rw [← y1, i65, if_neg (by omega), n59 (p + 12) (by omega)] at eu
      exact eu
    · rw [n65 (p + 11) (by omega), i59, if_pos y1.symm]
  have wt65 : WTq M65 T A B D n W pl nq sm := (wt.fi h.1 f59).fi h59.1 f65
  have km65 : cmK q p Mc M65 := km.trans ⟨by rw [r65], fun i _ i9 => by rw [n65 _ (neq i i9).2, n59 _ (neq i i9).1], fun i _ => by rw [q65], by rw [n65 _ (by omega), n59 _ (by omega)], by rw [n65 _ (by omega), n59 _ (by omega)]⟩
  have F65 : FT M65 (q + 1) (fst9 ft (0, 0)) := (hF.same (by rw [r65]) (by rw [r65])).none
  have cr65 : cmR9 W pl nq sm Nn n V q p O P L0 c cnt k ar nms Mc a 0 M65 := fun ct hl y => by
    have yM : mI M (q + 1) 3 = 0 := by rw [r65] at y; exact y
    obtain ⟨l0, u, b1, b2, ⟨b3, b4⟩, b5⟩ := hd9 ct hl yM
    obtain ⟨eix, -⟩ := hi yM
    subst eix
    have e9 : ∀ i, i ≠ 11 → i ≠ 12 → mI M65 (p + i) = mI M (p + i) := fun i i11 i12 => by rw [n65 _ (by omega), n59 _ (by omega)]
    have e11 : ∀ t, mI M65 (p + 11) t = if t = ix then ((L : Nat) : Int) else mI M (p + 11) t := fun t => by rw [n65 _ (by omega), i59]
    have e12 : ∀ t, mI M65 (p + 12) t = if t = ix + 1 then mI M (p + 12) ix else mI M (p + 12) t := fun t => by rw [i65, n59 (p + 12) (by omega)]
    have cdA : ∀ L9, cdE O P L9 M M65 := fun L9 t _ => by rw [O65, P65]; exact ⟨rfl, rfl⟩
    refine ⟨e + 1, u, [], ⟨by rw [q65]; exact hp, by omega⟩, b1, b2.trans ⟨fun i i3 i8 => e9 i (by omega) (by omega), fun t ht => by rw [e9 9 (by omega) (by omega), e9 10 (by omega) (by omega), e11, if_neg (by omega)]; exact ⟨rfl, rfl, rfl⟩, fun t ht => by rw [e12, if_neg (by omega)], fun t _ => by rw [e9 13 (by omega) (by omega), e9 14 (by omega) (by omega), e9 15 (by omega) (by omega)]; exact ⟨rfl, rfl, rfl⟩, cdA _, by rw [q65]⟩, ⟨by rw [e9 9 (by omega) (by omega)]; exact b3, by rw [e9 10 (by omega) (by omega)]; exact b4⟩, ⟨L, by rw [e11, if_pos rfl], b5.cg (cdA _) (Nat.le_refl _)⟩, ?_, rfl, fun e' _ _ => by rw [har]; rfl, fun t x hx => absurd hx (by simp)⟩
    rw [e12, if_pos rfl, b2.2.2.1 ix (Nat.le_refl _)]
    exact b1
  have J65 : rcJ T A B D n V O P L0 cnt W pl nq sm Nn Mc q p c k ar nms ft 1 0 a M65 := ⟨wt65, km65, (0, 0), F65, fun _ => by omega, ⟨n4, hka⟩, Or.inl ⟨by decide, Nat.zero_le _, hR, fun ct hl e ne we => ⟨fun u => absurd rfl u, fun _ => by rw [har]; rfl⟩, cr65⟩⟩
  refine mWm.mono (x_rc160 hNn (n + 1) 0 M65 1 (e + 1) 0 a (by omega) (by omega) (i32s (by omega) (by omega)) ⟨(f1.trans f59).trans f65, h65.any (fun _ => Nat.le_succ_of_le hLe), cy, by rw [r65]; exact ha, han, by rw [q65]; exact hp, by rw [r65]; exact hd, by rw [r65]; exact h6, hix⟩ (fun _ => hea) (by omega) (fun _ => by omega) J65) (fun r M9 u => ?_)
  obtain ⟨y, u1, u2⟩ := u
  exact ⟨y, u1, hQ y M9 u2⟩
end TXU
