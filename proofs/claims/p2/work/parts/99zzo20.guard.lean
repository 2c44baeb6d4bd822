section
/-! The class's reader of texts, exactly: a command from its arrow on. -/
section TXU
variable {G : mG} {L0 d z q w T A B D N C n p O P K Ab Be Cm V F c s L L' cnt a a0 j k e ix nbr i b f ar Nn : Nat} {M0 M M' M1 M2 Mc Mc' : mM} {ns : Nat → Int} {sf ef : Nat → Nat} {H : Nat → Nat} {W pl nq E : Nat → Int} {sm : Nat → Nat → Prop} {nms : List nm9} {ft fB fS : Int × Int} {zr : List Int}
theorem hF0 {r : Nat} (fB : Int × Int) (h : FT M r (fst9 ft fB)) : FT M r (fst9 ft (fst9 fB (0, 0))) := by
  rw [← fst9_as]
  exact h.none
theorem x_rc160 (hNn : n ≤ Nn) : ∀ (t i : Nat) (M : mM) (l3 : Int) (L nbr a : Nat), n + 1 ≤ i + t → i ≤ n + 1 → i32 l3 → cmI M0 z q w T A B D N C n p O P K Ab Be Cm V F ns sf ef c cnt L ix nbr a M → (l3 ≠ 0 → L ≤ a) → L ≤ a + 1 → (mI M (q + 1) 3 = 0 → nbr ≤ i) → rcJ T A B D n V O P L0 cnt W pl nq sm Nn Mc q p c k ar nms ft l3 i a M → h_TR_readCommand_160 G (d + 6) q ix l3 i M (fun x M' => cmQ9 M0 z q w T A B D N C n p O P K Ab Be Cm V F ns sf ef c x M' ∧ cmV W pl nq sm Nn n V O P L0 cnt Mc q p c k ar ix nms ft x M') := by
  intro t
  induction t with
  | zero =>
    intro i M l3 L nbr a ht hi i3 h hLa hLa1 hn J
    have h1 := h.2.1
    have hix := h.2.2.2.2.2.2.2.2
    have hN : n ≤ 16384 := by have := h1.1.1.2.2.2.1.2.2.1; have := h1.1.1.2.2.2.1.1.2.2.2.2.2.2.1; omega
    obtain ⟨t0, t1, t2, t3, t4, t5⟩ := h1.1.2.1
    have r0 := h1.1.1.2.2.1.1
    have w1 := h1.1.1.2.2.2.1.1.1
    have w2 := h1.1.1.2.2.2.1.2.1
    refine k_TR_readCommand_160 h1.1.1.1 (i32s (by omega) (by omega)) i3 (i32s (by omega) (by omega)) ?_
    rw [t1, r0, w2, t3]
    obtain ⟨wt, km, fB, hF, hb8, ⟨n4, hka'⟩, J⟩ := J
    have a2 := h.2.2.2.2.1
    have J := J.resolve_left (fun u => by
      have := u.2.1
      clear J
      omega)
    exact ⟨t0, h1.1.1.2.1.1, w1, fun _ => ⟨h1.1.1.2.2.2.2.1.1, ⟨by omega, by omega⟩, fun M78 e78 => x_rc_end h hLa1 e78 wt km hF n4 J.2.1 J.2.2.1 hb8 J.2.2.2⟩, fun y => absurd (Or.inl (by omega)) y⟩
  | succ t ih =>
    intro i M l3 L nbr a ht hi i3 h hLa hLa1 hn J
    have h1 := h.2.1
    have hix := h.2.2.2.2.2.2.2.2
    have hN : n ≤ 16384 := by have := h1.1.1.2.2.2.1.2.2.1; have := h1.1.1.2.2.2.1.1.2.2.2.2.2.2.1; omega
    obtain ⟨t0, t1, t2, t3, t4, t5⟩ := h1.1.2.1
    have r0 := h1.1.1.2.2.1.1
    have w1 := h1.1.1.2.2.2.1.1.1
    have w2 := h1.1.1.2.2.2.1.2.1
    have nxt : ∀ (M1 : mM) (l3 : Int) (L' nbr' a' : Nat), i32 l3 → cmI M0 z q w T A B D N C n p O P K Ab Be Cm V F ns sf ef c cnt L' ix nbr' a' M1 → (l3 ≠ 0 → L' ≤ a') → L' ≤ a' + 1 → (mI M1 (q + 1) 3 = 0 → nbr' ≤ i + 1) → rcJ T A B D n V O P L0 cnt W pl nq sm Nn Mc q p c k ar nms ft l3 (i + 1) a' M1 → i < n + 1 → h_TR_readCommand_160 G (d + 6) q ix l3 ((i : Int) + 1) M1 (fun x M' => cmQ9 M0 z q w T A B D N C n p O P K Ab Be Cm V F ns sf ef c x M' ∧ cmV W pl nq sm Nn n V O P L0 cnt Mc q p c k ar ix nms ft x M') := fun M1 l3 L' nbr' a' j1 j2 j3 j4 j5 jj j6 => by
      rw [show ((i : Int) + 1) = ((i + 1 : Nat) : Int) by omega]
      exact ih (i + 1) M1 l3 L' nbr' a' (by omega) (by omega) j1 j2 j3 j4 j5 jj
    obtain ⟨wt, km, fB, hF, hb8, ⟨n4, hka'⟩, J⟩ := J
    have a2 := h.2.2.2.2.1
    refine k_TR_readCommand_160 h1.1.1.1 (i32s (by clear J; omega) (by clear J; omega)) i3 (i32s (by clear J; omega) (by clear J; omega)) ?_
    rw [t1, r0, w2, t3]
    by_cases l30 : l3 = 0
    · have J := J.resolve_left (fun u => u.1 l30)
      exact ⟨t0, h1.1.1.2.1.1, w1, fun _ => ⟨h1.1.1.2.2.2.2.1.1, ⟨by omega, by omega⟩, fun M78 e78 => x_rc_end h hLa1 e78 wt km hF n4 J.2.1 J.2.2.1 hb8 J.2.2.2⟩, fun y => absurd (Or.inr l30) y⟩
    obtain ⟨-, hia, hR, bk, cr⟩ := J.resolve_right (fun u => l30 u.1)
    clear J
    refine ⟨t0, h1.1.1.2.1.1, w1, fun y => absurd y (by omega), fun y => ?_⟩
    have i1n : i < n + 1 := by
      by_cases u : ((n : Int) + 1 ≤ i)
      · exact absurd (Or.inl u) y
      · omega
    refine ⟨fun y8 => x_rc201 h (hLa l30) (by omega) hNn wt km (by rw [if_neg (by omega)]; exact hF0 fB hF) hb8 hia hka' n4 hR bk cr (fun u => ⟨hn u, by omega⟩) (fun M1 l3 L' nbr' a' j1 j2 j3 j4 j5 jj => nxt M1 l3 L' nbr' a' j1 j2 j3 j4 j5 jj i1n), fun y8 => (s_RR_here h1.1.1 h.2.2.2.1 h.2.2.2.2.1).mono (fun x89 M88 kk => ?_)⟩
    obtain ⟨e88, ex89, x0, x1⟩ := kk
    subst e88
    refine ⟨i32s (by omega) (by omega), h1.1.1.1, h1.1.1.2.1.1, (x_tx_note (x := 5) (i32s (by omega) (by omega)) (by omega) (i32s (by omega) (by omega)) h1).mono (fun M92 kk => ?_)⟩
    obtain ⟨o92, h92, x92, u3, u4, u5, u6⟩ := kk
    have F92 := u6 _ hF
    rw [ex89, (wt.1 a a2).2.2, fst9_as] at F92
    obtain ⟨⟨np0, np1, -, -⟩, ⟨nO0, nO1, -, -, -⟩, nP0, nP1, -, -, -⟩ := h1.1.ne
    have pq1 : ∀ i, i ≤ 15 → p + i ≠ q + 1 := fun i hi => by
      have qp := h1.1.2.2.2.2.2.1.2.1
      omega
    have cr92 := cr.cg (M' := M92) (fun u => absurd u u3) (fun i _ i15 => u5 _ (pq1 i i15)) (by rw [u5 p np1]) (by rw [u5 p np1]) (u5 O nO1) (u5 P nP1)
    obtain ⟨j1, j2, j3, j4, j5, j6, j7, j8, j9⟩ := h
    refine ⟨o92, x_rc201 (nbr := nbr) ⟨j1.trans x92.1, h92, j3.tx x92.2, by rw [u4 2 (by decide) (by decide)]; exact j4, j5, by rw [u5 p np1]; exact j6, by rw [u4 5 (by decide) (by decide)]; exact j7, by rw [u4 6 (by decide) (by decide)]; exact j8, j9⟩ (hLa l30) (by omega) hNn (wt.fi h1.1 x92.1) (km.trans (cmK.tx x92.2)) (by rw [if_pos (by omega)]; exact F92) hb8 hia hka' n4 hR bk cr92 (fun u => absurd u u3) (fun M1 l3 L' nbr' a' j1 j2 j3 j4 j5 jj => nxt M1 l3 L' nbr' a' j1 j2 j3 j4 j5 jj i1n)⟩
/-- the guard has been read: the command begins -/
theorem x_rc_guard {Q9 : Int → mM → Prop} (hQ : ∀ x M9, cmQ9 M0 z q w T A B D N C n p O P K Ab Be Cm V F ns sf ef c x M9 ∧ cmV W pl nq sm Nn n V O P L0 cnt Mc q p c k ar ix nms ft x M9 → Q9 x M9) (f1 : FI (txS q p O P) M0 M) (h : TX M z q w T A B D N C n p O P K Ab Be Cm V F ns sf ef c cnt L) (hix : ix ≤ 59) (hi : mI M (q + 1) 3 = 0 → ix = cnt ∧ cnt < 60) (cd : Cod M O P V F ns L e H 1) (h21 : mI M (q + 21) 0 = ((L : Nat) : Int)) (hp : mI M p 2 = ((e + 1 : Nat) : Int)) (ha : mI M (q + 1) 2 = ((a : Nat) : Int)) (han : a ≤ n) (hea : e + 1 ≤ a) (hd : mI M (q + 1) 5 = 0) (h6 : mI M (q + 1) 6 = 0) (hNn : n ≤ Nn) (hka : k + 1 ≤ a) (wt : WTq M T A B D n W pl nq sm) (km : cmK q p Mc M) (hF : FT M (q + 1) ft) (n4 : no34 W k a) (hR : Rc W [50] 0 [56, 57, 34, 50] a) (har : ar + 1 = a) (hd9 : CT Mc (q + 1) p nms → nms.length = c → mI M (q + 1) 3 = 0 → L0 ≤ L ∧ ∃ u : Nat, mI Mc (p + 12) cnt = ((u : Nat) : Int) ∧ cmF p O P L0 cnt u Mc M ∧ (mI M (p + 9) cnt = (if W k = 7 then 1 else 2) ∧ mI M (p + 10) cnt = pl k) ∧ RwC M O P L0 (e + 1) W pl nq sm n nms (k + 1) ar L) : mK M q = 3 ∧ mK M (mR M q 2) = 6 ∧ mK M (mR M q 5) = 30 ∧ ((0 : Int) ≤ 0 ∧ 0 < (mN M (mR M q 5) : Int)) ∧ mK M (mR M (mR M q 2) 15) = 30 ∧ ((0 : Int) ≤ ix ∧ (ix : Int) < (mN M (mR M (mR M q 2) 15) : Int)) ∧ ∀ M59, M59 = mUI M (mR M (mR M q 2) 15) (Int.toNat ix) (mI M (mR M q 5) 0) → mK M59 (mR M59 q 2) = 6 ∧ mK M59 (mR M59 (mR M59 q 2) 16) = 30 ∧ ((0 : Int) ≤ ix ∧ (ix : Int) < (mN M59 (mR M59 (mR M59 q 2) 16) : Int)) ∧ ((0 : Int) ≤ (ix : Int) + 1 ∧ (ix : Int) + 1 < (mN M59 (mR M59 (mR M59 q 2) 16) : Int)) ∧ ∀ M65, M65 = mUI M59 (mR M59 (mR M59 q 2) 16) (Int.toNat ((ix : Int) + 1)) (mI M59 (mR M59 (mR M59 q 2) 16) (Int.toNat ix)) → h_TR_readCommand_160 G (d + 6) q ix 1 0 M65 Q9 := by
  have ap := h.1.apart
  have qp := h.1.2.2.2.2.2.1.2.1
  have neq : ∀ i, i ≤ 9 → q + 1 + i ≠ p + 11 ∧ q + 1 + i ≠ p + 12 := fun i hi => by omega
  have ne1 : q + 1 ≠ p + 11 ∧ q + 1 ≠ p + 12 ∧ O ≠ p + 11 ∧ O ≠ p + 12 ∧ P ≠ p + 11 ∧ P ≠ p + 12 ∧ p ≠ p + 11 ∧ p ≠ p + 12 := by omega
  clear ap qp
  have hLe : L ≤ e := cd.2.2.2.2.2
  have hN : n ≤ 16384 := by have := h.1.1.2.2.2.1.2.2.1; have := h.1.1.2.2.2.1.1.2.2.2.2.2.2.1; omega
  obtain ⟨t0, t1, t2, t3, t4, t5⟩ := h.1.2.1
  obtain ⟨s1, s2, s3, s4⟩ := h.1.2.2.1
  obtain ⟨k6, ⟨-, -, -, -, -, -, -, -, p15, p16, -⟩, ⟨-, -, -, -, -, -, -, -, kp11, kp12, -⟩, ⟨-, -, -, -, -, -, -, -, np11, np12, -⟩⟩ := h.tab
  rw [t3, t4, s3, p15, np11, h21, Int.toNat_natCast]
  refine ⟨t0, k6, s1, ⟨by omega, by omega⟩, kp11, by omega, fun M59 e59 => ?_⟩
  obtain ⟨h59, f59, n59, i59⟩ := h.up (b := 11) ⟨by omega, by omega⟩ e59 ⟨by omega, by omega⟩ (fun _ y => by have := hi y; omega) (fun y => absurd y (by omega))
  obtain ⟨-, ⟨-, -, -, -, -, -, -, -, -, p16', -⟩, ⟨-, -, -, -, -, -, -, -, -, kp12', -⟩, ⟨-, -, -, -, -, -, -, -, -, np12', -⟩⟩ := h59.tab
  rw [h59.1.2.1.2.2.2.1, p16', np12', show Int.toNat ((ix : Int) + 1) = ix + 1 by omega, n59 (p + 12) (by omega)]
  refine ⟨h59.1.1.2.2.2.2.1.1, kp12', by omega, by omega, fun M65 e65 => ?_⟩
  have z59 : mI M59 (q + 1) 3 = mI M (q + 1) 3 := by rw [n59 _ ne1.1]
  obtain ⟨h65, f65, n65, i65⟩ := h59.up (b := 12) (h.1.1.1 _ _).1 e65 ⟨by omega, by omega⟩ (fun y => absurd y (by omega)) (fun _ y => by rw [z59] at y; have := hi y; omega)
  have r65 : mI M65 (q + 1) = mI M (q + 1) := by rw [n65 _ ne1.2.1, n59 _ ne1.1]
  have O65 : mI M65 O = mI M O := by rw [n65 _ ne1.2.2.2.1, n59 _ ne1.2.2.1]
  have P65 : mI M65 P = mI M P := by rw [n65 _ ne1.2.2.2.2.2.1, n59 _ ne1.2.2.2.2.1]
  have q65 : mI M65 p = mI M p := by rw [n65 _ ne1.2.2.2.2.2.2.2, n59 _ ne1.2.2.2.2.2.2.1]
  have cy : CY M65 q p O P V F ns sf ef (e + 1) cnt ix 0 := fun y => by
    obtain ⟨u, eu, gu⟩ := h65.2.2.2 y
    rw [r65] at y
    obtain ⟨y1, y2⟩ := hi y
    refine ⟨y1, y2, u, u, eu, ?_, by omega, by omega, gu.longer (Nat.le_succ_of_le hLe), L, ?_, e, H, F, cd.cg (fun i _ => by rw [O65]) (fun i _ => by rw [P65]), Nat.lt_succ_self _, Nat.le_refl _, fun y hy h7 => ((gu.1 y hy).2 h7).2.2.1⟩
    · rw [← y1, i65, if_pos rfl]
      rw [← y1, i65, if_neg (by omega), n59 (p + 12) (by omega)] at eu
      exact eu
    · rw [n65 (p + 11) (by omega), i59, if_pos y1.symm]
  have wt65 : WTq M65 T A B D n W pl nq sm := (wt.fi h.1 f59).fi h59.1 f65
  have km65 : cmK q p Mc M65 := km.trans ⟨by rw [r65], fun i _ i9 => by rw [n65 _ (neq i i9).2, n59 _ (neq i i9).1], fun i _ => by rw [q65], by rw [n65 _ (by omega), n59 _ (by omega)], by rw [n65 _ (by omega), n59 _ (by omega)]⟩
  have F65 : FT M65 (q + 1) (fst9 ft (0, 0)) := (hF.same (by rw [r65]) (by rw [r65])).none
  have cr65 : cmR9 W pl nq sm Nn n V q p O P L0 c cnt k ar nms Mc a 0 M65 := fun ct hl y => by
    have yM : mI M (q + 1) 3 = 0 := by rw [r65] at y; exact y
    obtain ⟨l0, u, b1, b2, ⟨b3, b4⟩, b5⟩ := hd9 ct hl yM
    obtain ⟨eix, -⟩ := hi yM
    subst eix
    have e9 : ∀ i, i ≠ 11 → i ≠ 12 → mI M65 (p + i) = mI M (p + i) := fun i i11 i12 => by rw [n65 _ (by omega), n59 _ (by omega)]
    have e11 : ∀ t, mI M65 (p + 11) t = if t = ix then ((L : Nat) : Int) else mI M (p + 11) t := fun t => by rw [n65 _ (by omega), i59]
    have e12 : ∀ t, mI M65 (p + 12) t = if t = ix + 1 then mI M (p + 12) ix else mI M (p + 12) t := fun t => by rw [i65, n59 (p + 12) (by omega)]
    have cdA : ∀ L9, cdE O P L9 M M65 := fun L9 t _ => by rw [O65, P65]; exact ⟨rfl, rfl⟩
    refine ⟨e + 1, u, [], ⟨by rw [q65]; exact hp, by omega⟩, b1, b2.trans ⟨fun i i3 i8 => e9 i (by omega) (by omega), fun t ht => by rw [e9 9 (by omega) (by omega), e9 10 (by omega) (by omega), e11, if_neg (by omega)]; exact ⟨rfl, rfl, rfl⟩, fun t ht => by rw [e12, if_neg (by omega)], fun t _ => by rw [e9 13 (by omega) (by omega), e9 14 (by omega) (by omega), e9 15 (by omega) (by omega)]; exact ⟨rfl, rfl, rfl⟩, cdA _, by rw [q65]⟩, ⟨by rw [e9 9 (by omega) (by omega)]; exact b3, by rw [e9 10 (by omega) (by omega)]; exact b4⟩, ⟨L, by rw [e11, if_pos rfl], b5.cg (cdA _) (Nat.le_refl _)⟩, ?_, rfl, fun e' _ _ => by rw [har]; rfl, fun t x hx => absurd hx (by simp)⟩
    rw [e12, if_pos rfl, b2.2.2.1 ix (Nat.le_refl _)]
    exact b1
  have J65 : rcJ T A B D n V O P L0 cnt W pl nq sm Nn Mc q p c k ar nms ft 1 0 a M65 := ⟨wt65, km65, (0, 0), F65, fun _ => by omega, ⟨n4, hka⟩, Or.inl ⟨by decide, Nat.zero_le _, hR, fun ct hl e ne we => ⟨fun u => absurd rfl u, fun _ => by rw [har]; rfl⟩, cr65⟩⟩
  refine mWm.mono (x_rc160 hNn (n + 1) 0 M65 1 (e + 1) 0 a (by omega) (by omega) (i32s (by omega) (by omega)) ⟨(f1.trans f59).trans f65, h65.any (fun _ => Nat.le_succ_of_le hLe), cy, by rw [r65]; exact ha, han, by rw [q65]; exact hp, by rw [r65]; exact hd, by rw [r65]; exact h6, hix⟩ (fun _ => hea) (by omega) (fun _ => by omega) J65) (fun r M9 u => ?_)
  obtain ⟨y, u1, u2⟩ := u
  exact ⟨y, u1, hQ y M9 u2⟩
end TXU
end
section
/-! The class's reader of texts, exactly: readCommand. -/
section TXV
variable {G : mG} {L0 d z q w T A B D N C n p O P K Ab Be Cm V F c s L L' cnt a j e nbr i b f Nn : Nat} {M0 M M' M1 M2 Mc Mc' : mM} {ns : Nat → Int} {sf ef : Nat → Nat} {H : Nat → Nat} {W pl nq E : Nat → Int} {sm : Nat → Nat → Prop} {nms : List nm9} {ft fB fS : Int × Int} {zr : List Int}
/-- a command has been read, exactly -/
def ccV (W pl nq : Nat → Int) (sm : Nat → Nat → Prop) (Nn n V O P L0 : Nat) (Mc : mM) (q p c cnt a : Nat) (nms : List nm9) (ft : Int × Int) (x : Int) (M' : mM) : Prop := ∃ a' : Nat, mI M' (q + 1) 2 = a' ∧ ((x = 0 ∧ Rf W [50] 0 a') ∨ (x = 1 ∧ ∃ (ar ix : Nat) (E : Nat → Int), (cnt < 60 → ix = cnt) ∧ Eo W 6 (a + 1) ar ∧ W ar = 17 ∧ (CT Mc (q + 1) p nms → nms.length = c → E = E9 sm nms 0) ∧ cmV W pl nq sm Nn n V O P L0 cnt Mc q p c a ar ix nms (fst9 ft (vrf W E pl 1 (a + 1) ar)) 1 M'))
theorem x_rc27 {l1 : Int} (hM : mI M (q + 1) 3 = 0 → M = Mc) (hl1 : l1 = 8 ↔ W a = 7) (f1 : FI (txS q p O P) M0 M) (i1 : i32 l1) (h : TX M z q w T A B D N C n p O P K Ab Be Cm V F ns sf ef c cnt L) (h60 : cnt = 60 → mI M (q + 1) 3 ≠ 0) (ha : mI M (q + 1) 2 = ((a : Nat) : Int)) (han : a < n) (hs : mI M p 2 = ((L : Nat) : Int)) (hsa : L ≤ a) (hd : mI M (q + 1) 5 = 0) (hNn : n ≤ Nn) (wt : WTq M T A B D n W pl nq sm) (km : cmK q p Mc M) (hF : FT M (q + 1) ft) (hW : W a = 7 ∨ W a = 8) (hR : Rc W [50] 0 [50] a) : h_TR_readCommand_27 G (d + 6) q l1 M (fun x M' => cmQ9 M0 z q w T A B D N C n p O P K Ab Be Cm V F ns sf ef c x M' ∧ ccV W pl nq sm Nn n V O P L Mc q p c cnt a nms ft x M') := by
  have ap := h.1.apart
  have qp := h.1.2.2.2.2.2.1.2.1
  have rc1 : Rc W [50] 0 [61, 17, 56, 57, 34, 50] (a + 1) := by
    refine hR.trans (Rc.one (mst_n (by decide) (by decide) (ys := [61, 17, 56, 57, 34, 50]) (t := 1) ?_ (Or.inl (by decide))))
    rw [ex_50]
    unfold ex50
    rw [if_neg (by have h7 := hW; omega), if_neg (by have h7 := hW; omega), if_neg (by have h7 := hW; omega), if_pos hW]
  have neq : ∀ i, i ≤ 9 → (q + 1 + i ≠ p + 9 ∧ q + 1 + i ≠ p + 10) := fun i hi => by omega
  have ne1 : q + 1 ≠ p + 9 ∧ q + 1 ≠ p + 10 ∧ p ≠ p + 9 ∧ p ≠ p + 10 ∧ p ≠ q + 1 ∧ q + 21 ≠ q + 1 := by omega
  clear ap qp
  have hN : n ≤ 16384 := by have := h.1.1.2.2.2.1.2.2.1; have := h.1.1.2.2.2.1.1.2.2.2.2.2.2.1; omega
  obtain ⟨t0, t1, t2, t3, t4, t5⟩ := h.1.2.1
  have c12 := h.2.2.1.1
  have c60 := h.2.2.1.2
  obtain ⟨k6, ⟨-, -, -, -, -, -, p13, p14, -⟩, ⟨-, -, -, -, -, -, kp9, kp10, -⟩, ⟨-, -, -, -, -, -, np9, np10, -⟩⟩ := h.tab
  obtain ⟨ix, eix, hix, hcx⟩ : ∃ ix : Nat, (if (59 : Int) < (cnt : Int) then (59 : Int) else (cnt : Int)) = ix ∧ ix ≤ 59 ∧ (cnt < 60 → ix = cnt) := by
    by_cases y : (59 : Int) < cnt
    · exact ⟨59, by rw [if_pos y]; rfl, by omega, by omega⟩
    · exact ⟨cnt, by rw [if_neg y], by omega, fun _ => rfl⟩
  refine k_TR_readCommand_27 h.1.1.1 i1 ?_
  rw [t3, c12, p13, np9, eix, Int.toNat_natCast]
  refine ⟨t0, k6, fun v16 e16 => ⟨kp9, by omega, fun M22 e22 => ?_⟩⟩
  have i16 : i32 v16 := by rw [e16]; split <;> exact i32s (by omega) (by omega)
  obtain ⟨h22, f22, n22, i22⟩ := h.up (b := 9) i16 e22 ⟨by omega, by omega⟩ (fun y => absurd y (by omega)) (fun y => absurd y (by omega))
  have r22 := n22 (q + 1) ne1.1
  have a22 : mI M22 (q + 1) 2 = ((a : Nat) : Int) := by rw [r22]; exact ha
  obtain ⟨-, ⟨-, -, -, -, -, -, -, p14', -⟩, ⟨-, -, -, -, -, -, -, kp10', -⟩, ⟨-, -, -, -, -, -, -, np10', -⟩⟩ := h22.tab
  rw [h22.1.2.1.2.1, h22.1.2.1.2.2.2.1, p14']
  refine ⟨h22.1.1.2.2.2.2.1.1, h22.1.1.2.1.1, (s_RR_here h22.1.1 a22 (by omega)).mono (fun x27 M26 k => ?_)⟩
  obtain ⟨e26, ex27, x0, x1⟩ := k
  subst e26
  have e27 : x27 = pl a := by rw [ex27]; exact ((wt.fi h.1 f22).1 a (by omega)).2.2
  rw [np10']
  refine ⟨i32s (by omega) (by omega), h22.1.1.1, kp10', by omega, fun M31 e31 => ?_⟩
  obtain ⟨h31, f31, n31, i31⟩ := h22.up (b := 10) (i32s (by omega) (by omega)) e31 ⟨by omega, by omega⟩ (fun y => absurd y (by omega)) (fun y => absurd y (by omega))
  have r31 : mI M31 (q + 1) = mI M (q + 1) := by rw [n31 (q + 1) ne1.2.1, r22]
  have p31 : mI M31 p = mI M p := by rw [n31 p ne1.2.2.2.1, n22 p ne1.2.2.1]
  rw [h31.1.2.1.2.1, r31, ha]
  refine ⟨h31.1.2.1.1, h31.1.1.2.1.1, ⟨by omega, by omega⟩, fun M36 e36 => ?_⟩
  obtain ⟨h36, x36, g36⟩ := tx_ui h31 ⟨by omega, by omega⟩ e36 (Or.inr (Or.inr (Or.inr (Or.inl ⟨rfl, Or.inl rfl⟩))))
  rw [h36.1.2.1.2.1]
  refine ⟨h36.1.1.2.1.1, fun M39 e39 => ?_⟩
  obtain ⟨h39, x39, g39⟩ := tx_ui h36 (i32s (by omega) (by omega)) e39 (Or.inr (Or.inr (Or.inr (Or.inl ⟨rfl, Or.inr (Or.inr rfl)⟩))))
  have a39 : mI M39 (q + 1) 2 = ((a + 1 : Nat) : Int) := by rw [g39, if_neg (fun u => absurd u.2 (by first | decide | simp)), g36, if_pos ⟨rfl, rfl⟩]; rfl
  have d39 : mI M39 (q + 1) 5 = ((0 : Nat) : Int) := by rw [g39, if_neg (fun u => absurd u.2 (by first | decide | simp)), g36, if_neg (fun u => absurd u.2 (by first | decide | simp)), r31]; exact hd
  have c39 : mI M39 (q + 1) 6 = 0 := by rw [g39, if_pos ⟨rfl, rfl⟩]
  have z39 : mI M39 (q + 1) 3 = mI M (q + 1) 3 := by rw [g39, if_neg (fun u => absurd u.2 (by first | decide | simp)), g36, if_neg (fun u => absurd u.2 (by first | decide | simp)), r31]
  have p39 : mI M39 p 2 = ((L : Nat) : Int) := by rw [g39, if_neg (fun u => ne1.2.2.2.2.1 u.1), g36, if_neg (fun u => ne1.2.2.2.2.1 u.1), p31]; exact hs
  have f39 : FI (txS q p O P) M0 M39 := (((f1.trans f22).trans f31).trans x36.1).trans x39.1
  have km39 : cmK q p Mc M39 := by
    refine ((km.trans (M2 := M31) ⟨by rw [r31], fun i _ i9 => by rw [n31 _ (neq i i9).2, n22 _ (neq i i9).1], fun i _ => by rw [p31], by rw [n31 _ (by omega), n22 _ (by omega)], by rw [n31 _ (by omega), n22 _ (by omega)]⟩).trans (cmK.tx x36.2)).trans (cmK.tx x39.2)
  have wt39 : WTq M39 T A B D n W pl nq sm := (((wt.fi h.1 f22).fi h22.1 f31).fi h31.1 x36.1).fi h36.1 x39.1
  have F39 : FT M39 (q + 1) ft := hF.same z39 (by rw [g39, if_neg (fun u => absurd u.2 (by first | decide | simp)), g36, if_neg (fun u => absurd u.2 (by first | decide | simp)), r31])
  have nOP : O ≠ p + 9 ∧ O ≠ p + 10 ∧ O ≠ q + 1 ∧ P ≠ p + 9 ∧ P ≠ p + 10 ∧ P ≠ q + 1 := by
    have ap := h.1.apart
    have qp := h.1.2.2.2.2.2.1.2.1
    exact ⟨u7b ap.2.2.2.1 (by decide) (by decide) (by decide), u7b ap.2.2.2.1 (by decide) (by decide) (by decide), u7c ap.2.1 (by decide), u7b ap.2.2.2.2.1 (by decide) (by decide) (by decide), u7b ap.2.2.2.2.1 (by decide) (by decide) (by decide), u7c ap.2.2.1 (by decide)⟩
  have pq1 : ∀ i, i ≤ 15 → p + i ≠ q + 1 := fun i hi => by
    have qp := h.1.2.2.2.2.2.1.2.1
    omega
  have g9 : ∀ b, b ≠ q + 1 → mI M39 b = mI M31 b := fun b hb => by
    funext t
    rw [g39, if_neg (fun u => hb u.1), g36, if_neg (fun u => hb u.1)]
  have e39 : (∀ i, 3 ≤ i → i ≤ 15 → i ≠ 9 → i ≠ 10 → mI M39 (p + i) = mI M (p + i)) ∧ (∀ t, mI M39 (p + 9) t = if t = ix then (if W a = 7 then 1 else 2) else mI M (p + 9) t) ∧ (∀ t, mI M39 (p + 10) t = if t = ix then pl a else mI M (p + 10) t) ∧ mI M39 O = mI M O ∧ mI M39 P = mI M P ∧ mI M39 p = mI M p := by
    refine ⟨fun i i3 i15 i9 i10 => by rw [g9 _ (pq1 i i15), n31 _ (by omega), n22 _ (by omega)], fun t => ?_, fun t => ?_, by rw [g9 O nOP.2.2.1, n31 O nOP.2.1, n22 O nOP.1], by rw [g9 P nOP.2.2.2.2.2, n31 P nOP.2.2.2.2.1, n22 P nOP.2.2.2.1], by rw [g9 p ne1.2.2.2.2.1, p31]⟩
    · rw [g9 _ (pq1 9 (by omega)), n31 _ (by omega), i22, e16]
      by_cases w7 : W a = 7
      · rw [if_pos (hl1.mpr w7), if_pos w7]
      · rw [if_neg (fun u => w7 (hl1.mp u)), if_neg w7]
    · rw [g9 _ (pq1 10 (by omega)), i31, e27, n22 _ (by omega)]
  clear f22 n22 f31 n31 x36 g36 x39 g39 r22 r31 a22 p31 h22 h31 h36
  refine (x_TR_readItemRule (k := 0) (d0 := 0) (nms := nms) (ft := ft) (zz := [17, 56, 57, 34, 50]) (by omega) (i32s (by omega) (by omega)) h39 a39 (by omega) p39 (Nat.le_refl _) (by omega) d39 (by omega) h39.2.1.2.2.1.nk wt39 F39 (by rw [d39]; rfl) (hz_t (by decide)) rc1).mono (fun x42 M41 kk => ?_)
  obtain ⟨⟨h41, x41, ⟨c41, q41, t41⟩, k41⟩, -, E, Cf, ec, a9, ea9, iv⟩ := kk
  have lf9 : CT Mc (q + 1) p nms → nms.length = c → LfC W nq sm n nms Cf := fun ct hl => ECq.lf (by rw [c39] at ec; exact ec) (ct.cm km39) hl (fun i hi => (h39.2.1.2.2.1.2.2 i hi).2.2)
  have ec : CT Mc (q + 1) p nms → nms.length = c → E = E9 sm nms 0 := fun ct hl => by
    have u := (ec.2 (ct.cm km39) hl).1
    rw [c39, if_pos rfl] at u
    exact u
  have i42 : i32 x42 := m_b32 (k41.imp (fun u => u.1) (fun u => u.1))
  refine ⟨i42, h41.1.1.1, fun y => ?_, fun y => ?_⟩
  · obtain ⟨-, u⟩ := k41.resolve_right (fun u => by rw [y] at u; exact absurd u.1 (by first | decide | simp))
    refine ⟨⟨f39.trans x41.1, Or.inl ⟨rfl, L, cnt, h41, u⟩⟩, a9, ea9, Or.inl ⟨rfl, ?_⟩⟩
    rcases iv with ⟨-, iv⟩ | ⟨iv, -⟩
    · exact iv
    · rw [y] at iv; exact absurd iv (by first | decide | simp)
  obtain ⟨-, e, H, a', cd, p41, a41, aa, an, ea, d41⟩ := k41.resolve_left (fun u => y u.1)
  clear k41
  obtain ⟨-, L9, v1, v2, v3, v4, v5, v6, v7⟩ := iv.resolve_left (fun u => y u.1)
  clear iv
  have ea9' : a' = a9 := by rw [a41] at ea9; omega
  subst ea9'
  have F41 : FT M41 (q + 1) (fst9 ft (vrf W E pl 1 (a + 1) a')) := irv_ft (x := 0) (l2 := 2) (tr := 1) v5 (by simp)
  have wt41 : WTq M41 T A B D n W pl nq sm := wt39.fi h39.1 x41.1
  clear v4 v5
  rw [h41.1.2.1.2.1]
  refine ⟨h41.1.2.1.1, h41.1.1.2.1.1, (x_tx_accept (x := 18) (i32s (by omega) (by omega)) (by omega) h41 a41 an).mono (fun x49 M48 kk => ?_)⟩
  obtain ⟨i49, o48, -, h48, x48, k48, r48, b48, m48⟩ := kk
  refine ⟨i49, o48, fun y => ?_, fun y => ?_⟩
  · rw [(k48.resolve_left (fun u => by rw [y] at u; exact absurd u.1 (by first | decide | simp))).2]
    exact ⟨⟨f39.trans x41.1, Or.inl ⟨rfl, L, cnt, h41, a', a41, an⟩⟩, a', a41, Or.inl ⟨rfl, rf_t v7 (fun u => m48 y ((wt41.is an (by decide) (by decide)).mpr u)) (by decide)⟩⟩
  obtain ⟨-, e17, a48, an48⟩ := k48.resolve_right (fun u => y u.1)
  have w17 : W a' = 17 := (wt41.is an (by decide) (by decide)).mp e17
  have n4 : no34 W a (a' + 1) := (((no34.sc (W := W) (k := a) (a := a) ⟨Nat.le_refl _, fun j j1 j2 => absurd j2 (by omega)⟩ (by omega)).eo v3).sc (by rw [w17]; decide))
  obtain ⟨-, ⟨nO0, nO1, -, -, -⟩, nP0, nP1, -, -, -⟩ := h41.1.ne
  refine x_rc_guard (nms := nms) (k := a) (ar := a') (Mc := Mc) (Nn := Nn) (W := W) (pl := pl) (sm := sm) (nq := nq) (ft := fst9 ft (vrf W E pl 1 (a + 1) a')) (fun x M9 u => ?_) ((f39.trans x41.1).trans x48.1) h48 hix (fun t => ?_) (cd.cg (fun i _ => by rw [b48 O nO1]) (fun i _ => by rw [b48 P nP1])) (by rw [b48 _ ne1.2.2.2.2.2, t41, if_pos rfl]) (by rw [b48 p ne1.2.2.2.2.1]; exact p41) a48 an48 (by omega) (by rw [r48 5 (by decide), d41]; exact d39) (by rw [r48 6 (by decide), c41]; exact c39) hNn (by omega) (wt41.fi h41.1 x48.1) ((km39.trans (cmK.tx x41.2)).trans (cmK.tx x48.2)) (F41.same (r48 3 (by decide)) (r48 4 (by decide))) n4 (rc_t v7 w17 (by decide)) rfl (L0 := L) ?_
  rotate_left 2
  · intro ct hl z48
    have z41 : mI M41 (q + 1) 3 = 0 := by rw [r48 3 (by decide)] at z48; exact z48
    have z39' : mI M39 (q + 1) 3 = 0 := Classical.byContradiction (fun t2 => x41.2.2.1 t2 z41)
    have zM : mI M (q + 1) 3 = 0 := by rw [← z39]; exact z39'
    have eM := hM zM
    obtain ⟨u, hu, -⟩ := h.2.2.2 zM
    have c6 : cnt < 60 := by
      have : cnt ≠ 60 := fun u => h60 u zM
      omega
    have eix2 := hcx c6
    have tp := x41.2.2.2.2.2.1
    have to := x41.2.2.2.2.2.2
    have pp : ∀ i, 3 ≤ i → i ≤ 15 → mI M48 (p + i) = mI M39 (p + i) := fun i i3 i15 => by rw [b48 _ (pq1 i i15), tp i i3 i15]
    have eL9 : L9 = e := by rw [p41] at v1; omega
    refine ⟨Nat.le_refl _, u, by rw [← eM]; exact hu, ?_, ⟨?_, ?_⟩, ?_⟩
    · rw [← eM]
      refine ⟨fun i i3 i8 => by rw [pp i i3 (by omega), e39.1 i i3 (by omega) (by omega) (by omega)], fun t ht => ⟨by rw [pp 9 (by omega) (by omega), e39.2.1, if_neg (by omega)], by rw [pp 10 (by omega) (by omega), e39.2.2.1, if_neg (by omega)], by rw [pp 11 (by omega) (by omega), e39.1 11 (by omega) (by omega) (by omega) (by omega)]⟩, fun t _ => by rw [pp 12 (by omega) (by omega), e39.1 12 (by omega) (by omega) (by omega) (by omega)], fun t _ => ⟨by rw [pp 13 (by omega) (by omega), e39.1 13 (by omega) (by omega) (by omega) (by omega)], by rw [pp 14 (by omega) (by omega), e39.1 14 (by omega) (by omega) (by omega) (by omega)], by rw [pp 15 (by omega) (by omega), e39.1 15 (by omega) (by omega) (by omega) (by omega)]⟩, fun t ht => ?_, ?_⟩
      · rw [b48 O nO1, b48 P nP1, (to t ht).1, (to t ht).2, e39.2.2.2.1, e39.2.2.2.2.1]
        exact ⟨rfl, rfl⟩
      · rw [b48 p ne1.2.2.2.2.1, x41.2.2.2.2.1 11 (by decide), e39.2.2.2.2.2]
    · rw [pp 9 (by omega) (by omega), e39.2.1, if_pos eix2.symm]
    · rw [pp 10 (by omega) (by omega), e39.2.2.1, if_pos eix2.symm]
    · refine ⟨Cf, L9, lf9 ct hl, v3, an, ?_, Nat.le_refl _, v6.cg (fun t _ _ => ⟨by rw [b48 O nO1], by rw [b48 P nP1]⟩), by omega, by rw [b48 O nO1]; exact v2⟩
      have f0 := F41.1.symm.trans z41
      have f1 := (fst9_1.mp f0).2
      rw [ec ct hl] at f1
      exact (fst9_1.mp f1).1
  · obtain ⟨u1, b9, u2, u3⟩ := u
    refine ⟨u1, b9, u2, u3.imp (fun v => v) (fun v => ⟨v.1, a', ix, E, hcx, v3, w17, ec, b9, u2, Or.inr ⟨rfl, v.2⟩⟩)⟩
  have t41' : mI M41 (q + 1) 3 = 0 := by rw [r48 3 (by decide)] at t; exact t
  have t39 : mI M39 (q + 1) 3 = 0 := Classical.byContradiction (fun t2 => x41.2.2.1 t2 t41')
  have : cnt ≠ 60 := fun u => h60 u (by rw [← z39]; exact t39)
  exact ⟨hcx (by omega), by omega⟩
theorem x_TR_readCommand {l1 : Int} (hl1 : l1 = 8 ↔ W a = 7) (i1 : i32 l1) (h : TX M z q w T A B D N C n p O P K Ab Be Cm V F ns sf ef c cnt L) (ha : mI M (q + 1) 2 = ((a : Nat) : Int)) (han : a < n) (hs : mI M p 2 = ((L : Nat) : Int)) (hsa : L ≤ a) (hd : mI M (q + 1) 5 = 0) (hNn : n ≤ Nn) (wt : WTq M T A B D n W pl nq sm) (hF : FT M (q + 1) ft) (hW : W a = 7 ∨ W a = 8) (hR : Rc W [50] 0 [50] a) : Ci G y_TR_readCommand (d + 7) [vr q, vi l1] M (fun x M' => cmQ9 M z q w T A B D N C n p O P K Ab Be Cm V F ns sf ef c x M' ∧ ccV W pl nq sm Nn n V O P L M q p c cnt a nms (fst9 ft (if cnt < 60 then (0, 0) else (5, pl a))) x M') := by
  obtain ⟨t0, t1, t2, t3, t4, t5⟩ := h.1.2.1
  have c12 := h.2.2.1.1
  refine k_TR_readCommand h.1.1.1 i1 ?_
  rw [t3, t1, c12]
  refine ⟨t0, h.1.1.2.2.2.2.1.1, fun y => x_rc27 (fun _ => rfl) hl1 FI.refl i1 h (fun u => absurd y (by omega)) ha han hs hsa hd hNn wt cmK.refl (by rw [if_pos (by omega)]; exact hF.none) hW hR, fun y => ⟨h.1.1.2.1.1, (s_RR_here h.1.1 ha (by omega)).mono (fun x7 M6 kk => ?_)⟩⟩
  obtain ⟨e6, ex7, x0, x1⟩ := kk
  subst e6
  refine ⟨i32s (by omega) (by omega), h.1.1.1, h.1.1.2.1.1, (x_tx_note (x := 5) (i32s (by omega) (by omega)) (by omega) (i32s (by omega) (by omega)) h).mono (fun M10 kk => ?_)⟩
  obtain ⟨o10, h10, x10, u3, u4, u5, u6⟩ := kk
  have F10 := u6 ft hF
  rw [ex7, (wt.1 a (Nat.le_of_lt han)).2.2] at F10
  have c60 : ¬ cnt < 60 := fun u => by omega
  obtain ⟨⟨np0, np1, -, -⟩, -, -⟩ := h.1.ne
  exact ⟨o10, x_rc27 (fun u => absurd u u3) hl1 x10.1 i1 h10 (fun _ => u3) (by rw [u4 2 (by decide) (by decide)]; exact ha) han (by rw [u5 p np1]; exact hs) hsa (by rw [u4 5 (by decide) (by decide)]; exact hd) hNn (wt.fi h.1 x10.1) (cmK.tx x10.2) (by rw [if_neg c60]; exact F10) hW hR⟩
end TXV
end
