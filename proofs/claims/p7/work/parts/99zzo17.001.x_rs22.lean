section
section
variable {G : mG} {d z q w T A B D N C n p O P K Ab Be Cm V F c s L cnt a s9 S0 k0 Nn : Nat} {M0 M M' M1 M2 : mM} {ns : Nat → Int} {sf ef : Nat → Nat} {W pl nq : Nat → Int} {sm : Nat → Nat → Prop} {nms : List nm9} {ft fS : Int × Int}
theorem x_rs22 (w10 : W k0 ≠ 10) (hNn : n ≤ Nn) (tn0 : TN M0 (q + 1) A n V F ns c) : ∀ (t i : Nat) (M : mM) (l1 l2 : Int) (a s9 : Nat), n + 1 ≤ i + t → i ≤ n + 1 → i32 l1 → i32 l2 → rsI M0 z q w T A B D N C n p O P K Ab Be Cm V F ns sf ef c cnt L S0 a s9 M → rsJ T A B D n V O P S0 W pl nq sm Nn M0 q p c k0 nms ft (seP W pl sm Nn M0 q p c k0 nms) l1 l2 i a M → h_TR_readSets_22 G (d + 5) q l1 l2 i M (fun x M' => rsQ9 M0 z q w T A B D N C n p O P K Ab Be Cm V F ns sf ef c cnt L S0 x M' ∧ rsV W q ft (seP W pl sm Nn M0 q p c k0 nms) (seE W pl nq sm Nn n V M0 q p O P c k0 S0 nms) x M') := by
  intro t
  induction t with
  | zero =>
    intro i M l1 l2 a s9 ht hi i1 i2 h J
    have h1 := h.1
    have a2 := h.2.2.2.1
    obtain ⟨t0, t1, t2, t3, t4, t5⟩ := h1.1.2.1
    have r0 := h1.1.1.2.2.1.1
    have w1 := h1.1.1.2.2.2.1.1.1
    have w2 := h1.1.1.2.2.2.1.2.1
    have hN : n ≤ 16384 := by have := h1.1.1.2.2.2.1.2.2.1; have := h1.1.1.2.2.2.1.1.2.2.2.2.2.2.1; omega
    obtain ⟨wt, fS, hFT, J⟩ := J
    have J := J.resolve_left (fun u => by
      have := u.2.1
      clear J
      omega)
    refine k_TR_readSets_22 h1.1.1.1 i1 i2 (i32s (by omega) (by omega)) ?_
    rw [t1, r0, w2, t3]
    exact ⟨t0, h1.1.1.2.1.1, w1, fun _ => ⟨h1.1.1.2.2.2.2.1.1, x_rs_end h hFT J.2.1 J.2.2.1 J.2.2.2⟩, fun y => absurd (Or.inl (by omega)) y⟩
  | succ t ih =>
    intro i M l1 l2 a s9 ht hi i1 i2 h J
    have h1 := h.1
    have a1 := h.2.2.1
    have a2 := h.2.2.2.1
    have d1 := h.2.2.2.2.2.2.2.1
    have f1 := h.2.1
    obtain ⟨t0, t1, t2, t3, t4, t5⟩ := h1.1.2.1
    have r0 := h1.1.1.2.2.1.1
    have w1 := h1.1.1.2.2.2.1.1.1
    have w2 := h1.1.1.2.2.2.1.2.1
    have hN : n ≤ 16384 := by have := h1.1.1.2.2.2.1.2.2.1; have := h1.1.1.2.2.2.1.1.2.2.2.2.2.2.1; omega
    obtain ⟨wt, fS, hFT, J⟩ := J
    by_cases l10 : l1 = 0
    · have J := J.resolve_left (fun u => u.1 l10)
      refine k_TR_readSets_22 h1.1.1.1 i1 i2 (i32s (by omega) (by omega)) ?_
      rw [t1, r0, w2, t3]
      exact ⟨t0, h1.1.1.2.1.1, w1, fun _ => ⟨h1.1.1.2.2.2.2.1.1, x_rs_end h hFT J.2.1 J.2.2.1 J.2.2.2⟩, fun y => absurd (Or.inr l10) y⟩
    obtain ⟨-, hik, hR, sk, n4, sl⟩ := J.resolve_right (fun u => l10 u.1)
    clear J
    refine k_TR_readSets_22 h1.1.1.1 i1 i2 (i32s (by omega) (by omega)) ?_
    rw [t1, r0, w2, t3]
    refine ⟨t0, h1.1.1.2.1.1, w1, fun y => absurd y (by omega), fun y => (s_RR_here h1.1.1 a1 a2).mono (fun x26 M25 k => ?_)⟩
    have i1n : i < n + 1 := by omega
    obtain ⟨e25, ex26, x0, x1⟩ := k
    subst e25
    have e26 : x26 = pl a := by rw [ex26]; exact (wt.1 a a2).2.2
    rw [t1, d1]
    refine ⟨i32s (by omega) (by omega), h1.1.1.1, t0, h1.1.1.2.1.1, fun u => absurd u (by first | decide | simp), fun _ => (x_tx_accept (x := 37) (i32s (by omega) (by omega)) (by omega) h1 a1 a2).mono (fun x33 M32 k => ?_)⟩
    obtain ⟨i33, o32, -, h32, x32, k32, r32, b32, m32⟩ := k
    refine ⟨i33, o32, fun u => ?_, fun u => ?_⟩
    · rw [(k32.resolve_left (fun v => by rw [u] at v; exact absurd v.1 (by first | decide | simp))).2]
      exact ⟨⟨f1, Or.inl ⟨rfl, h1, a, a1, a2⟩⟩, a, a1, Or.inl ⟨rfl, rf59 hR (fun v => m32 u ((wt.is a2 (by decide) (by decide)).mpr v))⟩⟩
    obtain ⟨-, e36, a32, an32⟩ := k32.resolve_right (fun v => u v.1)
    clear k32
    have rc1 : Rc W [50] 0 [1, 38, 23, 61, 37, 75, 60, 57, 34, 50] (a + 1) := hR.trans (rc59 ((wt.is a2 (by decide) (by decide)).mp e36) (by decide))
    have wt32 : WTq M32 T A B D n W pl nq sm := wt.fi h1.1 x32.1
    have F32 : FT M32 (q + 1) (fst9 ft fS) := hFT.same (r32 3 (by decide)) (r32 4 (by decide))
    have I32 := h.acc h32 x32 a32 an32 r32 b32
    obtain ⟨⟨np0, np1, -, -⟩, ⟨nO0, nO1, -, -, nOp⟩, nP0, nP1, -, -, nPp⟩ := h1.1.ne
    have sl32 := sl.cg (M' := M32) (fun u => by rw [r32 3 (by decide)] at u; exact u) (by rw [b32 p np1]) (b32 O nO1) (b32 P nP1)
    clear x32 r32 b32
    rw [h32.1.2.1.2.1, a32]
    refine ⟨h32.1.2.1.1, h32.1.1.2.1.1, (x_tx_accept (x := 2) (i32s (by omega) (by omega)) (by omega) h32 a32 an32).mono (fun x40 M39 k => ?_)⟩
    obtain ⟨i40, o39, -, h39, x39, k39, r39, b39, m39⟩ := k
    refine ⟨i40, o39, fun u => ?_, fun u => ?_⟩
    · rw [(k39.resolve_left (fun v => by rw [u] at v; exact absurd v.1 (by first | decide | simp))).2]
      exact ⟨⟨I32.2.1, Or.inl ⟨rfl, h32, a + 1, a32, an32⟩⟩, a + 1, a32, Or.inl ⟨rfl, rf_t rc1 (fun v => m39 u ((wt32.is an32 (by decide) (by decide)).mpr v)) (by decide)⟩⟩
    obtain ⟨-, e39, a39, an39⟩ := k39.resolve_right (fun v => u v.1)
    clear k39
    have W1 : W (a + 1) = 1 := (wt32.is an32 (by decide) (by decide)).mp e39
    have rc2 := rc_t rc1 W1 (by decide)
    have n6 : no34 W k0 (a + 2) := (n4.sc (by rw [(wt.is (y := 36) a2 (by decide) (by decide)).mp e36]; decide)).sc (by rw [W1]; decide)
    have wt39 : WTq M39 T A B D n W pl nq sm := wt32.fi h32.1 x39.1
    have F39 : FT M39 (q + 1) (fst9 ft fS) := F32.same (r39 3 (by decide)) (r39 4 (by decide))
    have I39 := I32.acc h39 x39 a39 an39 r39 b39
    have sl39 := sl32.cg (M' := M39) (fun u => by rw [r39 3 (by decide)] at u; exact u) (by rw [b39 p np1]) (b39 O nO1) (b39 P nP1)
    have A39 : mI M39 A (a + 1) = 2 := by rw [(h32.1.words x39.1).1]; exact e39
    clear x39 r39 b39 e39
    have c39 := I39.2.2.2.2.2.2.2.2.1
    have hV := h39.2.1.1.2
    have nxt : ∀ (M1 : mM) (l1 l2 : Int) (a' s' : Nat), i32 l1 → i32 l2 → rsI M0 z q w T A B D N C n p O P K Ab Be Cm V F ns sf ef c cnt L S0 a' s' M1 → rsJ T A B D n V O P S0 W pl nq sm Nn M0 q p c k0 nms ft (seP W pl sm Nn M0 q p c k0 nms) l1 l2 (i + 1) a' M1 → h_TR_readSets_22 G (d + 5) q l1 l2 ((i : Int) + 1) M1 (fun x M' => rsQ9 M0 z q w T A B D N C n p O P K Ab Be Cm V F ns sf ef c cnt L S0 x M' ∧ rsV W q ft (seP W pl sm Nn M0 q p c k0 nms) (seE W pl nq sm Nn n V M0 q p O P c k0 S0 nms) x M') := fun M1 l1 l2 a' s' j1 j2 hh jj => by
      rw [show ((i : Int) + 1) = ((i + 1 : Nat) : Int) by first | rfl | omega]
      exact ih (i + 1) M1 l1 l2 a' s' (by omega) (by omega) j1 j2 hh jj
    obtain ⟨⟨ww1, ⟨p0, p3, p4, p5⟩, -, ⟨kA, kB, kD⟩, ⟨cA, cB, cD⟩, w6, w7, w8, -⟩, -⟩ := id h39.1.1.2.2.2.1
    have nN := h39.1.1.2.2.2.1.2.2.1
    have rr0 := h39.1.1.2.2.1.1
    have eB : mI M39 B (a + 1) = pl (a + 1) := (wt39.1 (a + 1) an32).2.2
    rw [h39.1.2.1.2.1]
    refine ⟨h39.1.2.1.1, h39.1.1.2.1.1, (x_RR_varOf h39.1.1 h39.2.1.2.2.1.nk an39 A39 c39).mono (fun x47 M46 k => ?_)⟩
    obtain ⟨e46, hx, hx2⟩ := k
    subst e46
    have I90 := I39.2.1
    obtain ⟨s1, s2, s3⟩ := sk.nm hik hNn an39 (fun ct => ct.tx I90.2) (I90.2.2.2.1 8 (by decide) (by decide)) wt39 h39.2.1.2.2.1 hV W1 hx2
    clear hx2
    have i47 : i32 x47 := ⟨by omega, by omega⟩
    rw [h39.1.2.1.2.1, rr0, p4, cB, Int.toNat_natCast, eB]
    have ipl : i32 (pl (a + 1)) := by rw [← eB]; exact (o39 _ _).1
    refine ⟨i47, o39, fun v => ⟨h39.1.2.1.1, h39.1.1.2.1.1, ww1, kB, by omega, ?_⟩, fun v => ⟨fun v2 => x_rs168 i2 (i32s (by omega) (by omega)) ⟨x0, x1⟩ hx e26 w10 sl39 ⟨an39, A39⟩ I39 (fun e => absurd e v) wt39 F39 W1 (s2 v v2) rc2 hik hNn tn0 n6 nxt, fun v2 => ⟨h39.1.2.1.1, h39.1.1.2.1.1, ww1, kB, by omega, ?_⟩⟩⟩
    · refine (x_tx_note (x := 2) (i32s (by omega) (by omega)) (by omega) ipl h39).mono (fun M57 k => ?_)
      obtain ⟨o57, h57, x57, u3, u4, u5, u6⟩ := k
      have F57 := u6 _ F39
      rw [fst9_as] at F57
      exact ⟨o57, x_rs168 i2 (i32s (by omega) (by omega)) ⟨x0, x1⟩ hx e26 w10 (sl39.cg (fun u => absurd u u3) (by rw [u5 p np1]) (u5 O nO1) (u5 P nP1)) ⟨an39, by rw [(h39.1.words x57.1).1]; exact A39⟩ (I39.note h57 x57 u4 u5) (fun _ => u3) (wt39.fi h39.1 x57.1) F57 W1 (s1 v) rc2 hik hNn tn0 n6 nxt⟩
    · refine (x_tx_note (x := 4) (i32s (by omega) (by omega)) (by omega) ipl h39).mono (fun M57 k => ?_)
      obtain ⟨o57, h57, x57, u3, u4, u5, u6⟩ := k
      have F57 := u6 _ F39
      rw [fst9_as] at F57
      exact ⟨o57, x_rs168 i2 (i32s (by omega) (by omega)) ⟨x0, x1⟩ hx e26 w10 (sl39.cg (fun u => absurd u u3) (by rw [u5 p np1]) (u5 O nO1) (u5 P nP1)) ⟨an39, by rw [(h39.1.words x57.1).1]; exact A39⟩ (I39.note h57 x57 u4 u5) (fun _ => u3) (wt39.fi h39.1 x57.1) F57 W1 (s3 v v2) rc2 hik hNn tn0 n6 nxt⟩
end
end
