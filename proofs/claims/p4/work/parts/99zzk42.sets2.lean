/-! The class's reader of texts: sets, the whole; chances. -/
section TRM
variable {G : mG} {d z q w T A B D N C n p O P K Ab Be Cm V F c s s' L L' cnt Bn a d0 V1 F1 nw k e s9 S0 wd ix nbr Ab0 Be0 Cm0 Ab1 Be1 Cm1 : Nat} {M0 M M' M1 M2 : mM} {ns ns' ns1 : Nat → Int} {sf ef sf' ef' : Nat → Nat} {H H1 : Nat → Nat} {S R : Nat → Prop}
theorem rsI.note (h : rsI M0 z q w T A B D N C n p O P K Ab Be Cm V F ns sf ef c cnt L S0 a s9 M) (h2 : TX M' z q w T A B D N C n p O P K Ab Be Cm V F ns sf ef c cnt L) (x2 : txF M q p O P L M') (r2 : ∀ i, i ≠ 3 → i ≠ 4 → mI M' (q + 1) i = mI M (q + 1) i) (b2 : ∀ b, b ≠ q + 1 → mI M' b = mI M b) : rsI M0 z q w T A B D N C n p O P K Ab Be Cm V F ns sf ef c cnt L S0 a s9 M' := by
  obtain ⟨h1, f1, a1, a2, p1, p2, p3, d1, c1, sc, hL⟩ := h
  obtain ⟨⟨np0, np1, -, -⟩, ⟨nO0, nO1, -, -, -⟩, nP0, nP1, -, -, -⟩ := h1.1.ne
  refine ⟨h2, f1.trans ⟨x2.1, x2.2.1, x2.2.2.1, x2.2.2.2.1, x2.2.2.2.2.1, x2.2.2.2.2.2.1, fun i _ => ⟨by rw [b2 O nO1], by rw [b2 P nP1]⟩⟩, by rw [r2 2 (by decide) (by decide)]; exact a1, a2, by rw [b2 p np1]; exact p1, p2, p3, by rw [r2 5 (by decide) (by decide)]; exact d1, by rw [r2 6 (by decide) (by decide)]; exact c1, fun y => ?_, hL⟩
  exact (sc (Classical.byContradiction (fun u => x2.2.2.1 u y))).cg (fun i _ => ⟨by rw [b2 O nO1], by rw [b2 P nP1]⟩)
/-- a word more -/
theorem rsI.acc (h : rsI M0 z q w T A B D N C n p O P K Ab Be Cm V F ns sf ef c cnt L S0 a s9 M) (h2 : TX M' z q w T A B D N C n p O P K Ab Be Cm V F ns sf ef c cnt L) (x2 : txF M q p O P L M') (ha : mI M' (q + 1) 2 = ((a + 1 : Nat) : Int)) (han : a < n) (r2 : ∀ i, i ≠ 2 → mI M' (q + 1) i = mI M (q + 1) i) (b2 : ∀ b, b ≠ q + 1 → mI M' b = mI M b) : rsI M0 z q w T A B D N C n p O P K Ab Be Cm V F ns sf ef c cnt L S0 (a + 1) s9 M' := by
  obtain ⟨h1, f1, a1, a2, p1, p2, p3, d1, c1, sc, hL⟩ := h
  obtain ⟨⟨np0, np1, -, -⟩, ⟨nO0, nO1, -, -, -⟩, nP0, nP1, -, -, -⟩ := h1.1.ne
  refine ⟨h2, f1.trans ⟨x2.1, x2.2.1, x2.2.2.1, x2.2.2.2.1, x2.2.2.2.2.1, x2.2.2.2.2.2.1, fun i _ => ⟨by rw [b2 O nO1], by rw [b2 P nP1]⟩⟩, ha, han, by rw [b2 p np1]; exact p1, p2, Nat.le_succ_of_le p3, by rw [r2 5 (by decide)]; exact d1, by rw [r2 6 (by decide)]; exact c1, fun y => ?_, hL⟩
  exact (sc (Classical.byContradiction (fun u => x2.2.2.1 u y))).cg (fun i _ => ⟨by rw [b2 O nO1], by rw [b2 P nP1]⟩)
theorem s_rs22 : ∀ (t i : Nat) (M : mM) (l1 l2 : Int) (a s9 : Nat), n + 1 ≤ i + t → i ≤ n + 1 → i32 l1 → i32 l2 → rsI M0 z q w T A B D N C n p O P K Ab Be Cm V F ns sf ef c cnt L S0 a s9 M → h_TR_readSets_22 G (d + 5) q l1 l2 i M (rsQ9 M0 z q w T A B D N C n p O P K Ab Be Cm V F ns sf ef c cnt L S0) := by
  intro t
  induction t with
  | zero =>
    intro i M l1 l2 a s9 ht hi i1 i2 h
    have h1 := h.1
    obtain ⟨t0, t1, t2, t3, t4, t5⟩ := h1.1.2.1
    have r0 := h1.1.1.2.2.1.1
    have w1 := h1.1.1.2.2.2.1.1.1
    have w2 := h1.1.1.2.2.2.1.2.1
    have hN : n ≤ 16384 := by have := h1.1.1.2.2.2.1.2.2.1; have := h1.1.1.2.2.2.1.1.2.2.2.2.2.2.1; omega
    refine k_TR_readSets_22 h1.1.1.1 i1 i2 (i32s (by omega) (by omega)) ?_
    rw [t1, r0, w2, t3]
    exact ⟨t0, h1.1.1.2.1.1, w1, fun _ => ⟨h1.1.1.2.2.2.2.1.1, s_rs_end h⟩, fun y => absurd (Or.inl (by omega)) y⟩
  | succ t ih =>
    intro i M l1 l2 a s9 ht hi i1 i2 h
    have h1 := h.1
    have a1 := h.2.2.1
    have a2 := h.2.2.2.1
    have d1 := h.2.2.2.2.2.2.2.1
    have f1 := h.2.1
    obtain ⟨t0, t1, t2, t3, t4, t5⟩ := h1.1.2.1
    have r0 := h1.1.1.2.2.1.1
    have w1 := h1.1.1.2.2.2.1.1.1
    have w2 := h1.1.1.2.2.2.1.2.1
    have hN : n ≤ 16384 := by have := h1.1.1.2.2.2.1.2.2.1; have := h1.1.1.2.2.2.1.1.2.2.2.2.2.2.1; omega
    refine k_TR_readSets_22 h1.1.1.1 i1 i2 (i32s (by omega) (by omega)) ?_
    rw [t1, r0, w2, t3]
    refine ⟨t0, h1.1.1.2.1.1, w1, fun _ => ⟨h1.1.1.2.2.2.2.1.1, s_rs_end h⟩, fun y => (s_RR_here h1.1.1 a1 a2).mono (fun x26 M25 k => ?_)⟩
    have i1n : i < n + 1 := by
      by_cases u : ((n : Int) + 1 ≤ i)
      · exact absurd (Or.inl u) y
      · omega
    obtain ⟨e25, -, x0, x1⟩ := k
    subst e25
    rw [t1, d1]
    refine ⟨i32s (by omega) (by omega), h1.1.1.1, t0, h1.1.1.2.1.1, fun u => absurd u (by decide), fun _ => (s_tx_accept (x := 37) (i32s (by omega) (by omega)) (by omega) h1 a1 a2).mono (fun x33 M32 k => ?_)⟩
    obtain ⟨i33, o32, -, h32, x32, k32, r32, b32⟩ := k
    refine ⟨i33, o32, fun u => ?_, fun u => ?_⟩
    · rw [(k32.resolve_left (fun v => by rw [u] at v; exact absurd v.1 (by decide))).2]
      exact ⟨f1, Or.inl ⟨rfl, h1, a, a1, a2⟩⟩
    obtain ⟨-, -, a32, an32⟩ := k32.resolve_right (fun v => u v.1)
    clear k32
    have I32 := h.acc h32 x32 a32 an32 r32 b32
    clear x32 r32 b32
    rw [h32.1.2.1.2.1, a32]
    refine ⟨h32.1.2.1.1, h32.1.1.2.1.1, (s_tx_accept (x := 2) (i32s (by omega) (by omega)) (by omega) h32 a32 an32).mono (fun x40 M39 k => ?_)⟩
    obtain ⟨i40, o39, -, h39, x39, k39, r39, b39⟩ := k
    refine ⟨i40, o39, fun u => ?_, fun u => ?_⟩
    · rw [(k39.resolve_left (fun v => by rw [u] at v; exact absurd v.1 (by decide))).2]
      exact ⟨I32.2.1, Or.inl ⟨rfl, h32, a + 1, a32, an32⟩⟩
    obtain ⟨-, e39, a39, an39⟩ := k39.resolve_right (fun v => u v.1)
    clear k39
    have I39 := I32.acc h39 x39 a39 an39 r39 b39
    have A39 : mI M39 A (a + 1) = 2 := by rw [(h32.1.words x39.1).1]; exact e39
    clear x39 r39 b39 e39
    have c39 := I39.2.2.2.2.2.2.2.2.1
    have hV := h39.2.1.1.2
    have nxt : ∀ (M1 : mM) (l1 l2 : Int) (a' s' : Nat), i32 l1 → i32 l2 → rsI M0 z q w T A B D N C n p O P K Ab Be Cm V F ns sf ef c cnt L S0 a' s' M1 → h_TR_readSets_22 G (d + 5) q l1 l2 ((i : Int) + 1) M1 (rsQ9 M0 z q w T A B D N C n p O P K Ab Be Cm V F ns sf ef c cnt L S0) := fun M1 l1 l2 a' s' j1 j2 hh => by
      rw [show ((i : Int) + 1) = ((i + 1 : Nat) : Int) by omega]
      exact ih (i + 1) M1 l1 l2 a' s' (by omega) (by omega) j1 j2 hh
    obtain ⟨⟨ww1, ⟨p0, p3, p4, p5⟩, -, ⟨kA, kB, kD⟩, ⟨cA, cB, cD⟩, w6, w7, w8, -⟩, -⟩ := id h39.1.1.2.2.2.1
    have nN := h39.1.1.2.2.2.1.2.2.1
    have rr0 := h39.1.1.2.2.1.1
    rw [h39.1.2.1.2.1]
    refine ⟨h39.1.2.1.1, h39.1.1.2.1.1, (s_RR_varOf h39.1.1 h39.2.1.2.2.1.nk an39 A39 c39).mono (fun x47 M46 k => ?_)⟩
    obtain ⟨e46, hx⟩ := k
    subst e46
    have i47 : i32 x47 := ⟨by omega, by omega⟩
    rw [h39.1.2.1.2.1, rr0, p4, cB, Int.toNat_natCast]
    refine ⟨i47, o39, fun v => ⟨h39.1.2.1.1, h39.1.1.2.1.1, ww1, kB, by omega, ?_⟩, fun v => ⟨fun _ => s_rs168 i2 (i32s (by omega) (by omega)) ⟨x0, x1⟩ hx ⟨an39, A39⟩ I39 (fun e => absurd e v) nxt, fun _ => ⟨h39.1.2.1.1, h39.1.1.2.1.1, ww1, kB, by omega, ?_⟩⟩⟩
    · refine (s_tx_note (x := 2) (i32s (by omega) (by omega)) (by omega) (o39 _ _).1 h39).mono (fun M57 k => ?_)
      obtain ⟨o57, h57, x57, u3, u4, u5⟩ := k
      exact ⟨o57, s_rs168 i2 (i32s (by omega) (by omega)) ⟨x0, x1⟩ hx ⟨an39, by rw [(h39.1.words x57.1).1]; exact A39⟩ (I39.note h57 x57 u4 u5) (fun _ => u3) nxt⟩
    · refine (s_tx_note (x := 4) (i32s (by omega) (by omega)) (by omega) (o39 _ _).1 h39).mono (fun M57 k => ?_)
      obtain ⟨o57, h57, x57, u3, u4, u5⟩ := k
      exact ⟨o57, s_rs168 i2 (i32s (by omega) (by omega)) ⟨x0, x1⟩ hx ⟨an39, by rw [(h39.1.words x57.1).1]; exact A39⟩ (I39.note h57 x57 u4 u5) (fun _ => u3) nxt⟩
theorem s_TR_readSets (h : rsI M0 z q w T A B D N C n p O P K Ab Be Cm V F ns sf ef c cnt L S0 a s9 M) : Ci G y_TR_readSets (d + 6) [vr q] M (rsQ9 M0 z q w T A B D N C n p O P K Ab Be Cm V F ns sf ef c cnt L S0) := by
  have h1 := h.1
  have a1 := h.2.2.1
  have a2 := h.2.2.2.1
  obtain ⟨t0, t1, t2, t3, t4, t5⟩ := h1.1.2.1
  refine k_TR_readSets h1.1.1.1 ?_
  rw [t1]
  refine ⟨t0, h1.1.1.2.1.1, (s_tx_accept (x := 11) (i32s (by omega) (by omega)) (by omega) h1 a1 a2).mono (fun x4 M3 k => ?_)⟩
  obtain ⟨i4, o3, -, h3, x3, k3, r3, b3⟩ := k
  refine ⟨i4, o3, fun v7 e7 => ?_⟩
  have i7 : i32 v7 := by rw [e7]; split <;> exact i32s (by omega) (by omega)
  rcases k3 with ⟨-, -, a3, an3⟩ | ⟨-, e3⟩
  · exact s_rs22 (n + 1) 0 M3 v7 0 (a + 1) s9 (by omega) (by omega) i7 (i32s (by omega) (by omega)) (h.acc h3 x3 a3 an3 r3 b3)
  · rw [e3]
    exact s_rs22 (n + 1) 0 M v7 0 a s9 (by omega) (by omega) i7 (i32s (by omega) (by omega)) h
end TRM
