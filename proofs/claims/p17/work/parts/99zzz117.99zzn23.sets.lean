section
/-! The reference's sets, exactly. -/
/-- the fault of one set -/
noncomputable def stf (w pl : Nat → Int) (sm : Nat → Nat → Prop) (nms : List nm9) (p c : Nat) (seen : List Nat) : Int × Int := match fnd9 sm nms (p + 1) with
  | none => (2, pl (p + 1))
  | some e => if e.2.1 ≠ 3 then (2, pl (p + 1)) else if e.1 ∈ seen then (4, pl (p + 1)) else rf9 w pl sm nms 0 e.2.2.1 (p + 4) c
section SVX
variable {sm : Nat → Nat → Prop} {k j : Nat} {nms : List nm9} {e : nm9}
theorem twt8 {P9 : nm9 → Bool} : ∀ (l : List nm9) (j : Nat) (e : nm9), l[j]? = some e → P9 e = false → (∀ (j' : Nat) (e' : nm9), j' < j → l[j']? = some e' → P9 e' = true) → l.takeWhile P9 = l.take j
  | [], j, e, h, _, _ => absurd h (by simp)
  | a :: l, 0, e, h, h1, _ => by
    have : a = e := Option.some.inj h
    subst this
    rw [List.takeWhile_cons, h1]
    rfl
  | a :: l, j + 1, e, h, h1, h2 => by
    have ha := h2 0 a (by omega) rfl
    rw [List.takeWhile_cons, ha, List.take_succ_cons]
    show a :: l.takeWhile P9 = _
    rw [twt8 l j e h h1 (fun j' e' hj z => h2 (j' + 1) e' (by omega) z)]
theorem vix_a8 (h : nms[j]? = some e) (h1 : sm e.1 k) (h2 : ∀ (j' : Nat) (e' : nm9), j' < j → nms[j']? = some e' → ¬ sm e'.1 k) : vix9 sm nms k = vcn (nms.take j) := by
  unfold vix9
  rw [twt8 nms j e h (by simpa using h1) (fun j' e' hj z => by simpa using h2 j' e' hj z)]
end SVX
section STX
variable {G : mG} {d a g R W C T Z T2 T3 Z2 N K : Nat} {M M2 M3 : mM} {E : Eg9} {tg : Int} {nms : List nm9}
/-- which var a name is -/
theorem RSq.vix {k n : Nat} {e : nm9} (rs : RSq M2 a g K nms) (hf : fdn M2 a K k = (n : Int)) (hn : n < K) (he : nms[n]? = some e) (h3 : e.2.1 = 3) : nt M2 (a + 89) n = ((vix9 (smx M2 a) nms k : Nat) : Int) := by
  obtain ⟨e0, z1, z2, z3, z4, z5, z6, z7⟩ := rs.2.1 n hn
  have ee : e0 = e := Option.some.inj (z1.symm.trans he)
  subst ee
  rcases fdn_x (M := M2) (a := a) (K := K) k with ⟨f1, -⟩ | ⟨q, f1, f2, f3, f4⟩
  · rw [hf] at f1; omega
  · have eq : q = n := by rw [hf] at f1; omega
    subst eq
    have h1 : smx M2 a e0.1 k := by
      rw [z2, Int.toNat_natCast] at f3
      exact f3
    rw [z7, if_pos h3, vix_a8 he h1 (fun j' e' hj hj' => ?_)]
    intro y
    obtain ⟨e1, y1, y2, -⟩ := rs.2.1 j' (by omega)
    have e1e : e1 = e' := Option.some.inj (y1.symm.trans hj')
    subst e1e
    have := rs.2.2.1 j' q hj hn
    rw [y2, z2, Int.toNat_natCast, Int.toNat_natCast] at this
    exact this (y.trans h1.symm)
/-- the root of a rule and its words -/
theorem rl_rtw {i j : Nat} {t : Int} {gm : gm9} (hL : Lc M2 a g N T2 K) (g6 : mI M2 g 6 = R) (g12 : mI M2 g 12 = W) (hD : Dg M2 g R W C Z T2 E tg) (h : rlR 0 M2 a g N T2 K T3 t M3) (z : mI M3 a 16 = 0) (hp : ∀ n, n < T2 → pm M3 g n = pm M2 g n) (eγ : E.2 = txg M2 a N nms gm) (rs : RSq M2 a g K nms) (eo : Eo (wk M2 a) 6 i j) (hj : j < N) (hfl : (fl (wk M2 a) (E9 (smx M2 a) nms 0) (nt M2 (a + 7)) 0 i j).1 = 0) (tm : Tmr M2 M3 a g (rvn M2 a K) i j T2 T3) : Rtw E.2 M3 g R W T3 E.1 T2 t i j := by
  have hR := hD.1.1
  have G3 := (rlR.ge (R := R) (W := W) (C := 0) (Z := 0) hL h).2.1 z hp
  rcases h.2.2.2.2.2 with y | ⟨-, ⟨f, ty⟩, -⟩
  · exact absurd z y
  · rw [eγ]
    refine ⟨nms, [], T2, R, f, T3, nrq M2 a (rvn M2 a K), (List.append_nil _).symm, ⟨rfl, Nat.le_refl _, fun r hr q => ?_, ty.mono (fun v hv => ?_), Nat.le_refl _⟩, ⟨eo, hj, hfl⟩, rs.nvo, tm⟩
    · rw [(G3.1.2.1 r hr).1] at q
      obtain ⟨n, f', -, q2, -⟩ := hD.2.2.1 r hr q
      exact q2
    · unfold nmr at hv
      rw [g6, g12] at hv
      rcases hv with ⟨h1, h2, h3, h4⟩ | ⟨-, h1, h2, h3⟩
      · have gt := G3.1.tr (r := v.toNat) hR (by omega)
        rw [show ((v.toNat : Nat) : Int) = v by first | rfl | omega] at gt
        exact ⟨Or.inl ⟨h1, h2, Or.inl trivial⟩, gt⟩
      · exact ⟨Or.inr ⟨trivial, h1, h2⟩, G3.1.tv h1 h2⟩
/-- a rule inside a command -/
theorem x_crule {gm : gm9} {i j : Nat} {tr : Int} (eγ : E.2 = txg M a N nms gm) (c2 : cI M a g N K R W C E tg T2 Z2 M2) (rs : RSq M2 a g K nms) (z2 : mI M2 a 16 = 0) (w0 : Wd M a) (htr : tr = 0 ∨ tr = 1) (hT : T2 + (j - i) ≤ 30000) (eo : Eo (wk M a) 6 i j) (hj : j < N) : Ci G y_MM_rule1 (d + 7) [vr a, vi i, vi j, vi tr, vi 0] M2 (fun x M3 => x = T2 ∧ ∃ T3, T2 < T3 ∧ T3 ≤ T2 + (j - i) ∧ rlR 0 M2 a g N T2 K T3 tr M3 ∧ (mI M3 a 16 = 0 → ∀ n, n < T2 → pm M3 g n = pm M2 g n) ∧ (((rf9 (wk M a) (nt M (a + 7)) (smx M a) nms 0 tr i j).1 ≠ 0 ∧ fpw M3 a (rf9 (wk M a) (nt M (a + 7)) (smx M a) nms 0 tr i j)) ∨ ((rf9 (wk M a) (nt M (a + 7)) (smx M a) nms 0 tr i j).1 = 0 ∧ mI M3 a 16 = 0 ∧ RSq M3 a g K nms ∧ Rtw E.2 M3 g R W T3 E.1 (T2 : Int) tr i j))) := by
  obtain ⟨L2, I2, ⟨g2, g6, g12⟩, z30, D2⟩ := c2
  have hg := L2.2.2.2.2.2.1
  have sx2 := I2.sx w0 hg
  refine (x_MM_rule1 (d := d) (co := 0) (tr := tr) (ur_n (M := M2) (a := a) (g := g) (N := N) (K := K) (co := 0)) ⟨by decide, by decide⟩ htr L2 hT (by rw [sx2.1]; exact eo) hj).mono (fun x M3 q3 => ?_)
  obtain ⟨ex, T3, t1, t2, Rl, qx⟩ := q3
  have ef : rfq M2 a (Ern M2 a g K 0) tr i j = rf9 (wk M a) (nt M (a + 7)) (smx M a) nms 0 tr i j := by
    unfold rfq rf9
    rw [sx2.1, sx2.2.1, rs.en (Or.inl rfl), sx2.sm]
  rw [ef] at qx
  refine ⟨ex, T3, t1, t2, Rl, fun z => ?_, ?_⟩
  · rcases qx with q | ⟨q, -⟩ | ⟨-, -, -, q4⟩
    · exact absurd z2 q
    · exact absurd z q
    · exact q4
  rcases qx with q | ⟨q, qf⟩ | ⟨q, q1, q2, q4⟩
  · exact absurd z2 q
  · exact Or.inl ⟨by rw [← qf.1]; exact q, qf⟩
  · obtain ⟨I3, G3, -⟩ := rlR.ge (R := R) (W := W) (C := C) (Z := Z2) L2 Rl
    refine Or.inr ⟨q1, q, rs.ge L2.2.2.1 g6 g12 (D2 z2).1.1 (G3 q q4) (I3.sx L2.2.1.1.1 hg) ((lst3.rl hg Rl).q K), ?_⟩
    refine rl_rtw (gm := gm) L2 g6 g12 (D2 z2) Rl q q4 (by rw [eγ, sx2.tx9]) rs (by rw [sx2.1]; exact eo) hj ?_ q2
    rw [sx2.1, sx2.2.1, sx2.sm]
    unfold rf9 at q1
    exact (fst9_z q1).1
/-- a list of sets grows: the names stay -/
theorem RSq.add {p : Nat} {v : Int} (rs : RSq M2 a g K nms) (h : Lc M2 a g N T2 K) (g6 : mI M2 g 6 = R) (g12 : mI M2 g 12 = W) (hR : R ≤ 60) (hp : p = g + 30 ∨ p = g + 32 ∨ p = g + 34) (hZ : ((0 : Nat) : Int) ≤ ln M2 p) (t : adQ M2 p v M3) : RSq M3 a g K nms ∧ lst3 M2 a M3 := by
  have hg := h.2.2.2.2.2.1
  have w2 := h.2.1.1.1
  obtain ⟨L3, m, gI, aI, G3⟩ := gadd (R := R) (W := W) (C := 0) (Z := 0) h hp hZ t
  have l3 : lst3 M2 a M3 := lst3.of m (fun i hi z => by omega)
  have I3 : iF M2 a g M3 := iF.mk w2 m (fun q hq => by
    refine ⟨?_, by omega⟩
    rw [hq]
    rcases hp with z | z | z <;> rw [z]
    · exact n30 hg
    · exact n32 hg
    · exact n34 hg) (fun _ z => z.elim) (fun i _ _ _ => by rw [aI])
  exact ⟨rs.ge h.2.2.1 g6 g12 hR G3 (I3.sx w2 hg) (l3.q K), l3⟩
/-- a set in memory, in pure words; a set has been read, exactly -/
def RSs (γ : gW9) (M : mM) (g R W T : Nat) (Er : Nat → Nat) (z : Nat) (q : Nat × Nat × Nat × Nat) : Prop := nt M (g + 30) z = ((q.1 : Nat) : Int) ∧ nt M (g + 32) z = γ.2.1 q.2.2.2 ∧ q.1 < W ∧ Rtw γ M g R W T Er (nt M (g + 34) z) (tn M g (100 + (q.1 : Int))) q.2.1 q.2.2.1
def siX (M : mM) (a g N K R W C : Nat) (E : Eg9) (tg : Int) (p c T2 Z2 Tm : Nat) (nms : List nm9) (v : Nat) (F : Int × Int) (M2 : mM) (x : Int) (M3 : mM) : Prop := siQ M a g N K R W C E tg c T2 Z2 Tm M2 x M3 ∧ ((F.1 ≠ 0 ∧ fpw M3 a F) ∨ (F.1 = 0 ∧ mI M3 a 16 = 0 ∧ RSq M3 a g K nms ∧ ln M3 (g + 30) = (Z2 + 1 : Nat) ∧ nt M3 (g + 30) Z2 = v ∧ (∀ i : Nat, i < Z2 → nt M3 (g + 30) i = nt M2 (g + 30) i) ∧ (∀ q, q < K → nt M3 (a + 89) q = nt M2 (a + 89) q) ∧ ∀ T3, Lc M3 a g N T3 K → RSs E.2 M3 g R W T3 E.1 Z2 (v, p + 4, c, p)))
theorem x_si61 {gm : gm9} {p c v Tm Z0 : Nat} {F : Int × Int} {Q : Int → mM → Prop} (hQ : ∀ (x : Int) (M3 : mM), i32 x ∧ mOk M3 ∧ siX M a g N K R W C E tg p c T2 Z2 Tm nms v F M2 x M3 → Q x M3) (eγ : E.2 = txg M a N nms gm) (w0 : Wd M a) (hc : cI M a g N K R W C E tg T2 Z2 M2) (rs : RSq M2 a g K nms) (z2 : mI M2 a 16 = 0) (hv : v < W) (he : Eo (wk M a) 6 (p + 4) c) (hcN : c < N) (hT2 : T2 ≤ p) (hZ2 : Z2 ≤ 16384) (hTm : c - (p + 4) ≤ Tm) (hF1 : (∃ i : Nat, Z0 ≤ i ∧ i < Z2 ∧ nt M2 (g + 30) i = v) → F = (4, nt M (a + 7) (p + 1))) (hF2 : (∀ i : Nat, Z0 ≤ i → i < Z2 → nt M2 (g + 30) i ≠ v) → F = rf9 (wk M a) (nt M (a + 7)) (smx M a) nms 0 (mI M2 (g + 18) v) (p + 4) c) : ∀ (n i : Nat), i + n = Z2 → Z0 ≤ i → (∀ j : Nat, Z0 ≤ j → j < i → nt M2 (g + 30) j ≠ v) → h_MM_setItem_61 G (d + 7) a p c v i M2 Q := by
  obtain ⟨L2, I2, ⟨g2, g6, g12⟩, ⟨z30, z32, z34⟩, D2⟩ := id hc
  have hN := L2.2.1.1.2.2
  have hg := L2.2.2.2.2.2.1
  have w2 := L2.2.1.1.1
  have hD := D2 z2
  have hB := hD.1
  have hlt := he.pr.1
  have sx2 := I2.sx w0 hg
  have z30' : mI M2 (g + 30) 1 = (Z2 : Int) := z30
  have ip : i32 (p : Int) := i32s (by omega) (by omega)
  have ic : i32 (c : Int) := i32s (by omega) (by omega)
  have ic1 : i32 ((c + 1 : Nat) : Int) := i32s (by omega) (by omega)
  have iv : i32 (v : Int) := i32s (by omega) (by omega)
  have b01 := (hD.2.2.2.1 v hv).2.2.2.2.2
  have v12 : ((0 : Int) ≤ v ∧ (v : Int) < ((12 : Nat) : Int)) := by omega
  have hT3 : T2 + (c - (p + 4)) ≤ 30000 := by omega
  have hZ3 : (Z2 : Int) ≤ 32768 := by omega
  have p1N : p + 1 < N := by omega
  have pN : p < N := by omega
  have iT : i32 (T2 : Int) := i32s (by omega) (by omega)
  intro n
  induction n with
  | zero =>
    intro i hi hi0 hno
    have ei : i = Z2 := by omega
    subst ei
    have eF := hF2 hno
    refine k_MM_setItem_61 L2.1 ip ic iv (i32s (by omega) (by omega)) ?_
    rw [show mR M2 a 10 = g from L2.2.2.2.2.1, show mR M2 g 27 = g + 30 from (w2.gp hg).2.2.1.2.2.2.2.2.2.2.2.2.2.2.2.1, show mR M2 g 13 = g + 18 from (w2.gp hg).2.2.1.1, z30', Int.toNat_natCast, show (p : Int) + 4 = ((p + 4 : Nat) : Int) by first | rfl | omega]
    refine ⟨w2.1.1, (w2.gp hg).1, (w2.nu (n30 hg)).1, fun _ => ⟨(w2.gp hg).2.2.2.2.1.1.1, by rw [(w2.gp hg).2.2.2.2.1.1.2]; exact v12, ?_⟩, fun q => absurd (Int.le_refl _) q⟩
    refine (x_crule (d := d) eγ hc rs z2 w0 b01 hT3 he hcN).mono (fun x M3 q3 => ?_)
    obtain ⟨ex, T3, t1, t2, Rl, hp, qx⟩ := q3
    rw [← eF] at qx
    subst ex
    have L3 := Rl.2.1
    have w3 := L3.2.1.1.1
    have g3 : mI M3 g = mI M2 g := Rl.2.2.2.1
    obtain ⟨-, G3, y30, y32, y34⟩ := rlR.ge (R := R) (W := W) (C := C + 1) (Z := i) L2 Rl
    rw [show mR M3 a 10 = g from L3.2.2.2.2.1, show mR M3 g 27 = g + 30 from (w3.gp hg).2.2.1.2.2.2.2.2.2.2.2.2.2.2.2.1]
    refine ⟨iT, L3.1, w3.1.1, (w3.gp hg).1, (w3.nu (n30 hg)).1, (s_MN_add iv L3.1 (w3.nu (n30 hg)) (by rw [y30, z30]; exact hZ3)).mono (fun M4 a4 => ?_)⟩
    obtain ⟨L4, m4, g4, i4, G4⟩ := gadd (R := R) (W := W) (C := C + 1) (Z := i) L3 (Or.inl rfl) (by rw [y30, z30]; exact Int.le_refl _) a4
    have w4 := L4.2.1.1.1
    have e32 : ln M4 (g + 32) = (i : Int) := by rw [(m4.lst (n32 hg) (by omega)).1, y32, z32]
    rw [show mR M4 a 10 = g from L4.2.2.2.2.1, show mR M4 g 28 = g + 32 from (w4.gp hg).2.2.1.2.2.2.2.2.2.2.2.2.2.2.2.2.1]
    refine ⟨L4.1, w4.1.1, (w4.gp hg).1, (s_MM_place0 (d := d + 6) L4.1 L4.2.1 pN).mono (fun y M5 h5 => ?_)⟩
    obtain ⟨e5, hy⟩ := h5
    subst e5
    have hy32 : i32 y := by rw [hy]; exact (L4.1 _ _).1
    refine ⟨hy32, L4.1, (w4.nu (n32 hg)).1, (s_MN_add hy32 L4.1 (w4.nu (n32 hg)) (by rw [e32]; exact hZ3)).mono (fun M6 a6 => ?_)⟩
    obtain ⟨L6, m6, g6', i6, G6⟩ := gadd (R := R) (W := W) (C := C + 1) (Z := i) L4 (Or.inr (Or.inl rfl)) (by rw [e32]; exact Int.le_refl _) a6
    have w6 := L6.2.1.1.1
    have e34 : ln M6 (g + 34) = (i : Int) := by rw [(m6.lst (n34 hg) (by omega)).1, (m4.lst (n34 hg) (by omega)).1, y34, z34]
    rw [show mR M6 a 10 = g from L6.2.2.2.2.1, show mR M6 g 29 = g + 34 from (w6.gp hg).2.2.1.2.2.2.2.2.2.2.2.2.2.2.2.2.2]
    refine ⟨L6.1, w6.1.1, (w6.gp hg).1, (w6.nu (n34 hg)).1, (s_MN_add iT L6.1 (w6.nu (n34 hg)) (by rw [e34]; exact hZ3)).mono (fun M7 a7 => ?_)⟩
    have key := si_add (c := c) (Tm := Tm) hc z2 hv t1 (by omega) Rl hp a4 a6 a7
    obtain ⟨L7, m7, g7, i7, G7⟩ := gadd (R := R) (W := W) (C := C + 1) (Z := i) L6 (Or.inr (Or.inr rfl)) (by rw [e34]; exact Int.le_refl _) a7
    have aI : mI M7 a = mI M3 a := by rw [i7, i6, i4]
    rw [show (c : Int) + 1 = ((c + 1 : Nat) : Int) by first | rfl | omega]
    refine ⟨a7.1, hQ _ _ ⟨ic1, a7.1, key, ?_⟩⟩
    rcases qx with ⟨u1, u2⟩ | ⟨u1, u2, u3, u9⟩
    · refine Or.inl ⟨u1, ?_⟩
      unfold fpw
      rw [aI]
      exact u2
    · have r3 : mI M3 g 6 = R := by rw [g3]; exact g6
      have r3' : mI M3 g 12 = W := by rw [g3]; exact g12
      obtain ⟨rs4, l4⟩ := u3.add L3 r3 r3' hB.1 (Or.inl rfl) (by rw [y30, z30]; omega) a4
      obtain ⟨rs6, l6⟩ := rs4.add L4 (by rw [g4]; exact r3) (by rw [g4]; exact r3') hB.1 (Or.inr (Or.inl rfl)) (by rw [e32]; omega) a6
      obtain ⟨rs7, l7⟩ := rs6.add L6 (by rw [g6', g4]; exact r3) (by rw [g6', g4]; exact r3') hB.1 (Or.inr (Or.inr rfl)) (by rw [e34]; omega) a7
      have l37 := ((lst3.rl hg Rl).trans l4).trans (l6.trans l7)
      refine Or.inr ⟨u1, by rw [aI]; exact u2, rs7, ?_, ?_, fun j hj => ?_, fun q hq => (l37.q K q hq).2.2, fun T9 L9 => ?_⟩
      · rw [(m7.lst (n30 hg) (by omega)).1, (m6.lst (n30 hg) (by omega)).1, a4.2.2.2.1, y30, z30]; omega
      · rw [(m7.lst (n30 hg) (by omega)).2.1, (m6.lst (n30 hg) (by omega)).2.1]
        have := a4.2.2.2.2.2.1
        rw [y30, z30, Int.toNat_natCast] at this
        exact this
      · rw [(m7.lst (n30 hg) (by omega)).2.1, (m6.lst (n30 hg) (by omega)).2.1, a4.2.2.2.2.1 j (by rw [y30, z30]; omega)]
        exact ((G3 u2 (hp u2)).2.2.2.2 j hj).1
      · have eT : T9 = T3 := by
          have q1 := L9.2.2.2.1 (g + 1) (by omega)
          have q2 := L7.2.2.2.1 (g + 1) (by omega)
          omega
        subst eT
        have G37 := (G4.trans G6).trans G7
        have t30 : nt M7 (g + 30) i = (v : Int) := by
          rw [(m7.lst (n30 hg) (by omega)).2.1, (m6.lst (n30 hg) (by omega)).2.1]
          have := a4.2.2.2.2.2.1
          rw [y30, z30, Int.toNat_natCast] at this
          exact this
        have t32 : nt M7 (g + 32) i = y := by
          rw [(m7.lst (n32 hg) (by omega)).2.1]
          have := a6.2.2.2.2.2.1
          rw [e32, Int.toNat_natCast] at this
          exact this
        have t34 : nt M7 (g + 34) i = (T2 : Int) := by
          have := a7.2.2.2.2.2.1
          rw [e34, Int.toNat_natCast] at this
          exact this
        have p7 : nt M5 (a + 7) p = nt M (a + 7) p := by
          rw [(m4.lst n7 (by omega)).2.1, (((rlR.ge (R := R) (W := W) (C := C) (Z := i) L2 Rl).1).sx w2 hg).2.1, sx2.2.1]
        refine ⟨t30, ?_, hv, ?_⟩
        · rw [t32, hy, p7, eγ]
          rfl
        · have e18 : tn M7 g (100 + (v : Int)) = mI M2 (g + 18) v := by
            have k1 := ((G3 u2 (hp u2)).trans (G37.down (Nat.le_refl _) (Nat.le_refl _) (Nat.le_refl _) (Nat.le_refl _) (Nat.le_of_lt t1))).1.tv (v := 100 + (v : Int)) (by omega) (by omega)
            rw [k1]
            unfold tn
            rw [if_pos (show (100 : Int) ≤ 100 + (v : Int) by omega), show (100 + (v : Int) - 100).toNat = v by first | rfl | omega]
            rcases b01 with y | y <;> rw [y] <;> rfl
          show Rtw E.2 M7 g R W T9 E.1 (nt M7 (g + 34) i) (tn M7 g (100 + (v : Int))) (p + 4) c
          rw [t34, e18]
          exact u9.gn G37.1 hB.1
  | succ n ih =>
    intro i hi hi0 hno
    have nx := fun h => ih (i + 1) (by omega) (by omega) h
    refine k_MM_setItem_61 L2.1 ip ic iv (i32s (by omega) (by omega)) ?_
    rw [show mR M2 a 10 = g from L2.2.2.2.2.1, show mR M2 g 27 = g + 30 from (w2.gp hg).2.2.1.2.2.2.2.2.2.2.2.2.2.2.2.1, z30', show (p : Int) + 1 = ((p + 1 : Nat) : Int) by first | rfl | omega]
    refine ⟨w2.1.1, (w2.gp hg).1, (w2.nu (n30 hg)).1, fun q => absurd q (by omega), fun _ => (s_MN_at L2.1 (w2.nu (n30 hg)) (by rw [z30]; omega)).mono (fun z M4 h4 => ?_)⟩
    obtain ⟨e4, hz⟩ := h4
    subst e4
    refine ⟨by rw [hz]; exact (L2.1 _ _).1, L2.1, fun q => ⟨w2.1.1, (s_MM_place0 (d := d + 6) L2.1 L2.2.1 p1N).mono (fun y M5 h5 => ?_)⟩, fun q => ?_⟩
    · obtain ⟨e5, hy⟩ := h5
      subst e5
      have hy32 : i32 y := by rw [hy]; exact (L2.1 _ _).1
      refine ⟨hy32, L2.1, w2.1.1, (s_MM_stop ⟨by decide, by decide⟩ hy32 L2.1 w2).mono (fun M6 h6 => ⟨h6.1.1, hQ _ _ ⟨ic, h6.1.1, si_stop hc (by decide) h6, Or.inl ?_⟩⟩)⟩
      rw [hF1 ⟨i, hi0, by omega, by rw [← hz]; exact q⟩]
      exact ⟨by simp, h6.2.1, by rw [h6.2.2.1, hy, sx2.2.1]⟩
    · have nx := nx (fun j j1 j2 => by
        by_cases c : j = i
        · subst c; rw [← hz]; exact q
        · exact hno j j1 (by omega))
      rw [show ((i + 1 : Nat) : Int) = (i : Int) + 1 by first | rfl | omega] at nx
      exact nx
end STX
end
section
/-! The reference's sets of a branch, exactly. -/
section SNX
variable {G : mG} {d a g R W C T Z T2 T3 Z2 Z0 N K : Nat} {M M2 M3 : mM} {E : Eg9} {tg : Int} {nms : List nm9} {seen : List Nat}
theorem smx_rf (x : Nat) : smx M a x x := ⟨rfl, fun _ _ => rfl⟩
/-- which vars the branch has set -/
def SNq (M2 : mM) (a g K : Nat) (nms : List nm9) (Z0 Z2 : Nat) (seen : List Nat) : Prop := ∀ (q : Nat) (e : nm9), q < K → nms[q]? = some e → e.2.1 = 3 → (e.1 ∈ seen ↔ ∃ i : Nat, Z0 ≤ i ∧ i < Z2 ∧ nt M2 (g + 30) i = nt M2 (a + 89) q)
theorem SNq.nil : SNq M2 a g K nms Z2 Z2 [] := fun q e _ _ _ => ⟨fun z => absurd z (by simp), fun ⟨i, h1, h2, _⟩ => by omega⟩
theorem SNq.cons {q : Nat} {e : nm9} (sn : SNq M2 a g K nms Z0 Z2 seen) (rs : RSq M2 a g K nms) (hZ : Z0 ≤ Z2) (hq : q < K) (he : nms[q]? = some e) (h3 : e.2.1 = 3) (h30 : nt M3 (g + 30) Z2 = nt M2 (a + 89) q) (hi : ∀ i : Nat, i < Z2 → nt M3 (g + 30) i = nt M2 (g + 30) i) (h89 : ∀ q, q < K → nt M3 (a + 89) q = nt M2 (a + 89) q) : SNq M3 a g K nms Z0 (Z2 + 1) (e.1 :: seen) := by
  intro q' e' hq' he' h3'
  obtain ⟨x1, f1, f2, f3, -⟩ := rs.2.1 q hq
  obtain ⟨x2, k1, k2, k3, -⟩ := rs.2.1 q' hq'
  have ex1 : x1 = e := by rw [he] at f1; exact (Option.some.inj f1).symm
  have ex2 : x2 = e' := by rw [he'] at k1; exact (Option.some.inj k1).symm
  subst ex1 ex2
  have s3 : nt M2 (a + 87) q = 3 := by rw [f3, h3]; rfl
  have s3' : nt M2 (a + 87) q' = 3 := by rw [k3, h3']; rfl
  have same : q' = q ∨ nt M2 (a + 89) q' ≠ nt M2 (a + 89) q := by
    rcases Nat.lt_trichotomy q' q with z | z | z
    · exact Or.inr (rs.2.2.2 q' q z hq s3' s3)
    · exact Or.inl z
    · exact Or.inr (fun y => rs.2.2.2 q q' z hq' s3 s3' y.symm)
  have word : x2.1 = x1.1 → q' = q := fun y => by
    have e85 : nt M2 (a + 85) q' = nt M2 (a + 85) q := by rw [k2, f2, y]
    rcases Nat.lt_trichotomy q' q with z | z | z
    · have := rs.2.2.1 q' q z hq
      rw [e85] at this
      exact absurd (smx_rf _) this
    · exact z
    · have := rs.2.2.1 q q' z hq'
      rw [e85] at this
      exact absurd (smx_rf _) this
  rw [h89 q' hq', List.mem_cons]
  constructor
  · rintro (y | y)
    · have := word y
      subst this
      exact ⟨Z2, hZ, by omega, h30⟩
    · obtain ⟨i, i1, i2, i3⟩ := (sn q' x2 hq' he' h3').1 y
      exact ⟨i, i1, by omega, by rw [hi i i2]; exact i3⟩
  · rintro ⟨i, i1, i2, i3⟩
    by_cases c : i = Z2
    · subst c
      rcases same with z | z
      · subst z
        rw [he] at he'
        exact Or.inl (by rw [Option.some.inj he'])
      · exact absurd (i3.symm.trans h30) z
    · exact Or.inr ((sn q' x2 hq' he' h3').2 ⟨i, i1, by omega, by rw [← hi i (by omega)]; exact i3⟩)
/-- a set item has been read, exactly -/
def seX (M : mM) (a g N K R W C : Nat) (E : Eg9) (tg : Int) (p c T2 Z0 Z2 Tm : Nat) (nms : List nm9) (seen : List Nat) (M2 : mM) (x : Int) (M3 : mM) : Prop := siQ M a g N K R W C E tg c T2 Z2 Tm M2 x M3 ∧ (((stf (wk M a) (nt M (a + 7)) (smx M a) nms p c seen).1 ≠ 0 ∧ fpw M3 a (stf (wk M a) (nt M (a + 7)) (smx M a) nms p c seen)) ∨ ((stf (wk M a) (nt M (a + 7)) (smx M a) nms p c seen).1 = 0 ∧ mI M3 a 16 = 0 ∧ RSq M3 a g K nms ∧ ln M3 (g + 30) = (Z2 + 1 : Nat) ∧ (∃ e, fnd9 (smx M a) nms (p + 1) = some e ∧ SNq M3 a g K nms Z0 (Z2 + 1) (e.1 :: seen)) ∧ ∀ T3, Lc M3 a g N T3 K → RSs E.2 M3 g R W T3 E.1 Z2 (vix9 (smx M a) nms (p + 1), p + 4, c, p)))
theorem x_MM_setItem {gm : gm9} {p c Tm : Nat} (eγ : E.2 = txg M a N nms gm) (wM : Wd M a) (hc : cI M a g N K R W C E tg T2 Z2 M2) (rs : RSq M2 a g K nms) (sn : SNq M2 a g K nms Z0 Z2 seen) (z2 : mI M2 a 16 = 0) (w0 : wk M a p = 36) (w1 : wk M a (p + 1) = 1) (w2' : wk M a (p + 2) = 38) (w3 : wk M a (p + 3) = 23) (he : Eo (wk M a) 6 (p + 4) c) (w4 : wk M a c = 37) (hcN : c < N) (hT2 : T2 ≤ p) (hZ2 : Z2 ≤ 16384) (hZ0 : Z0 ≤ Z2) (hTm : c - (p + 4) ≤ Tm) : Ci G y_MM_setItem (d + 8) [vr a, vi p, vi Z0] M2 (fun x M3 => i32 x ∧ mOk M3 ∧ seX M a g N K R W C E tg p c T2 Z0 Z2 Tm nms seen M2 x M3) := by
  obtain ⟨L2, I2, ⟨g2, g6, g12⟩, ⟨z30, z32, z34⟩, D2⟩ := id hc
  have hN := L2.2.1.1.2.2
  have w2 := L2.2.1.1.1
  have hg := L2.2.2.2.2.2.1
  have sx2 := I2.sx wM hg
  have hlt := he.pr.1
  have hB := (D2 z2).1
  have hnm := L2.2.2.1
  have hK := hnm.2.2.2.1
  have l87 := hnm.2.1
  have l89 := hnm.2.2.1
  obtain ⟨-, s1, s2⟩ := Sg.set w0 w1 w2' w3 he w4
  have p1N : p + 1 < N := by omega
  have ic : i32 (c : Int) := i32s (by omega) (by omega)
  refine k_MM_setItem L2.1 (i32s (by omega) (by omega)) (i32s (by omega) (by omega)) ⟨w2.1.1, L2.co (d := d + 5) (by omega) hcN (by rw [sx2.1]; exact s1) (by rw [sx2.1]; exact s2) ⟨ic, L2.1, w2.1.1, ?_⟩⟩
  rw [show (p : Int) + 1 = ((p + 1 : Nat) : Int) by first | rfl | omega]
  have flt : stf (wk M a) (nt M (a + 7)) (smx M a) nms p c seen = (2, nt M (a + 7) (p + 1)) → Ci G y_MM_place0 (d + 7) [vr a, vi ((p + 1 : Nat) : Int)] M2 (fun x13 M12 => i32 x13 ∧ mOk M12 ∧ (mK M12 a = 14 ∧ Cv G y_MM_stop (d + 7) [vr a, vi 2, vi x13] M12 (fun M16 => mOk M16 ∧ (i32 (c : Int) ∧ mOk M16 ∧ seX M a g N K R W C E tg p c T2 Z0 Z2 Tm nms seen M2 c M16)))) := fun ef => by
    refine (s_MM_place0 (d := d + 6) L2.1 L2.2.1 p1N).mono (fun y M5 h5 => ?_)
    obtain ⟨e5, hy⟩ := h5
    subst e5
    have hy32 : i32 y := by rw [hy]; exact (L2.1 _ _).1
    refine ⟨hy32, L2.1, w2.1.1, (s_MM_stop ⟨by decide, by decide⟩ hy32 L2.1 w2).mono (fun M6 h6 => ⟨h6.1.1, ic, h6.1.1, si_stop hc (by decide) h6, Or.inl ?_⟩)⟩
    rw [ef]
    exact ⟨by simp, h6.2.1, by rw [h6.2.2.1, hy, sx2.2.1]⟩
  refine L2.fdx (d := d + 4) p1N (fun r r0 r1 rf => ⟨i32s (by omega) (by omega), L2.1, fun q => ⟨w2.1.1, flt ?_⟩, fun q => ⟨w2.1.1, ?_⟩⟩)
  · have hnone := (rs.kw rf).1 (by omega)
    rw [sx2.sm] at hnone
    unfold stf
    rw [hnone]
  rcases rs.fnd (p + 1) with ⟨y1, -⟩ | ⟨n, e, y1, hnK, y3, y4⟩
  · rw [← fdn_un rf] at y1; omega
  have hn : r = (n : Int) := by rw [fdn_un rf]; exact y1
  subst hn
  rw [sx2.sm] at y4
  obtain ⟨e', f1, f2, f3, f4, f5, -⟩ := rs.2.1 n hnK
  have ee : e' = e := by rw [y3] at f1; exact (Option.some.inj f1).symm
  subst ee
  obtain ⟨-, hk, -⟩ := hnm.2.2.2.2 n hnK
  rw [show mR M2 a 14 = a + 87 from w2.1.2.2.2.2.1.2.1]
  refine ⟨(w2.nu n87).1, L2.rd n87 (by rw [l87]; omega) (fun s hs is => ⟨is, L2.1, fun q3 => ⟨w2.1.1, ?_⟩, fun q3 => ⟨w2.1.1, flt ?_⟩⟩)⟩
  rotate_left
  · unfold stf
    rw [y4]
    have : e'.2.1 ≠ 3 := fun z => q3 (by rw [hs, f3, z]; rfl)
    simp only []
    rw [if_pos this]
  rw [show mR M2 a 15 = a + 89 from w2.1.2.2.2.2.1.2.2.1]
  refine ⟨(w2.nu n89).1, L2.rd n89 (by rw [l89]; omega) (fun x hx ix => ⟨ix, L2.1, ?_⟩)⟩
  have s3 : nt M2 (a + 87) n = 3 := by rw [← hs]; exact q3
  have e3 : e'.2.1 = 3 := by rw [f3] at s3; omega
  rw [← hs, ← hx, g12] at hk
  obtain ⟨v, hv, hvW⟩ : ∃ v : Nat, x = (v : Int) ∧ v < W := ⟨x.toNat, by omega, by omega⟩
  subst hv
  have kd : e'.2.2.1 = mI M2 (g + 18) v := by
    rw [f5, if_pos s3, ← hx]
    have b01 := ((D2 z2).2.2.2.1 v hvW).2.2.2.2.2
    unfold tn
    rw [if_pos (show (100 : Int) ≤ 100 + (v : Int) by omega), show (100 + (v : Int) - 100).toNat = v by first | rfl | omega]
    rcases b01 with y | y <;> rw [y] <;> rfl
  have hsn := sn n e' hnK y3 e3
  rw [← hx] at hsn
  have ef : stf (wk M a) (nt M (a + 7)) (smx M a) nms p c seen = if e'.1 ∈ seen then (4, nt M (a + 7) (p + 1)) else rf9 (wk M a) (nt M (a + 7)) (smx M a) nms 0 e'.2.2.1 (p + 4) c := by
    unfold stf
    rw [y4]
    simp only []
    rw [if_neg (fun z => z e3)]
  have hvx : v = vix9 (smx M a) nms (p + 1) := by
    have := rs.vix y1 hnK y3 e3
    rw [← hx, sx2.sm] at this
    omega
  refine x_si61 (F := stf (wk M a) (nt M (a + 7)) (smx M a) nms p c seen) (Z0 := Z0) (fun x M3 h3 => ?_) eγ wM hc rs z2 hvW he hcN hT2 hZ2 hTm (fun z => ?_) (fun z => ?_) (Z2 - Z0) Z0 (by omega) (Nat.le_refl _) (fun j _ _ => by omega)
  · obtain ⟨u1, u2, u3, u4⟩ := h3
    refine ⟨u1, u2, u3, ?_⟩
    rcases u4 with u4 | ⟨k1, k2, k3, k4, k5, k6, k7, k8⟩
    · exact Or.inl u4
    · exact Or.inr ⟨k1, k2, k3, k4, ⟨e', y4, sn.cons rs hZ0 hnK y3 e3 (by rw [k5]; exact hx) k6 k7⟩, by rw [← hvx]; exact k8⟩
  · rw [ef, if_pos (hsn.2 z)]
  · rw [ef, if_neg (fun y => by
      obtain ⟨i, i1, i2, i3⟩ := hsn.1 y
      exact z i i1 i2 i3), kd]
/-- one step of the sets -/
theorem sef_s {w pl : Nat → Int} {sm : Nat → Nat → Prop} {f k c : Nat} (hc : cpq w (k + 4) N = c) : sef w pl sm N nms (f + 1) k seen = if (stf w pl sm nms k c seen).1 ≠ 0 then (stf w pl sm nms k c seen, k) else match fnd9 sm nms (k + 1) with
  | none => ((0, 0), k)
  | some e => if w (c + 1) = 29 then sef w pl sm N nms f (c + 2) (e.1 :: seen) else ((0, 0), c + 1) := by
  rw [sef, hc]
  unfold stf
  cases h : fnd9 sm nms (k + 1) with
  | none => simp
  | some e =>
    simp only []
    by_cases c1 : e.2.1 ≠ 3
    · rw [if_pos c1, if_pos c1, if_pos (by simp)]
    · rw [if_neg c1, if_neg c1]
      by_cases c2 : e.1 ∈ seen
      · rw [if_pos c2, if_pos c2, if_pos (by simp)]
      · rw [if_neg c2, if_neg c2]
end SNX
end
section
/-! The reference's branches, exactly. -/
/-- one branch: its fault, and where it ends -/
noncomputable def bsf (w pl : Nat → Int) (sm : Nat → Nat → Prop) (N : Nat) (nms : List nm9) (p q : Nat) : (Int × Int) × Nat := if (rf9 w pl sm nms 0 0 p q).1 ≠ 0 then (rf9 w pl sm nms 0 0 p q, 0) else if w (q + 1) = 10 then ((0, 0), q + 2) else sef w pl sm N nms N (q + 1) []
noncomputable def brS (w pl : Nat → Int) (sm : Nat → Nat → Prop) (N : Nat) (nms : List nm9) (b p q : Nat) : (Int × Int) × Nat := if b = 8 then ((5, pl p), 0) else bsf w pl sm N nms p q
/-- a branch in pure words -/
noncomputable def brw (w pl : Nat → Int) (sm : Nat → Nat → Prop) (N : Nat) (nms : List nm9) (p q : Nat) : br9 := (pl p, (p, q), if w (q + 1) = 10 then [] else sel9 w sm N nms N (q + 1))
/-- one branch more -/
def cmA (cm : cm9) (br : br9) : cm9 := (cm.1, cm.2.1, cm.2.2.1, cm.2.2.2 ++ [br])
/-- a branch that is being read -/
def RBp (γ : gW9) (M : mM) (g R W T : Nat) (Er : Nat → Nat) (Z0 Z x : Nat) (br : br9) : Prop := mI M (g + 27) x = br.1 ∧ Rtw γ M g R W T Er (mI M (g + 26) x) 0 br.2.1.1 br.2.1.2 ∧ Z = Z0 + br.2.2.length ∧ ∀ (i : Nat) (q : Nat × Nat × Nat × Nat), br.2.2[i]? = some q → RSs γ M g R W T Er (Z0 + i) q
section RBX
variable {a g R W C T2 T3 Z2 Z0 N K b x z : Nat} {M M2 M3 M4 M5 M6 : mM} {Er : Nat → Nat} {γ : gW9} {q : Nat × Nat × Nat × Nat} {br : br9} {cm : cm9} {tg : Int} {E : Eg9}
/-- the sets' lists are the same below Z -/
def lsZ (M : mM) (g Z : Nat) (M' : mM) : Prop := ∀ z, z < Z → nt M' (g + 30) z = nt M (g + 30) z ∧ nt M' (g + 34) z = nt M (g + 34) z ∧ nt M' (g + 32) z = nt M (g + 32) z
theorem lsZ.trans (h : lsZ M g Z2 M2) (k : lsZ M2 g Z2 M3) : lsZ M g Z2 M3 := fun z hz => ⟨(k z hz).1.trans (h z hz).1, (k z hz).2.1.trans (h z hz).2.1, (k z hz).2.2.trans (h z hz).2.2⟩
theorem lsZ.st {i j : Nat} {v : Int} (L2 : Lc M2 a g N T2 K) (hv : i32 v) (hi : 22 ≤ i ∧ i ≤ 29) (f1 : frO (13 + i)) (f2 : frO (49 + i)) (e : M3 = mUI M2 (g + i) j v) : lsZ M2 g Z2 M3 := by
  obtain ⟨-, -, -, m3, -, -⟩ := gsti L2 hv (by omega) f1 f2 (fun z => by omega) e
  have hg := L2.2.2.2.2.2.1
  exact fun z _ => ⟨(m3.lst (n30 hg) (fun z => z)).2.1 z, (m3.lst (n34 hg) (fun z => z)).2.1 z, (m3.lst (n32 hg) (fun z => z)).2.1 z⟩
theorem RSs.cg (h : RSs γ M2 g R W T2 Er z q) (k : Gn M2 g R W T2 M3) (hR : R ≤ 60) (hz : z < Z2) (hl : lsZ M2 g Z2 M3) : RSs γ M3 g R W T2 Er z q := by
  obtain ⟨q1, q2, q3, q4⟩ := h
  obtain ⟨l1, l2, l3⟩ := hl z hz
  unfold RSs
  rw [l1, l2, l3, k.tv (by omega) (by omega)]
  exact ⟨q1, q2, q3, q4.gn k hR⟩
theorem RSs.up (h : RSs γ M2 g R W T2 Er z q) (hT : T2 ≤ T3) : RSs γ M2 g R W T3 Er z q := ⟨h.1, h.2.1, h.2.2.1, h.2.2.2.up (Nat.le_refl _) (Nat.le_refl _) hT (fun _ _ => rfl)⟩
theorem RBw.cg (h : RBw γ M2 g R W T2 Er Z2 x br) (k : Gn M2 g R W T2 M3) (hR : R ≤ 60) (hl : lsZ M2 g Z2 M3) (hc : mI M3 (g + 26) x = mI M2 (g + 26) x ∧ mI M3 (g + 27) x = mI M2 (g + 27) x ∧ mI M3 (g + 28) x = mI M2 (g + 28) x ∧ mI M3 (g + 29) x = mI M2 (g + 29) x) : RBw γ M3 g R W T2 Er Z2 x br := by
  obtain ⟨h1, h2, h3, fs, h4, h5, h6⟩ := h
  obtain ⟨e1, e2, e3, e4⟩ := hc
  unfold RBw
  rw [e1, e2, e3, e4]
  exact ⟨h1, h2.gn k hR, h3, fs, h4, h5, fun i q hq => RSs.cg (h6 i q hq) k hR (by have := (List.getElem?_eq_some_iff.mp hq).1; omega) hl⟩
theorem RBp.cg (h : RBp γ M2 g R W T2 Er Z0 Z2 x br) (k : Gn M2 g R W T2 M3) (hR : R ≤ 60) (hl : lsZ M2 g Z2 M3) (hc : mI M3 (g + 26) x = mI M2 (g + 26) x ∧ mI M3 (g + 27) x = mI M2 (g + 27) x) (hT : T2 ≤ T3) : RBp γ M3 g R W T3 Er Z0 Z2 x br := by
  obtain ⟨h1, h2, h3, h4⟩ := h
  unfold RBp
  rw [hc.1, hc.2]
  exact ⟨h1, (h2.gn k hR).up (Nat.le_refl _) (Nat.le_refl _) hT (fun _ _ => rfl), h3, fun i q hq => (RSs.cg (h4 i q hq) k hR (by have := (List.getElem?_eq_some_iff.mp hq).1; omega) hl).up hT⟩
theorem RBp.add {p0 : Int} {ij : Nat × Nat} {ss : List (Nat × Nat × Nat × Nat)} (h : RBp γ M3 g R W T3 Er Z0 Z2 x (p0, ij, ss)) (hq : RSs γ M3 g R W T3 Er Z2 q) : RBp γ M3 g R W T3 Er Z0 (Z2 + 1) x (p0, ij, ss ++ [q]) := by
  obtain ⟨h1, h2, h3, h4⟩ := h
  have h3 : Z2 = Z0 + ss.length := h3
  refine ⟨h1, h2, by show Z2 + 1 = Z0 + (ss ++ [q]).length; rw [List.length_append, h3]; rfl, fun i q' hq' => ?_⟩
  have hq' : (ss ++ [q])[i]? = some q' := hq'
  by_cases c : i < ss.length
  · rw [List.getElem?_append_left c] at hq'
    exact h4 i q' hq'
  · have hl := (List.getElem?_eq_some_iff.mp hq').1
    rw [List.length_append] at hl
    have ei : i = ss.length := by simp at hl; omega
    subst ei
    rw [List.getElem?_append_right (by omega), Nat.sub_self] at hq'
    have : q = q' := Option.some.inj hq'
    rw [← this, ← h3]
    exact hq
theorem RBp.fin (h : RBp γ M3 g R W T3 Er Z0 Z2 x br) (h28 : mI M3 (g + 28) x = (Z0 : Int)) (h29 : mI M3 (g + 29) x = (Z2 : Int) - Z0) : RBw γ M3 g R W T3 Er Z2 x br := by
  obtain ⟨h1, h2, h3, h4⟩ := h
  exact ⟨h1, h2, by rw [h29, h3]; omega, Z0, h28, by omega, h4⟩
theorem RCw.cg (h : RCw γ M2 g R W T2 Er Z2 C cm) (k : Gn M2 g R W T2 M3) (hR : R ≤ 60) (hl : lsZ M2 g Z2 M3) (c22 : mI M3 (g + 22) C = mI M2 (g + 22) C) (c23 : mI M3 (g + 23) C = mI M2 (g + 23) C) (c24 : mI M3 (g + 24) C = mI M2 (g + 24) C) (c25 : mI M3 (g + 25) C = mI M2 (g + 25) C) (cb : ∀ b' : Nat, b' < cm.2.2.2.length → mI M3 (g + 26) (8 * C + b') = mI M2 (g + 26) (8 * C + b') ∧ mI M3 (g + 27) (8 * C + b') = mI M2 (g + 27) (8 * C + b') ∧ mI M3 (g + 28) (8 * C + b') = mI M2 (g + 28) (8 * C + b') ∧ mI M3 (g + 29) (8 * C + b') = mI M2 (g + 29) (8 * C + b')) : RCw γ M3 g R W T2 Er Z2 C cm := by
  obtain ⟨h1, h2, h3, h4, h5⟩ := h
  unfold RCw
  rw [c22, c23, c24, c25]
  exact ⟨h1, h2, h3.gn k hR, h4, fun b' y hb' => (h5 b' y hb').cg k hR hl (cb b' (List.getElem?_eq_some_iff.mp hb').1)⟩
theorem RCw.app (h : RCw γ M2 g R W T2 Er Z2 C cm) (k : Gn M2 g R W T2 M3) (hR : R ≤ 60) (hl : lsZ M2 g Z2 M3) (c22 : mI M3 (g + 22) C = mI M2 (g + 22) C) (c23 : mI M3 (g + 23) C = mI M2 (g + 23) C) (c24 : mI M3 (g + 24) C = mI M2 (g + 24) C) (hb : cm.2.2.2.length = b) (hb8 : b < 8) (c25 : mI M3 (g + 25) C = (b : Int) + 1) (cb : ∀ b' : Nat, b' < b → mI M3 (g + 26) (8 * C + b') = mI M2 (g + 26) (8 * C + b') ∧ mI M3 (g + 27) (8 * C + b') = mI M2 (g + 27) (8 * C + b') ∧ mI M3 (g + 28) (8 * C + b') = mI M2 (g + 28) (8 * C + b') ∧ mI M3 (g + 29) (8 * C + b') = mI M2 (g + 29) (8 * C + b')) (hn : RBw γ M3 g R W T2 Er Z2 (8 * C + b) br) : RCw γ M3 g R W T2 Er Z2 C (cmA cm br) := by
  obtain ⟨h1, h2, h3, h4, h5⟩ := h
  have ln : (cm.2.2.2 ++ [br]).length = b + 1 := by rw [List.length_append, hb]; rfl
  unfold RCw
  rw [c22, c23, c24, c25]
  refine ⟨h1, h2, h3.gn k hR, ⟨by show (b : Int) + 1 = (((cm.2.2.2 ++ [br]).length : Nat) : Int); rw [ln]; omega, by show (cm.2.2.2 ++ [br]).length ≤ 8; rw [ln]; omega⟩, fun b' y hb' => ?_⟩
  have hb' : (cm.2.2.2 ++ [br])[b']? = some y := hb'
  by_cases c : b' < b
  · rw [List.getElem?_append_left (by omega)] at hb'
    exact (h5 b' y hb').cg k hR hl (cb b' c)
  · have hl := (List.getElem?_eq_some_iff.mp hb').1
    have ei : b' = b := by omega
    subst ei
    rw [List.getElem?_append_right (by omega), hb, Nat.sub_self] at hb'
    have : br = y := Option.some.inj hb'
    rw [← this]
    exact hn
theorem RCw.len (h : RCw γ M2 g R W T2 Er Z2 C cm) (hb : mI M2 (g + 25) C = (b : Int)) : cm.2.2.2.length = b := by
  have := h.2.2.2.1.1
  omega
/-- the game's sizes are told by its lists -/
theorem cI.un {Z3 : Nat} (h : cI M a g N K R W C E tg T2 Z2 M3) (k : cI M a g N K R W C E tg T3 Z3 M3) : T3 = T2 ∧ Z3 = Z2 := by
  have q1 := h.1.2.2.2.1 (g + 1) (by omega)
  have q2 := k.1.2.2.2.1 (g + 1) (by omega)
  have q3 := h.2.2.2.1.1
  have q4 := k.2.2.2.1.1
  omega
/-- the branch's end, in pure words -/
theorem br_endw (hC : C < 60) (hb : b < 8) (h : bI M a g N K R W C E tg b Z0 T2 Z2 M2) (z2 : mI M2 a 16 = 0) (hZ : Z2 ≤ 16385) (hw : RCw E.2 M2 g R W T2 E.1 Z2 C cm) (hB : RBp E.2 M2 g R W T2 E.1 Z0 Z2 (8 * C + b) br) (e3 : M3 = mUI M2 (g + 29) (8 * C + b) ((Z2 : Int) - Z0)) (e4 : M4 = mUI M3 (g + 25) C ((b : Int) + 1)) : ∀ T3 Z3, cI M a g N K R W C E tg T3 Z3 M4 → RCw E.2 M4 g R W T3 E.1 Z3 C (cmA cm br) := by
  obtain ⟨c2, q28, hZ0, q25, hc⟩ := h
  have L2 := c2.1
  have l3 := lsZ.st (Z2 := Z2) (i := 29) L2 (i32s (by omega) (by omega)) (by omega) (by decide) (by decide) e3
  obtain ⟨c3, f3, a3, G3⟩ := c2.st (i := 29) (i32s (by omega) (by omega)) (by omega) (by omega) (by decide) (by decide) e3
  have l4 := lsZ.st (Z2 := Z2) (i := 25) c3.1 (i32s (by omega) (by omega)) (by omega) (by decide) (by decide) e4
  obtain ⟨c4, f4, a4, G4⟩ := c3.st (i := 25) (i32s (by omega) (by omega)) (by omega) (by omega) (by decide) (by decide) e4
  have G24 := G3.trans G4
  have hR := (c2.2.2.2.2 z2).1.1
  have hl := l3.trans l4
  have cell : ∀ i x, i ≠ 25 → i ≠ 29 → mI M4 (g + i) x = mI M2 (g + i) x := fun i x h1 h2 => by rw [f4, if_neg (fun z => by omega), f3, if_neg (fun z => by omega)]
  intro T3 Z3 k
  obtain ⟨e1, e2⟩ := c4.un k
  subst e1 e2
  have r25 : mI M4 (g + 25) C = (b : Int) + 1 := by rw [f4, if_pos ⟨rfl, rfl⟩]
  have r29 : mI M4 (g + 29) (8 * C + b) = (Z3 : Int) - Z0 := by rw [f4, if_neg (fun z => by omega), f3, if_pos ⟨rfl, rfl⟩]
  have hlen := hw.len q25
  refine hw.app G24 hR hl (cell 22 C (by omega) (by omega)) (cell 23 C (by omega) (by omega)) (cell 24 C (by omega) (by omega)) hlen hb r25 (fun b' hb' => ⟨cell 26 _ (by omega) (by omega), cell 27 _ (by omega) (by omega), cell 28 _ (by omega) (by omega), ?_⟩) (RBp.fin ?_ (by rw [cell 28 _ (by omega) (by omega)]; exact q28) r29)
  · rw [f4, if_neg (fun z => by omega), f3, if_neg (fun z => by omega)]
  · exact hB.cg G24 hR hl ⟨cell 26 _ (by omega) (by omega), cell 27 _ (by omega) (by omega)⟩ (Nat.le_refl _)
/-- after a set -/
theorem br_siw {p0 : Int} {ij : Nat × Nat} {ss : List (Nat × Nat × Nat × Nat)} (hR : R ≤ 60) (hw : RCw E.2 M2 g R W T2 E.1 Z2 C cm) (hB : RBp E.2 M2 g R W T2 E.1 Z0 Z2 (8 * C + b) (p0, ij, ss)) (hb : b < 8) (hT : T2 ≤ T3) (G3 : Ge M2 g R W (C + 1) Z2 T2 M3) (hq : RSs E.2 M3 g R W T3 E.1 Z2 q) : RCw E.2 M3 g R W T3 E.1 (Z2 + 1) C cm ∧ RBp E.2 M3 g R W T3 E.1 Z0 (Z2 + 1) (8 * C + b) (p0, ij, ss ++ [q]) := by
  refine ⟨?_, RBp.add (hB.cg G3.1 hR (fun z hz => G3.2.2.2.2 z hz) ?_ hT) hq⟩
  · obtain ⟨h1, h2, h3, h4, h5⟩ := hw
    obtain ⟨e1, e2, e3⟩ := G3.2.2.2.1 C (by omega)
    obtain ⟨-, -, -, -, e4, e5⟩ := e3 0 (by omega)
    refine RCw.up (T := T2) (Z := Z2) ?_ (Nat.le_refl _) (Nat.le_refl _) hT (Nat.le_succ _) (fun _ _ => rfl)
    refine RCw.cg ⟨h1, h2, h3, h4, h5⟩ G3.1 hR (fun z hz => G3.2.2.2.2 z hz) e4 e5 e1 e2 (fun b' hb' => ?_)
    obtain ⟨k1, k2, k3, k4, -⟩ := e3 b' (by omega)
    exact ⟨k1, k4, k2, k3⟩
  · obtain ⟨k1, k2, k3, k4, -⟩ := (G3.2.2.2.1 C (by omega)).2.2 b hb
    exact ⟨k1, k4⟩
/-- a branch begins -/
theorem br_putw {i j : Nat} {pl : Int} (h : cI M a g N K R W C E tg T2 Z2 M2) (z2 : mI M2 a 16 = 0) (hb : mI M2 (g + 25) C = (b : Int)) (hb8 : b < 8) (hZ : Z2 ≤ 16385) (hT2 : T2 ≤ 16385) (t1 : T2 ≤ T3) (ip : i32 pl) (Rl : rlR 0 M2 a g N T2 K T3 0 M3) (hp : mI M3 a 16 = 0 → ∀ n, n < T2 → pm M3 g n = pm M2 g n) (z3 : mI M3 a 16 = 0) (hw : RCw E.2 M2 g R W T2 E.1 Z2 C cm) (hr : Rtw E.2 M3 g R W T3 E.1 (T2 : Int) 0 i j) (e4 : M4 = mUI M3 (g + 26) (8 * C + b) (T2 : Int)) (e5 : M5 = mUI M4 (g + 27) (8 * C + b) pl) (e6 : M6 = mUI M5 (g + 28) (8 * C + b) (Z2 : Int)) : RCw E.2 M6 g R W T3 E.1 Z2 C cm ∧ RBp E.2 M6 g R W T3 E.1 Z2 Z2 (8 * C + b) (pl, (i, j), []) := by
  obtain ⟨c3, G3⟩ := h.rl z2 t1 Rl hp
  have G3 := G3 z3
  have D2 := h.2.2.2.2 z2
  have hR := D2.1.1
  have l4 := lsZ.st (Z2 := Z2) (i := 26) c3.1 (i32s (by omega) (by omega)) (by omega) (by decide) (by decide) e4
  obtain ⟨c4, f4, a4, G4⟩ := c3.st (i := 26) (i32s (by omega) (by omega)) (by omega) (by omega) (by decide) (by decide) e4
  have l5 := lsZ.st (Z2 := Z2) (i := 27) c4.1 ip (by omega) (by decide) (by decide) e5
  obtain ⟨c5, f5, a5, G5⟩ := c4.st (i := 27) ip (by omega) (by omega) (by decide) (by decide) e5
  have l6 := lsZ.st (Z2 := Z2) (i := 28) c5.1 (i32s (by omega) (by omega)) (by omega) (by decide) (by decide) e6
  obtain ⟨c6, f6, a6, G6⟩ := c5.st (i := 28) (i32s (by omega) (by omega)) (by omega) (by omega) (by decide) (by decide) e6
  have G36 := (G4.trans G5).trans G6
  have l36 := (l4.trans l5).trans l6
  have hlen := hw.len hb
  have hw3 : RCw E.2 M3 g R W T3 E.1 Z2 C cm := by
    obtain ⟨e1, e2, e3⟩ := G3.2.2.2.1 C (by omega)
    obtain ⟨-, -, -, -, q4, q5⟩ := e3 0 (by omega)
    refine RCw.up (T := T2) (Z := Z2) ?_ (Nat.le_refl _) (Nat.le_refl _) t1 (Nat.le_refl _) (fun _ _ => rfl)
    refine hw.cg G3.1 hR (fun z hz => G3.2.2.2.2 z hz) q4 q5 e1 e2 (fun b' hb' => ?_)
    obtain ⟨k1, k2, k3, k4, -⟩ := e3 b' (by omega)
    exact ⟨k1, k4, k2, k3⟩
  have cell : ∀ i x, (i < 26 ∨ i = 29 ∨ x ≠ 8 * C + b) → mI M6 (g + i) x = mI M3 (g + i) x := fun i x hi => by rw [f6, if_neg (fun z => by omega), f5, if_neg (fun z => by omega), f4, if_neg (fun z => by omega)]
  have v26 : mI M6 (g + 26) (8 * C + b) = (T2 : Int) := by rw [f6, if_neg (fun z => by omega), f5, if_neg (fun z => by omega), f4, if_pos ⟨rfl, rfl⟩]
  have v27 : mI M6 (g + 27) (8 * C + b) = pl := by rw [f6, if_neg (fun z => by omega), f5, if_pos ⟨rfl, rfl⟩]
  refine ⟨hw3.cg G36 hR l36 (cell 22 C (by omega)) (cell 23 C (by omega)) (cell 24 C (by omega)) (cell 25 C (by omega)) (fun b' hb' => ⟨cell 26 _ (by omega), cell 27 _ (by omega), cell 28 _ (by omega), cell 29 _ (by omega)⟩), v27, ?_, rfl, fun i q hq => absurd (show ([] : List (Nat × Nat × Nat × Nat))[i]? = some q from hq) (by simp)⟩
  rw [v26]
  exact hr.gn G36 hR
end RBX
section BRX
variable {G : mG} {d a g R W C T2 T3 Z2 N K : Nat} {M M2 M3 : mM} {E : Eg9} {tg : Int} {nms : List nm9}
theorem RSq.st {i j : Nat} {v : Int} (rs : RSq M2 a g K nms) (L2 : Lc M2 a g N T2 K) (hv : i32 v) (hi : 22 ≤ i ∧ i ≤ 29) (f1 : frO (13 + i)) (f2 : frO (49 + i)) (e : M3 = mUI M2 (g + i) j v) : RSq M3 a g K nms := by
  obtain ⟨L3, I3, -, m3, f3, l3⟩ := gsti L2 hv (by omega) f1 f2 (fun z => by omega) e
  refine rs.eq ((lst3.of m3 (fun _ _ z => z)).q K) ?_ ⟨by rw [l3], by rw [l3]⟩ (I3.sx L2.2.1.1.1 L2.2.2.2.2.2.1)
  funext u
  unfold tn
  rw [show mI M3 (g + 18) = mI M2 (g + 18) from funext (fun x => by rw [f3, if_neg (fun z => by omega)]), show mI M3 (g + 14) = mI M2 (g + 14) from funext (fun x => by rw [f3, if_neg (fun z => by omega)])]
/-- a branch has been read, exactly -/
def brX (M : mM) (a g N K R W C : Nat) (E : Eg9) (tg : Int) (s b : Nat) (nms : List nm9) (S : (Int × Int) × Nat) (cm' : cm9) (x : Int) (M3 : mM) : Prop := brQ M a g N K R W C E tg s x M3 ∧ ((S.1.1 ≠ 0 ∧ fpw M3 a S.1) ∨ (S.1.1 = 0 ∧ S.2 = s ∧ mI M3 a 16 = 0 ∧ mI M3 (g + 25) C = (b : Int) + 1 ∧ RSq M3 a g K nms ∧ ∀ T3 Z3, cI M a g N K R W C E tg T3 Z3 M3 → RCw E.2 M3 g R W T3 E.1 Z3 C cm'))
theorem x_br_end {cm : cm9} {br : br9} {b Z0 s k : Nat} {l8 : Int} {Q : Int → mM → Prop} (hC : C < 60) (hb : b < 8) (h : bI M a g N K R W C E tg b Z0 T2 Z2 M2) (hk : k ≤ N) (hs : mI M2 a 16 = 0 → k = s ∧ T2 ≤ s ∧ Z2 ≤ s) (hZ : Z2 ≤ 16385) (i8 : i32 l8) (h8 : l8 = 0 ∨ ¬ (mI M2 a 16 = 0)) (hB : mI M2 a 16 = 0 → RCw E.2 M2 g R W T2 E.1 Z2 C cm ∧ RBp E.2 M2 g R W T2 E.1 Z0 Z2 (8 * C + b) br) (hQ : ∀ M4, i32 (k : Int) → mOk M4 → brQ M a g N K R W C E tg s k M4 → mI M4 a = mI M2 a → mI M4 (g + 25) C = (b : Int) + 1 → (RSq M2 a g K nms → RSq M4 a g K nms) → (mI M2 a 16 = 0 → ∀ T3 Z3, cI M a g N K R W C E tg T3 Z3 M4 → RCw E.2 M4 g R W T3 E.1 Z3 C (cmA cm br)) → Q k M4) : h_MM_branch0_128 G (d + 8) a C b (8 * C + b : Nat) k l8 M2 Q := by
  have L2 := h.1.1
  have hN := L2.2.1.1.2.2
  have hg := L2.2.2.2.2.2.1
  have w2 := L2.2.1.1.1
  have z30 : mI M2 (g + 30) 1 = (Z2 : Int) := h.1.2.2.2.1.1
  have hZ0 := h.2.2.1
  have b480 : ((0 : Int) ≤ ((8 * C + b : Nat) : Int) ∧ ((8 * C + b : Nat) : Int) < ((480 : Nat) : Int)) := by omega
  have b60 : ((0 : Int) ≤ (C : Int) ∧ (C : Int) < ((60 : Nat) : Int)) := by omega
  refine k_MM_branch0_128 L2.1 (i32s (by omega) (by omega)) (i32s (by omega) (by omega)) (i32s (by omega) (by omega)) (i32s (by omega) (by omega)) i8 ⟨fun _ => w2.1.1, fun _ => ⟨w2.1.1, ?_⟩, fun q => absurd h8 q⟩
  rw [show mR M2 a 10 = g from L2.2.2.2.2.1, show mR M2 g 27 = g + 30 from (w2.gp hg).2.2.1.2.2.2.2.2.2.2.2.2.2.2.2.1, show mR M2 g 25 = g + 28 from (w2.gp hg).2.2.1.2.2.2.2.2.2.2.2.2.2.1, show mR M2 g 26 = g + 29 from (w2.gp hg).2.2.1.2.2.2.2.2.2.2.2.2.2.2.1, z30, Int.toNat_natCast, h.2.1]
  refine ⟨(w2.gp hg).1, (w2.nu (n30 hg)).1, (w2.gp hg).2.2.2.2.2.2.2.2.2.2.2.1.1, by rw [(w2.gp hg).2.2.2.2.2.2.2.2.2.2.2.1.2]; exact b480, (w2.gp hg).2.2.2.2.2.2.2.2.2.2.2.2.1, by rw [(w2.gp hg).2.2.2.2.2.2.2.2.2.2.2.2.2]; exact b480, i32s (by omega) (by omega), fun M3 e3 => ?_⟩
  obtain ⟨c3, f3, a3, G3⟩ := h.1.st (i := 29) (i32s (by omega) (by omega)) (by omega) (by omega) (by decide) (by decide) e3
  have L3 := c3.1
  have w3 := L3.2.1.1.1
  rw [show mR M3 a 10 = g from L3.2.2.2.2.1, show mR M3 g 22 = g + 25 from (w3.gp hg).2.2.1.2.2.2.2.2.2.2.1, Int.toNat_natCast]
  refine ⟨(w3.gp hg).1, (w3.gp hg).2.2.2.2.2.2.2.2.1.1, by rw [(w3.gp hg).2.2.2.2.2.2.2.2.1.2]; exact b60, i32s (by omega) (by omega), fun M4 e4 => ?_⟩
  have key := br_end (x := (k : Int)) hC hb h (by omega) (fun z => ⟨by have := hs z; omega, (hs z).2⟩) hZ e3 e4
  obtain ⟨c4, f4, a4, G4⟩ := c3.st (i := 25) (v := (b : Int) + 1) (i32s (by omega) (by omega)) (by omega) (by omega) (by decide) (by decide) e4
  exact hQ M4 (i32s (by omega) (by omega)) key.1 key.2 (a4.trans a3) (by rw [f4, if_pos ⟨rfl, rfl⟩]) (fun rs => (rs.st (i := 29) L2 (i32s (by omega) (by omega)) (by omega) (by decide) (by decide) e3).st (i := 25) L3 (i32s (by omega) (by omega)) (by omega) (by decide) (by decide) e4) (fun z => br_endw hC hb h z hZ (hB z).1 (hB z).2 e3 e4)
theorem x_br_sets {gm : gm9} {cm : cm9} {p0 : Int} {ij : Nat × Nat} {b Z0 s : Nat} (eγ : E.2 = txg M a N nms gm) (wM : Wd M a) (hC : C < 60) (hb : b < 8) (hsN : s < N) (hg : g = a + 13 ∨ g = a + 49) : ∀ (f f' p T2 Z2 : Nat) (M2 : mM) (seen : List Nat) (ss : List (Nat × Nat × Nat × Nat)), RCw E.2 M2 g R W T2 E.1 Z2 C cm → RBp E.2 M2 g R W T2 E.1 Z0 Z2 (8 * C + b) (p0, ij, ss) → s ≤ p + f' → bI M a g N K R W C E tg b Z0 T2 Z2 M2 → RSq M2 a g K nms → SNq M2 a g K nms Z0 Z2 seen → mI M2 a 16 = 0 → Se (wk M a) f p s → T2 ≤ p → Z2 ≤ p → h_MM_branch0_128 G (d + 8) a C b (8 * C + b : Nat) p 1 M2 (fun x M3 => i32 x ∧ mOk M3 ∧ brX M a g N K R W C E tg s b nms (sef (wk M a) (nt M (a + 7)) (smx M a) N nms f' p seen) (cmA cm (p0, ij, ss ++ sel9 (wk M a) (smx M a) N nms f' p)) x M3) := by
  intro f
  induction f with
  | zero => intro f' p T2 Z2 M2 seen ss _ _ _ _ _ _ _ hs; exact hs.elim
  | succ f ih =>
    intro f' p T2 Z2 M2 seen ss hw hB hf' h rs sn z2 hse hT2 hZ2
    have sgs := hse.sg.1
    obtain ⟨w0, w1, w2', w3, c, he, w4, hnx⟩ := hse
    have L2 := h.1.1
    have hN := L2.2.1.1.2.2
    have w2 := L2.2.1.1.1
    have hlt := he.pr.1
    have hcs : c + 1 ≤ s := by
      rcases hnx with ⟨y, -⟩ | ⟨-, y⟩
      · omega
      · have := y.sg.1; omega
    have wkE := h.1.2.1.wk hg
    have b480 : ((0 : Int) ≤ ((8 * C + b : Nat) : Int) ∧ ((8 * C + b : Nat) : Int) < ((480 : Nat) : Int)) := by omega
    have cN : c < N := by omega
    have c1N : c + 1 < N := by omega
    have tm : c - (p + 4) ≤ c - (p + 4) := Nat.le_refl _
    have hZ16 : Z2 ≤ 16384 := by omega
    have hZ0 := h.2.2.1
    obtain ⟨f', rfl⟩ : ∃ f2, f' = f2 + 1 := ⟨f' - 1, by omega⟩
    have eS := sef_s (pl := nt M (a + 7)) (sm := smx M a) (nms := nms) (seen := seen) (f := f') (cpq_at he w4 cN)
    generalize sef (wk M a) (nt M (a + 7)) (smx M a) N nms (f' + 1) p seen = S at eS ⊢
    have eL : sel9 (wk M a) (smx M a) N nms (f' + 1) p = (vix9 (smx M a) nms (p + 1), p + 4, c, p) :: (if wk M a (c + 1) = 29 then sel9 (wk M a) (smx M a) N nms f' (c + 2) else []) := by rw [sel9, cpq_at he w4 cN]
    generalize sel9 (wk M a) (smx M a) N nms (f' + 1) p = SL at eL ⊢
    refine k_MM_branch0_128 L2.1 (i32s (by omega) (by omega)) (i32s (by omega) (by omega)) (i32s (by omega) (by omega)) (i32s (by omega) (by omega)) ⟨by decide, by decide⟩ ⟨fun _ => w2.1.1, fun q => ?_, fun _ => ⟨w2.1.1, ?_⟩⟩
    · rcases q with q | q
      · exact absurd q (by decide)
      · exact absurd z2 q
    rw [show mR M2 a 10 = g from L2.2.2.2.2.1, show mR M2 g 25 = g + 28 from (w2.gp hg).2.2.1.2.2.2.2.2.2.2.2.2.2.1, Int.toNat_natCast, h.2.1]
    refine ⟨(w2.gp hg).1, (w2.gp hg).2.2.2.2.2.2.2.2.2.2.2.1.1, by rw [(w2.gp hg).2.2.2.2.2.2.2.2.2.2.2.1.2]; exact b480, ?_⟩
    refine (x_MM_setItem (d := d) eγ wM h.1 rs sn z2 w0 w1 w2' w3 he w4 cN hT2 hZ16 hZ0 tm).mono (fun x M3 t3 => ?_)
    obtain ⟨ix, o3, ⟨hx, m3, T3, Z3, c3, ⟨t1, t2, t3', t4⟩, k3⟩, sx⟩ := t3
    have B3 := h.si (c := c) (Tm := 0) z2 m3 c3 t1 t3' (fun z => (k3 z).2) hb
    have L3 := c3.1
    have w3 := L3.2.1.1.1
    have wkE3 := c3.2.1.wk hg
    have hT3 : T3 ≤ c + 1 := by omega
    have hZ3 : Z3 ≤ c + 1 := by omega
    refine ⟨ix, o3, w3.1.1, ?_⟩
    obtain ⟨y, hy, hyN⟩ : ∃ y : Nat, x = (y : Int) ∧ y + 1 ≤ N := by
      rcases hx with z | z
      · exact ⟨c, z, by omega⟩
      · exact ⟨c + 1, z, by omega⟩
    have k3' : mI M3 a 16 = 0 → y = c + 1 := fun z => by have := (k3 z).1; omega
    have hG3 : mI M3 a 16 = 0 → Ge M2 g R W (C + 1) Z2 T2 M3 := fun z => (k3 z).2
    have hT23 : T2 ≤ T3 := t1
    clear hx k3 t1 t2 t3' t4 sgs
    subst hy
    refine L3.wd (d := d + 7) (by omega) (fun u hu iu => ⟨iu, L3.1, fun v hv v' hv' => ?_⟩)
    rw [wkE3] at hu
    by_cases z3 : mI M3 a 16 = 0
    · have ey := k3' z3
      subst ey
      obtain ⟨u1, -, u3, u4, ⟨e, u5, u6⟩, u9⟩ : (stf (wk M a) (nt M (a + 7)) (smx M a) nms p c seen).1 = 0 ∧ mI M3 a 16 = 0 ∧ RSq M3 a g K nms ∧ ln M3 (g + 30) = (Z2 + 1 : Nat) ∧ (∃ e, fnd9 (smx M a) nms (p + 1) = some e ∧ SNq M3 a g K nms Z0 (Z2 + 1) (e.1 :: seen)) ∧ ∀ T3, Lc M3 a g N T3 K → RSs E.2 M3 g R W T3 E.1 Z2 (vix9 (smx M a) nms (p + 1), p + 4, c, p) := by
        rcases sx with ⟨y1, y2⟩ | y
        · exact absurd (y2.1.symm.trans z3) y1
        · exact y
      have eZ : Z3 = Z2 + 1 := by have := c3.2.2.2.1.1; omega
      subst eZ
      obtain ⟨hw3, hB3⟩ := br_siw (h.1.2.2.2.2 z2).1.1 hw hB hb hT23 (hG3 z3) (u9 T3 L3)
      rw [if_neg (fun z => z u1), u5] at eS
      simp only [] at eS
      rcases hnx with ⟨e1, e2⟩ | ⟨e1, e2⟩
      · rw [if_neg (fun q => e2 (hu.symm.trans q))] at hv
        subst hv
        rw [if_pos rfl] at hv'
        subst hv'
        rw [if_neg e2] at eS eL
        subst eL
        refine x_br_end (nms := nms) hC hb B3 (by omega) (fun _ => by omega) (by omega) ⟨by decide, by decide⟩ (Or.inl rfl) (fun _ => ⟨hw3, hB3⟩) (fun M4 i4 o4 bq aI r25 rsq rcw => ⟨i4, o4, bq, Or.inr ⟨by rw [eS], by rw [eS]; exact e1.symm, by rw [aI]; exact z3, r25, rsq u3, rcw z3⟩⟩)
      · rw [if_pos (hu.trans e1)] at hv
        subst hv
        rw [if_neg (by decide)] at hv'
        subst hv'
        rw [show ((c + 1 : Nat) : Int) + 1 = ((c + 2 : Nat) : Int) by first | rfl | omega]
        rw [if_pos e1] at eS eL
        subst eL
        have key := ih f' (c + 2) T3 (Z2 + 1) M3 (e.1 :: seen) _ hw3 hB3 (by omega) B3 u3 u6 z3 e2 (by omega) (by omega)
        rw [List.append_assoc] at key
        rw [eS]
        exact key
    · have v01 : v = 0 ∨ v = 1 := by split at hv <;> omega
      obtain ⟨u1, u2⟩ : (stf (wk M a) (nt M (a + 7)) (smx M a) nms p c seen).1 ≠ 0 ∧ fpw M3 a (stf (wk M a) (nt M (a + 7)) (smx M a) nms p c seen) := by
        rcases sx with y | y
        · exact y
        · exact absurd y.2.1 z3
      rw [if_pos u1] at eS
      obtain ⟨k', hk', hkN⟩ : ∃ k' : Nat, v' = (k' : Int) ∧ k' ≤ N := by
        by_cases q : v = 0
        · rw [if_pos q] at hv'; exact ⟨y, hv', by omega⟩
        · rw [if_neg q] at hv'; exact ⟨y + 1, by omega, by omega⟩
      subst hk'
      refine x_br_end (nms := nms) (cm := cm) (br := (p0, ij, ss)) hC hb B3 hkN (fun q => absurd q z3) (by omega) (i32s (by omega) (by omega)) (Or.inr z3) (fun z => absurd z z3) (fun M4 i4 o4 bq aI r25 rsq _ => ⟨i4, o4, bq, Or.inl ?_⟩)
      rw [eS]
      exact ⟨u1, by rw [aI]; exact u2.1, by rw [aI]; exact u2.2⟩
theorem x_MM_branch0 {gm : gm9} {cm : cm9} {p q s e b : Nat} (eγ : E.2 = txg M a N nms gm) (hw : RCw E.2 M2 g R W T2 E.1 Z2 C cm) (wM : Wd M a) (h : cI M a g N K R W C E tg T2 Z2 M2) (rs : RSq M2 a g K nms) (z2 : mI M2 a 16 = 0) (hcc : Cc M2 g R W T2 E.1 Z2 C) (hb : mI M2 (g + 25) C = (b : Int)) (hC : C < 60) (he5 : Eo (wk M a) 5 p q) (w33 : wk M a q = 33) (hss : Ss (wk M a) (q + 1) s) (hsN : s < N) (heN : e < N) (hT2 : T2 ≤ p) (hZ2 : Z2 ≤ p) : Ci G y_MM_branch0 (d + 9) [vr a, vi C, vi p, vi e] M2 (fun x M3 => i32 x ∧ mOk M3 ∧ brX M a g N K R W C E tg s b nms (brS (wk M a) (nt M (a + 7)) (smx M a) N nms b p q) (cmA cm (brw (wk M a) (nt M (a + 7)) (smx M a) N nms p q)) x M3) := by
  have L2 := h.1
  have hN := L2.2.1.1.2.2
  have hg := L2.2.2.2.2.2.1
  have w2 := L2.2.1.1.1
  have hlt := he5.pr.1
  have hqs := hss.sg.1
  have wkE := h.2.1.wk hg
  have sx2 := h.2.1.sx wM hg
  have hb8 : b ≤ 8 := by have := hcc.2.2.1; omega
  have b60 : ((0 : Int) ≤ (C : Int) ∧ (C : Int) < ((60 : Nat) : Int)) := by omega
  have ie : i32 (e : Int) := i32s (by omega) (by omega)
  have pN : p < N := by omega
  have qN : q < N := by omega
  have q1N : q + 1 < N := by
    rcases hss with ⟨-, y⟩ | ⟨-, f, y⟩
    · omega
    · cases f with
      | zero => exact y.elim
      | succ f =>
        obtain ⟨-, -, -, -, c, y1, -, y2⟩ := y
        have := y1.pr.1
        rcases y2 with ⟨y2, -⟩ | ⟨-, y2⟩
        · omega
        · have := y2.sg.1; omega
  refine k_MM_branch0 L2.1 (i32s (by omega) (by omega)) (i32s (by omega) (by omega)) ie ?_
  rw [show mR M2 a 10 = g from L2.2.2.2.2.1, show mR M2 g 22 = g + 25 from (w2.gp hg).2.2.1.2.2.2.2.2.2.2.1, Int.toNat_natCast, hb]
  refine ⟨w2.1.1, (w2.gp hg).1, (w2.gp hg).2.2.2.2.2.2.2.2.1.1, by rw [(w2.gp hg).2.2.2.2.2.2.2.2.1.2]; exact b60, fun q8 => ?_, fun q8 => ?_⟩
  · refine (s_MM_place0 (d := d + 7) L2.1 L2.2.1 pN).mono (fun y M5 h5 => ?_)
    obtain ⟨e5, hy⟩ := h5
    subst e5
    have hy32 : i32 y := by rw [hy]; exact (L2.1 _ _).1
    refine ⟨hy32, L2.1, w2.1.1, (s_MM_stop ⟨by decide, by decide⟩ hy32 L2.1 w2).mono (fun M6 h6 => ⟨h6.1.1, ie, h6.1.1, ⟨by omega, ?_⟩, Or.inl ?_⟩)⟩
    rotate_left
    · have b8 : b = 8 := by omega
      unfold brS
      rw [if_pos b8]
      exact ⟨by simp, h6.2.1, by rw [h6.2.2.1, hy, sx2.2.1]⟩
    obtain ⟨-, -, T3, Z3, c3, -, -⟩ := si_stop (c := 0) (Tm := 0) h (by decide) h6
    exact ⟨T3, Z3, c3, fun z => by rw [h6.2.1] at z; exact absurd z (by decide)⟩
  · have hb7 : b < 8 := by omega
    have eB : brS (wk M a) (nt M (a + 7)) (smx M a) N nms b p q = bsf (wk M a) (nt M (a + 7)) (smx M a) N nms p q := if_neg (by omega)
    rw [eB]
    have eS : bsf (wk M a) (nt M (a + 7)) (smx M a) N nms p q = if (rf9 (wk M a) (nt M (a + 7)) (smx M a) nms 0 0 p q).1 ≠ 0 then (rf9 (wk M a) (nt M (a + 7)) (smx M a) nms 0 0 p q, 0) else if wk M a (q + 1) = 10 then ((0, 0), q + 2) else sef (wk M a) (nt M (a + 7)) (smx M a) N nms N (q + 1) [] := rfl
    generalize bsf (wk M a) (nt M (a + 7)) (smx M a) N nms p q = S at eS ⊢
    have e8 : 8 * (C : Int) + (b : Int) = ((8 * C + b : Nat) : Int) := by omega
    have b480 : ((0 : Int) ≤ ((8 * C + b : Nat) : Int) ∧ ((8 * C + b : Nat) : Int) < ((480 : Nat) : Int)) := by omega
    rw [e8]
    refine L2.ub (d := d + 6) (by omega) (by rw [wkE]; exact he5.pr.2.2.2.2.1) qN (by rw [wkE]; exact w33) (Or.inr (Or.inr rfl)) ⟨i32s (by omega) (by omega), L2.1, w2.1.1, ?_⟩
    rw [show mR M2 a 10 = g from L2.2.2.2.2.1, show mR M2 g 23 = g + 26 from (w2.gp hg).2.2.1.2.2.2.2.2.2.2.2.1]
    refine ⟨(w2.gp hg).1, (x_crule (d := d + 1) eγ h rs z2 wM (Or.inl rfl) (by omega) (he5.six (by omega)) qN).mono (fun x M3 q3 => ?_)⟩
    obtain ⟨ex, T3, t1, t2, Rl, hp, qx⟩ := q3
    generalize rf9 (wk M a) (nt M (a + 7)) (smx M a) nms 0 0 p q = F at eS qx
    subst ex
    have iT : i32 (T2 : Int) := i32s (by omega) (by omega)
    have hZ16 : Z2 ≤ 16385 := by omega
    have hT16 : T2 ≤ 16385 := by omega
    have hTs : T3 ≤ q := by omega
    have hZs : Z2 ≤ q := by omega
    have iq2 : i32 ((q : Int) + 1 + 1) := i32s (by omega) (by omega)
    have hqi : 0 ≤ (q : Int) + 1 + 1 ∧ (q : Int) + 1 + 1 ≤ N := by omega
    have ib1 : i32 ((b : Int) + 1) := i32s (by omega) (by omega)
    have b60' := b60
    have t1' := Nat.le_of_lt t1
    have iZ0 : i32 ((Z2 : Int) - Z2) := i32s (by omega) (by omega)
    obtain ⟨c3, -⟩ := h.rl z2 t1' Rl hp
    have L3 := c3.1
    have w3 := L3.2.1.1.1
    clear hqs hlt t2 t1 hN
    refine ⟨iT, L3.1, (w3.gp hg).2.2.2.2.2.2.2.2.2.1.1, by rw [(w3.gp hg).2.2.2.2.2.2.2.2.2.1.2]; exact b480, fun M4 e4 => ?_⟩
    rw [Int.toNat_natCast] at e4
    have P := fun (M5 M6 : mM) (pl : Int) (ip : i32 pl) e5 e6 => br_put (M5 := M5) (M6 := M6) h z2 hcc hb hb7 hZ16 hT16 t1' ip Rl hp e4 e5 e6
    have c4 := (P _ _ 0 ⟨by decide, by decide⟩ rfl rfl).2.1.1
    have L4 := c4.1
    have w4 := L4.2.1.1.1
    rw [show mR M4 a 10 = g from L4.2.2.2.2.1, show mR M4 g 24 = g + 27 from (w4.gp hg).2.2.1.2.2.2.2.2.2.2.2.2.1]
    refine ⟨w4.1.1, (w4.gp hg).1, (s_MM_place0 (d := d + 7) L4.1 L4.2.1 pN).mono (fun y M5 h5 => ?_)⟩
    obtain ⟨e5, hy⟩ := h5
    subst e5
    have hy32 : i32 y := by rw [hy]; exact (L4.1 _ _).1
    refine ⟨hy32, L4.1, (w4.gp hg).2.2.2.2.2.2.2.2.2.2.1.1, by rw [(w4.gp hg).2.2.2.2.2.2.2.2.2.2.1.2]; exact b480, fun M6 e6 => ?_⟩
    rw [Int.toNat_natCast] at e6
    have c6 := (P M6 _ y hy32 e6 rfl).2.1.2
    have L6 := c6.1
    have w6 := L6.2.1.1.1
    have z30 : mI M6 (g + 30) 1 = (Z2 : Int) := c6.2.2.2.1.1
    rw [show mR M6 a 10 = g from L6.2.2.2.2.1, show mR M6 g 27 = g + 30 from (w6.gp hg).2.2.1.2.2.2.2.2.2.2.2.2.2.2.2.1, show mR M6 g 25 = g + 28 from (w6.gp hg).2.2.1.2.2.2.2.2.2.2.2.2.2.1, z30]
    refine ⟨w6.1.1, (w6.gp hg).1, (w6.nu (n30 hg)).1, (w6.gp hg).2.2.2.2.2.2.2.2.2.2.2.1.1, by rw [(w6.gp hg).2.2.2.2.2.2.2.2.2.2.2.1.2]; exact b480, fun M7 e7 => ?_⟩
    rw [Int.toNat_natCast] at e7
    obtain ⟨B7, -, a7⟩ := P M6 M7 y hy32 e6 e7
    have hyp : y = nt M (a + 7) p := by rw [hy, (c4.2.1.sx wM hg).2.1]
    have W7 : mI M3 a 16 = 0 → Rtw E.2 M3 g R W T3 E.1 (T2 : Int) 0 p q → RCw E.2 M7 g R W T3 E.1 Z2 C cm ∧ RBp E.2 M7 g R W T3 E.1 Z2 Z2 (8 * C + b) (nt M (a + 7) p, (p, q), []) := fun z hr => by
      rw [← hyp]
      exact br_putw h z2 hb hb7 hZ16 hT16 t1' hy32 Rl hp z hw hr e4 e6 e7
    have rs7 : RSq M3 a g K nms → RSq M7 a g K nms := fun r3 => ((r3.st (i := 26) L3 iT (by omega) (by decide) (by decide) e4).st (i := 27) L4 hy32 (by omega) (by decide) (by decide) e6).st (i := 28) L6 (i32s (by omega) (by omega)) (by omega) (by decide) (by decide) e7
    have L7 := B7.1.1
    have w7 := L7.2.1.1.1
    have wkE7 := B7.1.2.1.wk hg
    rw [show (q : Int) + 1 = ((q + 1 : Nat) : Int) by first | rfl | omega]
    refine L7.wd (d := d + 7) q1N (fun u hu iu => ⟨iu, L7.1, fun q10 => ⟨w7.1.1, ?_⟩, fun q10 => ?_⟩)
    · rw [wkE7] at hu
      have es : s = q + 2 := by
        rcases hss with ⟨-, y⟩ | ⟨y, -⟩
        · omega
        · exact absurd (hu.symm.trans q10) y
      have z30' : mI M7 (g + 30) 1 = (Z2 : Int) := B7.1.2.2.2.1.1
      rw [show mR M7 a 10 = g from L7.2.2.2.2.1, show mR M7 g 27 = g + 30 from (w7.gp hg).2.2.1.2.2.2.2.2.2.2.2.2.2.2.2.1, show mR M7 g 25 = g + 28 from (w7.gp hg).2.2.1.2.2.2.2.2.2.2.2.2.2.1, show mR M7 g 26 = g + 29 from (w7.gp hg).2.2.1.2.2.2.2.2.2.2.2.2.2.2.1, z30', Int.toNat_natCast, B7.2.1]
      refine ⟨(w7.gp hg).1, (w7.nu (n30 hg)).1, (w7.gp hg).2.2.2.2.2.2.2.2.2.2.2.1.1, by rw [(w7.gp hg).2.2.2.2.2.2.2.2.2.2.2.1.2]; exact b480, (w7.gp hg).2.2.2.2.2.2.2.2.2.2.2.2.1, by rw [(w7.gp hg).2.2.2.2.2.2.2.2.2.2.2.2.2]; exact b480, iZ0, fun M8 e8 => ?_⟩
      obtain ⟨c8, f8, a8, G8⟩ := B7.1.st (i := 29) iZ0 (by omega) (by omega) (by decide) (by decide) e8
      have L8 := c8.1
      have w8 := L8.2.1.1.1
      rw [show mR M8 a 10 = g from L8.2.2.2.2.1, show mR M8 g 22 = g + 25 from (w8.gp hg).2.2.1.2.2.2.2.2.2.2.1]
      refine ⟨(w8.gp hg).1, (w8.gp hg).2.2.2.2.2.2.2.2.1.1, by rw [(w8.gp hg).2.2.2.2.2.2.2.2.1.2]; exact b60', ib1, fun M9 e9 => ?_⟩
      rw [show ((q + 1 : Nat) : Int) + 1 = (q : Int) + 1 + 1 by first | rfl | omega]
      have key := br_end (x := (q : Int) + 1 + 1) (s := s) hC hb7 B7 hqi (fun _ => by omega) hZ16 e8 e9
      obtain ⟨c9, f9, a9, G9⟩ := c8.st (i := 25) ib1 (by omega) (by omega) (by decide) (by decide) e9
      have aI : mI M9 a = mI M3 a := by rw [a9, a8, a7]
      refine ⟨iq2, key.1, key.2, ?_⟩
      rcases qx with ⟨u1, u2⟩ | ⟨u1, u2, u3, u9⟩
      · rw [if_pos u1] at eS
        rw [eS]
        exact Or.inl ⟨u1, by rw [aI]; exact u2.1, by rw [aI]; exact u2.2⟩
      · rw [if_neg (fun z => z u1), if_pos (hu.symm.trans q10)] at eS
        rw [eS]
        obtain ⟨w7a, w7b⟩ := W7 u2 u9
        have eb : brw (wk M a) (nt M (a + 7)) (smx M a) N nms p q = (nt M (a + 7) p, (p, q), []) := by
          unfold brw
          rw [if_pos (hu.symm.trans q10)]
        rw [eb]
        exact Or.inr ⟨rfl, es.symm, by rw [aI]; exact u2, by rw [f9, if_pos ⟨rfl, rfl⟩], ((rs7 u3).st (i := 29) L7 iZ0 (by omega) (by decide) (by decide) e8).st (i := 25) L8 ib1 (by omega) (by decide) (by decide) e9, br_endw hC hb7 B7 (by rw [a7]; exact u2) hZ16 w7a w7b e8 e9⟩
    · rw [wkE7] at hu
      obtain ⟨f, se⟩ : ∃ f, Se (wk M a) f (q + 1) s := by
        rcases hss with ⟨y, -⟩ | ⟨-, y⟩
        · exact absurd (hu.trans y) q10
        · exact y
      have n10 : ¬ wk M a (q + 1) = 10 := fun z => q10 (hu.trans z)
      by_cases z7 : mI M7 a 16 = 0
      · rcases qx with ⟨u1, u2⟩ | ⟨u1, u2, u3, u9⟩
        · rw [a7, u2.1] at z7; exact absurd z7 u1
        · rw [if_neg (fun z => z u1), if_neg n10] at eS
          rw [eS]
          obtain ⟨w7a, w7b⟩ := W7 u2 u9
          have eb : brw (wk M a) (nt M (a + 7)) (smx M a) N nms p q = (nt M (a + 7) p, (p, q), [] ++ sel9 (wk M a) (smx M a) N nms N (q + 1)) := by
            unfold brw
            rw [if_neg n10]
            rfl
          rw [eb]
          exact x_br_sets eγ wM hC hb7 hsN hg f N (q + 1) T3 Z2 M7 [] [] w7a w7b (by omega) B7 (rs7 u3) SNq.nil z7 se (by omega) (by omega)
      · rcases qx with ⟨u1, u2⟩ | ⟨u1, u2, u3⟩
        · rw [if_pos u1] at eS
          refine x_br_end (nms := nms) (cm := cm) (br := (0, (0, 0), [])) hC hb7 B7 (by omega) (fun y => absurd y z7) hZ16 ⟨by decide, by decide⟩ (Or.inr z7) (fun z => absurd z z7) (fun M9 i9 o9 bq aI r25 rsq _ => ⟨i9, o9, bq, Or.inl ?_⟩)
          rw [eS]
          exact ⟨u1, by rw [aI, a7]; exact u2.1, by rw [aI, a7]; exact u2.2⟩
        · rw [a7] at z7; exact absurd u2 z7
end BRX
end
section
/-! The reference's commands, exactly. -/
section CXP
variable {w pl : Nat → Int} {sm : Nat → Nat → Prop} {N k e j p q b f mc : Nat} {nms : List nm9} {s : st9}
theorem brf_s (hq : clq w (p - 1) N = q) (hpe : ¬ e ≤ p) : brf w pl sm N nms e (f + 1) p b = if (brS w pl sm N nms b p q).1.1 ≠ 0 then (brS w pl sm N nms b p q).1 else brf w pl sm N nms e f ((brS w pl sm N nms b p q).2 + 1) (b + 1) := by
  rw [brf, if_neg hpe, hq]
  unfold brS
  by_cases c : b = 8
  · rw [if_pos c, if_pos c, if_pos (by simp)]
  · rw [if_neg c, if_neg c]
    unfold bsf
    by_cases c1 : (rf9 w pl sm nms 0 0 p q).1 ≠ 0
    · rw [if_pos c1, if_pos c1, if_pos c1]
    · rw [if_neg c1, if_neg c1]
      by_cases c2 : w (q + 1) = 10
      · rw [if_pos c2, if_pos c2, if_neg (by simp)]
      · rw [if_neg c2, if_neg c2]
theorem brf_e (hpe : e ≤ p) : brf w pl sm N nms e f p b = (0, 0) := by
  cases f with
  | zero => rfl
  | succ f => rw [brf, if_pos hpe]
theorem brs_s (hq : clq w (p - 1) N = q) (hpe : ¬ e ≤ p) (h0 : (brS w pl sm N nms b p q).1.1 = 0) : brs9 w pl sm N nms e (f + 1) p = brw w pl sm N nms p q :: brs9 w pl sm N nms e f ((brS w pl sm N nms b p q).2 + 1) := by
  rw [brs9, if_neg hpe, hq]
  unfold brS at h0 ⊢
  by_cases c : b = 8
  · rw [if_pos c] at h0
    exact absurd h0 (by simp)
  · rw [if_neg c] at h0 ⊢
    unfold bsf at h0 ⊢
    by_cases c1 : (rf9 w pl sm nms 0 0 p q).1 ≠ 0
    · rw [if_pos c1] at h0
      exact absurd h0 c1
    · rw [if_neg c1]
      unfold brw
      by_cases c2 : w (q + 1) = 10
      · rw [if_pos c2, if_pos c2, if_pos c2]
      · rw [if_neg c2, if_neg c2, if_neg c2]
theorem itc_many (h : s.2.1.2.2.1 = mc) : (itc w pl sm N mc k e s).2.2 = (5, pl k) := by
  unfold itc
  simp only []
  rw [if_pos h]
theorem itc_f (h : s.2.1.2.2.1 ≠ mc) (hr : nxq w 17 N (k + 1) = j) (h3 : (fst9 (rf9 w pl sm s.1 0 1 (k + 1) j) (brf w pl sm N s.1 e N (j + 1) 0)).1 ≠ 0) : (itc w pl sm N mc k e s).2.2 = fst9 (rf9 w pl sm s.1 0 1 (k + 1) j) (brf w pl sm N s.1 e N (j + 1) 0) := by
  unfold itc
  simp only [hr]
  rw [if_neg h, if_pos h3]
theorem itc_ok (h : s.2.1.2.2.1 ≠ mc) (hr : nxq w 17 N (k + 1) = j) (h3 : (fst9 (rf9 w pl sm s.1 0 1 (k + 1) j) (brf w pl sm N s.1 e N (j + 1) 0)).1 = 0) : itc w pl sm N mc k e s = (s.1, (s.2.1.1, s.2.1.2.1, s.2.1.2.2.1 + 1, s.2.1.2.2.2), (0, 0)) := by
  unfold itc
  simp only [hr]
  rw [if_neg h, if_neg (fun z => z h3)]
end CXP
section CXA
variable {G : mG} {d a g R W C T Z T2 Z2 N K : Nat} {M M2 M3 : mM} {E : Eg9} {tg : Int} {s s' : st9}
/-- a cell of the game's own is set: the names stay -/
theorem RSq.own {i : Nat} {v : Int} {nms : List nm9} (rs : RSq M2 a g K nms) (L2 : Lc M2 a g N T2 K) (hv : i32 v) (e : M3 = mUI M2 g i v) : RSq M3 a g K nms := by
  have hg := L2.2.2.2.2.2.1
  have w2 := L2.2.1.1.1
  have a0 := goff0 hg
  obtain ⟨m1, f1, l1⟩ := mv_cell hv L2.1 w2 (show a ≤ g by omega) ⟨a0.1, a0.2.1, a0.2.2.1⟩ e
  have no : ∀ q : Nat, False → q ∈ nums a := fun _ z => z.elim
  have aI1 := (m1.fld w2 no (by omega)).1
  have sx1 : SXq M2 a M3 := (iF.mk (g := g) w2 m1 (fun _ z => z.elim) (fun x z => Or.inr (Or.inl (by omega))) (fun i _ _ _ => by rw [aI1])).sx w2 hg
  refine rs.eq ((lst3.of m1 (fun _ _ z => z)).q K) ?_ ⟨by rw [l1], by rw [l1]⟩ sx1
  funext u
  unfold tn
  rw [show mI M3 (g + 18) = mI M2 (g + 18) from funext (fun x => by rw [f1, if_neg (fun z => by omega)]), show mI M3 (g + 14) = mI M2 (g + 14) from funext (fun x => by rw [f1, if_neg (fun z => by omega)])]
theorem x_ci_end0 {gm : gm9} {cm : cm9} {e : Nat} (eγ : E.2 = txg M a N s.1 gm) (h0 : Df M a g N T K R W C Z E tg) (hC : C < 60) (h : cI M a g N K R W C E tg T2 Z2 M2) (hc : mI M2 a 16 = 0 → Cc M2 g R W T2 E.1 Z2 C ∧ T2 ≤ e ∧ Z2 ≤ e ∧ RCw E.2 M2 g R W T2 E.1 Z2 C cm) (rs : mI M2 a 16 = 0 → RSq M2 a g K s.1) (flt : mI M2 a 16 ≠ 0 → s'.2.2.1 ≠ 0 ∧ fpw M2 a s'.2.2) (good : mI M2 a 16 = 0 → s' = (s.1, (W, R, C + 1, if tg = -1 then 0 else 1), (0, 0))) (e3 : M3 = mUI M2 g 18 ((C : Int) + 1)) : mOk M3 ∧ itX M a g N e s' (gm.1, gm.2.1, gm.2.2 ++ [cm]) M3 := by
  obtain ⟨hL, ⟨g6, g12, g18, g17⟩, -, hK, hD⟩ := h0
  have wM := hL.2.1.1.1
  obtain ⟨L2, I2, ⟨g2, q6, q12⟩, ⟨z30, z32, z34⟩, D2⟩ := h
  have hg := L2.2.2.2.2.2.1
  have hB := L2.2.2.2.2.2.2.1
  have w2 := L2.2.1.1.1
  have a0 := goff0 hg
  obtain ⟨m1, f1, l1⟩ := mv_cell (v := (C : Int) + 1) (i32s (by omega) (by omega)) L2.1 w2 (show a ≤ g by omega) ⟨a0.1, a0.2.1, a0.2.2.1⟩ e3
  have no : ∀ q : Nat, False → q ∈ nums a := fun _ z => z.elim
  have aI1 := (m1.fld w2 no (by omega)).1
  have n18 : ∀ i, i ≠ 18 → mI M3 g i = mI M2 g i := fun i hi => by rw [f1, if_neg (fun z => hi z.2)]
  have x18 : mI M3 g 18 = (C : Int) + 1 := by rw [f1, if_pos ⟨rfl, rfl⟩]
  have L3 : Lc M3 a g N T2 K := L2.mv m1 no (fun _ z => z.elim) (by rw [n18 6 (by omega)]; omega) (by rw [n18 12 (by omega)]; omega) (by rw [n18 6 (by omega), n18 12 (by omega)]; omega) (fun r _ => by rw [f1, if_neg (fun z => by omega)])
  have ss : ∀ {q}, q ∈ nums a → sameN M2 M3 q := fun hq => m1.lst hq (fun z => z)
  have I3 : iF M a g M3 := I2.trans (iF.mk w2 m1 (fun _ z => z.elim) (fun x z => Or.inr (Or.inl (by omega))) (fun i _ _ _ => by rw [aI1]))
  refine ⟨m1.1, I3, ?_⟩
  by_cases z : mI M3 a 16 = 0
  · have z2 : mI M2 a 16 = 0 := by rw [← aI1]; exact z
    obtain ⟨c1, c2, c3, c9⟩ := hc z2
    have G3 : Ge M2 g R W (C + 1) Z2 T2 M3 := ge_mv w2 hg m1 no (fun z => z) (fun z => z) (fun z => z) (fun i i1 i2 (z : g + i = g) => by omega) (fun n _ => ⟨(ss (tL_in (q := g + 1) hg (tLk1 g))).2.1 n, (ss (tL_in (q := g + 7) hg (tLk7 g))).2.1 n, (ss (tL_in (q := g + 9) hg (tLk9 g))).2.1 n, (ss (tL_in (q := g + 11) hg (tLk11 g))).2.1 n, (ss (tL_in (q := g + 3) hg (tLk3 g))).2.1 n⟩)
    have u1 := good z2
    exact Or.inr ⟨by rw [u1], z, T2, K, R, W, C + 1, Z2, (E.1, gWs E.2 E.2.2.2.2.2.2.1 (E.2.2.2.2.2.2.2.1, E.2.2.2.2.2.2.2.2.1, E.2.2.2.2.2.2.2.2.2 ++ [cm])), tg, ⟨L3, ⟨by rw [n18 6 (by omega)]; exact q6, by rw [n18 12 (by omega)]; exact q12, by rw [x18]; omega, by rw [n18 17 (by omega), g2]; exact g17⟩, ⟨by rw [(ss (n30 hg)).1]; exact z30, by rw [(ss (n32 hg)).1]; exact z32, by rw [(ss (n34 hg)).1]; exact z34⟩, hK, ((D2 z2).cu (E' := (E.1, gWs E.2 E.2.2.2.2.2.2.1 (E.2.2.2.2.2.2.2.1, E.2.2.2.2.2.2.2.2.1, E.2.2.2.2.2.2.2.2.2 ++ [cm]))) hC rfl ((D2 z2).2.2.2.2.2.2.2.cu c9) c1).ge G3⟩, ⟨c2, c3⟩, by rw [u1]; exact (rs z2).own L2 (i32s (by omega) (by omega)) e3, by rw [u1], by rw [u1, (I3.sx wM hg).tx9]; show gWs E.2 _ _ = _; rw [eγ]; rfl⟩
  · obtain ⟨u1, u2⟩ := flt (by rw [← aI1]; exact z)
    exact Or.inl ⟨u1, by rw [aI1]; exact u2.1, by rw [aI1]; exact u2.2⟩
theorem x_ci_end {gm : gm9} {cm : cm9} {e : Nat} {p : Int} (eγ : E.2 = txg M a N s.1 gm) (h0 : Df M a g N T K R W C Z E tg) (hC : C < 60) (h : cI M a g N K R W C E tg T2 Z2 M2) (heN : e < N) (hc : mI M2 a 16 = 0 → Cc M2 g R W T2 E.1 Z2 C ∧ T2 ≤ e + 1 ∧ Z2 ≤ e + 1 ∧ RCw E.2 M2 g R W T2 E.1 Z2 C cm) (rs : mI M2 a 16 = 0 → RSq M2 a g K s.1) (flt : mI M2 a 16 ≠ 0 → s'.2.2.1 ≠ 0 ∧ fpw M2 a s'.2.2) (good : mI M2 a 16 = 0 → s' = (s.1, (W, R, C + 1, if tg = -1 then 0 else 1), (0, 0))) (ip : i32 p) (hp : ¬ (mI M2 a 16 = 0) ∨ (e : Int) ≤ p) : h_MM_commandItem_116 G (d + 9) a e C p M2 (fun M' => mOk M' ∧ itX M a g N (e + 1) s' (gm.1, gm.2.1, gm.2.2 ++ [cm]) M') := by
  have L2 := h.1
  have hN := L2.2.1.1.2.2
  have hg := L2.2.2.2.2.2.1
  have w2 := L2.2.1.1.1
  refine k_MM_commandItem_116 L2.1 (i32s (by omega) (by omega)) (i32s (by omega) (by omega)) ip ⟨w2.1.1, fun _ => ?_, fun q => absurd hp q⟩
  rw [show mR M2 a 10 = g from L2.2.2.2.2.1]
  exact ⟨(w2.gp hg).1, i32s (by omega) (by omega), fun M3 e3 => x_ci_end0 eγ h0 hC h hc rs flt good e3⟩
theorem x_ci_run {gm : gm9} {e : Nat} (eγ : E.2 = txg M a N s.1 gm) (h0 : Df M a g N T K R W C Z E tg) (hC : C < 60) (heN : e < N) (hg : g = a + 13 ∨ g = a + 49) : ∀ (f f' p b T2 Z2 : Nat) (M2 : mM) (cm : cm9), RCw E.2 M2 g R W T2 E.1 Z2 C cm → 1 ≤ p → e < p + f' → cI M a g N K R W C E tg T2 Z2 M2 → RSq M2 a g K s.1 → mI M2 a 16 = 0 → Cc M2 g R W T2 E.1 Z2 C → mI M2 (g + 25) C = (b : Int) → Br (wk M a) f p e → T2 ≤ p → Z2 ≤ p → ((brf (wk M a) (nt M (a + 7)) (smx M a) N s.1 e f' p b).1 ≠ 0 → s'.2.2 = brf (wk M a) (nt M (a + 7)) (smx M a) N s.1 e f' p b) → ((brf (wk M a) (nt M (a + 7)) (smx M a) N s.1 e f' p b).1 = 0 → s' = (s.1, (W, R, C + 1, if tg = -1 then 0 else 1), (0, 0))) → h_MM_commandItem_116 G (d + 9) a e C p M2 (fun M' => mOk M' ∧ itX M a g N (e + 1) s' (gm.1, gm.2.1, gm.2.2 ++ [(cm.1, cm.2.1, cm.2.2.1, cm.2.2.2 ++ brs9 (wk M a) (nt M (a + 7)) (smx M a) N s.1 e f' p)]) M') := by
  have wM := h0.1.2.1.1.1
  intro f
  induction f with
  | zero => intro f' p b T2 Z2 M2 cm _ _ _ _ _ _ _ _ hb; exact hb.elim
  | succ f ih =>
    intro f' p b T2 Z2 M2 cm hw hp1 hf' h rs z2 hcc hb hbr hT hZ fr gd
    have L2 := h.1
    have hN := L2.2.1.1.2.2
    have w2 := L2.2.1.1.1
    obtain ⟨q, s9, h1, h2, h3, h4⟩ := hbr
    have p1 := h1.pr.1
    have p3 := h3.sg.1
    have hse : s9 ≤ e := by
      rcases h4 with ⟨y, -⟩ | ⟨-, y⟩
      · omega
      · have := y.sg.1; omega
    obtain ⟨f', rfl⟩ : ∃ f2, f' = f2 + 1 := ⟨f' - 1, by omega⟩
    have eq : clq (wk M a) (p - 1) N = q := clq_eo (by rw [show p - 1 + 1 = p by first | rfl | omega]; exact h1.six (by omega)) h2 (by omega)
    rw [brf_s eq (by omega)] at fr gd
    have eB := fun z => brs_s (pl := nt M (a + 7)) (sm := smx M a) (nms := s.1) (b := b) (f := f') (e := e) eq (show ¬ e ≤ p by omega) z
    generalize brs9 (wk M a) (nt M (a + 7)) (smx M a) N s.1 e (f' + 1) p = BL at eB ⊢
    refine k_MM_commandItem_116 L2.1 (i32s (by omega) (by omega)) (i32s (by omega) (by omega)) (i32s (by omega) (by omega)) ⟨w2.1.1, fun q => ?_, fun _ => ?_⟩
    · rcases q with q | q
      · exact absurd z2 q
      · omega
    refine (x_MM_branch0 (d := d) eγ hw wM h rs z2 hcc hb hC h1 h2 h3 (by omega) heN hT hZ).mono (fun x M3 t3 => ?_)
    obtain ⟨ix, o3, ⟨hx, T3, Z3, c3, k3⟩, sx⟩ := t3
    refine ⟨ix, o3, ?_⟩
    generalize brS (wk M a) (nt M (a + 7)) (smx M a) N s.1 b p q = S at fr gd sx eB
    rcases sx with ⟨u1, u2⟩ | ⟨u1, u2, u3, u4, u5, u9⟩
    · have z3 : mI M3 a 16 ≠ 0 := by rw [u2.1]; exact u1
      rw [if_pos u1] at fr
      have fr := fr u1
      exact x_ci_end (s := s) eγ h0 hC c3 heN (fun y => absurd y z3) (fun y => absurd y z3) (fun _ => by rw [fr]; exact ⟨u1, u2⟩) (fun y => absurd y z3) (i32s (by omega) (by omega)) (Or.inl z3)
    · obtain ⟨ex, t1, t2, cc⟩ := k3 u3
      subst ex
      rw [if_neg (fun z => z u1), u2] at fr gd
      rw [show (s9 : Int) + 1 = ((s9 + 1 : Nat) : Int) by first | rfl | omega]
      have w9 := u9 T3 Z3 c3
      have eB := eB u1
      rw [u2] at eB
      subst eB
      rcases h4 with ⟨y, -⟩ | ⟨-, y⟩
      · rw [brs_e (by omega)]
        exact x_ci_end eγ h0 hC c3 heN (fun _ => ⟨cc, by omega, by omega, w9⟩) (fun _ => u5) (fun z => absurd u3 z) (fun _ => gd (by rw [brf_e (by omega)])) (i32s (by omega) (by omega)) (Or.inr (by omega))
      · have key := ih f' (s9 + 1) (b + 1) T3 Z3 M3 _ w9 (by omega) (by omega) c3 u5 u3 cc (by rw [u4]; omega) y (by omega) (by omega) fr gd
        have el : (cmA cm (brw (wk M a) (nt M (a + 7)) (smx M a) N s.1 p q)).2.2.2 ++ brs9 (wk M a) (nt M (a + 7)) (smx M a) N s.1 e f' (s9 + 1) = cm.2.2.2 ++ brw (wk M a) (nt M (a + 7)) (smx M a) N s.1 p q :: brs9 (wk M a) (nt M (a + 7)) (smx M a) N s.1 e f' (s9 + 1) := by
          show (cm.2.2.2 ++ [_]) ++ _ = _
          rw [List.append_assoc]
          rfl
        rw [el] at key
        exact key
theorem x_MM_commandItem {gm : gm9} {k e j f : Nat} (eγ : E.2 = txg M a N s.1 gm) (h78 : wk M a k = 7 ∨ wk M a k = 8) (h : Df M a g N T K R W C Z E tg) (hS : RSq M a g K s.1) (hst : s.2.1 = (W, R, C, if tg = -1 then 0 else 1)) (h16 : mI M a 16 = 0) (he6 : Eo (wk M a) 6 (k + 1) j) (w17 : wk M a j = 17) (hbr : Br (wk M a) f (j + 1) e) (heN : e < N) (hT : T ≤ k) (hZ : Z ≤ k) : Cv G y_MM_commandItem (d + 10) [vr a, vi k, vi e] M (fun M' => mOk M' ∧ itX M a g N (e + 1) (itc (wk M a) (nt M (a + 7)) (smx M a) N 60 k e s) (gm.1, gm.2.1, gm.2.2 ++ [cmd9 (wk M a) (nt M (a + 7)) (smx M a) N s.1 k e]) M') := by
  generalize es : itc (wk M a) (nt M (a + 7)) (smx M a) N 60 k e s = s'
  have hL := h.1
  have hN := hL.2.1.1.2.2
  have hg := hL.2.2.2.2.2.1
  have w := hL.2.1.1.1
  have g18 := h.2.1.2.2.1
  have hBd := h.2.2.2.2.1
  have hlt := he6.pr.1
  have hbs := hbr.sg.1
  have ie : i32 (e : Int) := i32s (by omega) (by omega)
  have ik : i32 (k : Int) := i32s (by omega) (by omega)
  have kN : k < N := by omega
  have jN : j < N := by omega
  refine k_MM_commandItem hL.1 ik ie ⟨w.1.1, ?_⟩
  rw [show mR M a 10 = g from hL.2.2.2.2.1, g18, show (k : Int) + 1 = ((k + 1 : Nat) : Int) by first | rfl | omega]
  refine ⟨(w.gp hg).1, fun q => x_st_it (d := d + 8) (c := 5) (by decide) ⟨by decide, by decide⟩ hL kN (by rw [← es]; exact itc_many (by rw [hst]; show C = 60; omega)), fun q => ?_⟩
  have hC : C < 60 := by omega
  have n60 : s.2.1.2.2.1 ≠ 60 := by rw [hst]; show C ≠ 60; omega
  have har : nxq (wk M a) 17 N (k + 1) = j := nxq_at (by omega) (by omega) w17 (fun m m1 m2 => by
    have := rwd_all he6 m1 m2
    unfold rwd at this
    omega)
  have e1 := fun z => (itc_f (mc := 60) n60 har z).symm.trans (by rw [es])
  have e2 := fun z => es.symm.trans (itc_ok (mc := 60) n60 har z)
  rw [hst] at e2
  have b60 : ((0 : Int) ≤ (C : Int) ∧ (C : Int) < ((60 : Nat) : Int)) := by omega
  have hT3 : T + (j - (k + 1)) ≤ 30000 := by omega
  refine hL.ub (d := d + 7) (by omega) he6.pr.2.2.2.2.1 jN w17 (Or.inr (Or.inl rfl)) ⟨i32s (by omega) (by omega), hL.1, w.1.1, ?_⟩
  rw [show mR M a 10 = g from hL.2.2.2.2.1, show mR M g 19 = g + 22 from (w.gp hg).2.2.1.2.2.2.2.1]
  refine ⟨(w.gp hg).1, hL.wd (d := d + 8) kN (fun x hx ix => ⟨ix, hL.1, fun v hv => ⟨(w.gp hg).2.2.2.2.2.1.1, by rw [(w.gp hg).2.2.2.2.2.1.2]; exact b60, fun M2 e2' => ?_⟩⟩)⟩
  rw [Int.toNat_natCast] at e2' ⊢
  have iv : i32 v := by rw [hv]; split <;> exact ⟨by decide, by decide⟩
  obtain ⟨c2, f2, a2, G2⟩ := h.ci.st (i := 22) iv (by omega) (by omega) (by decide) (by decide) e2'
  have L2 := c2.1
  have w2 := L2.2.1.1.1
  rw [show mR M2 a 10 = g from L2.2.2.2.2.1, show mR M2 g 20 = g + 23 from (w2.gp hg).2.2.1.2.2.2.2.2.1]
  refine ⟨w2.1.1, (w2.gp hg).1, (s_MM_place0 (d := d + 8) L2.1 L2.2.1 kN).mono (fun y M3 h3 => ?_)⟩
  obtain ⟨e3, hy⟩ := h3
  subst e3
  have hy32 : i32 y := by rw [hy]; exact (L2.1 _ _).1
  refine ⟨hy32, L2.1, (w2.gp hg).2.2.2.2.2.2.1.1, by rw [(w2.gp hg).2.2.2.2.2.2.1.2]; exact b60, fun M4 e4 => ?_⟩
  obtain ⟨c4, f4, a4, G4⟩ := c2.st (i := 23) hy32 (by omega) (by omega) (by decide) (by decide) e4
  have L4 := c4.1
  have w4 := L4.2.1.1.1
  have wkE := c4.2.1.wk hg
  have z4 : mI M4 a 16 = 0 := by rw [a4, a2]; exact h16
  have rs4 : RSq M4 a g K s.1 := (hS.st (i := 22) hL iv (by omega) (by decide) (by decide) e2').st (i := 23) L2 hy32 (by omega) (by decide) (by decide) e4
  rw [show mR M4 a 10 = g from L4.2.2.2.2.1, show mR M4 g 21 = g + 24 from (w4.gp hg).2.2.1.2.2.2.2.2.2.1]
  refine ⟨w4.1.1, (w4.gp hg).1, (x_crule (d := d + 2) eγ c4 rs4 z4 w (Or.inr rfl) hT3 he6 jN).mono (fun x5 M5 q5 => ?_)⟩
  obtain ⟨ex, T5, t1, t2, Rl, hp, qx⟩ := q5
  subst ex
  obtain ⟨c5, G5⟩ := c4.rl z4 (Nat.le_of_lt t1) Rl hp
  have L5 := c5.1
  have w5 := L5.2.1.1.1
  have iT : i32 (T : Int) := i32s (by omega) (by omega)
  refine ⟨iT, L5.1, (w5.gp hg).2.2.2.2.2.2.2.1.1, by rw [(w5.gp hg).2.2.2.2.2.2.2.1.2]; exact b60, fun M6 e6 => ?_⟩
  obtain ⟨c6, f6, a6, G6⟩ := c5.st (i := 24) iT (by omega) (by omega) (by decide) (by decide) e6
  have L6 := c6.1
  have w6 := L6.2.1.1.1
  rw [show mR M6 a 10 = g from L6.2.2.2.2.1, show mR M6 g 22 = g + 25 from (w6.gp hg).2.2.1.2.2.2.2.2.2.2.1]
  refine ⟨w6.1.1, (w6.gp hg).1, (w6.gp hg).2.2.2.2.2.2.2.2.1.1, by rw [(w6.gp hg).2.2.2.2.2.2.2.2.1.2]; exact b60, fun M7 e7 => ?_⟩
  obtain ⟨c7, f7, a7, G7⟩ := c6.st (i := 25) ⟨by decide, by decide⟩ (by omega) (by omega) (by decide) (by decide) e7
  have aI7 : mI M7 a = mI M5 a := by rw [a7, a6]
  have a75 : mI M7 a 16 = mI M5 a 16 := by rw [a7, a6]
  have rs7 : RSq M5 a g K s.1 → RSq M7 a g K s.1 := fun r5 => (r5.st (i := 24) L5 iT (by omega) (by decide) (by decide) e6).st (i := 25) L6 ⟨by decide, by decide⟩ (by omega) (by decide) (by decide) e7
  rw [show (j : Int) + 1 = ((j + 1 : Nat) : Int) by first | rfl | omega]
  by_cases z7 : mI M7 a 16 = 0
  · have z5 : mI M5 a 16 = 0 := by rw [← a75]; exact z7
    have r24 : mI M7 (g + 24) C = (T : Int) := by rw [f7, if_neg (fun z => by omega), f6, if_pos ⟨rfl, rfl⟩]
    have r25 : mI M7 (g + 25) C = 0 := by rw [f7, if_pos ⟨rfl, rfl⟩]
    have D4 := c4.2.2.2.2 z4
    have rt := ((rl_rt L4 c4.2.2.1.2.1 c4.2.2.1.2.2 D4 Rl z5 (hp z5)).gn G6 D4.1.1).gn G7 D4.1.1
    obtain ⟨u1, -, u3, u9⟩ : (rf9 (wk M a) (nt M (a + 7)) (smx M a) s.1 0 1 (k + 1) j).1 = 0 ∧ mI M5 a 16 = 0 ∧ RSq M5 a g K s.1 ∧ Rtw E.2 M5 g R W T5 E.1 (T : Int) 1 (k + 1) j := by
      rcases qx with ⟨y1, y2⟩ | y
      · rw [y2.1] at z5; exact absurd z5 y1
      · exact y
    rw [fst9_r u1] at e1 e2
    have hin : ∀ q, rlP a g q → q ∈ nums a := fun q hq => rlP_in hg hq
    have cell : ∀ i, i ≤ 29 → frO (13 + i) → frO (49 + i) → mI M5 (g + i) = mI M4 (g + i) := fun i i1 o1 o2 => (Rl.1.cellL w4 hin (goffx hg o1 o2) (by omega)).1
    have r22 : mI M7 (g + 22) C = v := by rw [f7, if_neg (fun z => by omega), f6, if_neg (fun z => by omega), cell 22 (by omega) (by decide) (by decide), f4, if_neg (fun z => by omega), f2, if_pos ⟨rfl, rfl⟩]
    have r23 : mI M7 (g + 23) C = nt M (a + 7) k := by rw [f7, if_neg (fun z => by omega), f6, if_neg (fun z => by omega), cell 23 (by omega) (by decide) (by decide), f4, if_pos ⟨rfl, rfl⟩, hy, (c2.2.1.sx w hg).2.1]
    have w0 : RCw E.2 M7 g R W T5 E.1 Z C ((if wk M a k = 7 then 1 else 2), nt M (a + 7) k, (k + 1, j), []) := by
      unfold RCw
      rw [r22, r23, r24, r25]
      refine ⟨?_, rfl, (u9.gn G6 D4.1.1).gn G7 D4.1.1, ⟨rfl, by show (0 : Nat) ≤ 8; omega⟩, fun b x hb => absurd (show ([] : List br9)[b]? = some x from hb) (by simp)⟩
      rcases h78 with y7 | y7
      · refine Or.inl ⟨if_pos y7, ?_⟩
        rw [hv, if_neg (by omega)]
      · refine Or.inr ⟨if_neg (by omega), ?_⟩
        rw [hv, if_pos (by omega)]
        decide
    have ec : cmd9 (wk M a) (nt M (a + 7)) (smx M a) N s.1 k e = ((if wk M a k = 7 then 1 else 2), nt M (a + 7) k, (k + 1, j), [] ++ brs9 (wk M a) (nt M (a + 7)) (smx M a) N s.1 e N (j + 1)) := by
      unfold cmd9
      rw [har]
      rfl
    rw [ec]
    refine x_ci_run eγ h hC heN hg f N (j + 1) 0 T5 Z M7 _ w0 (by omega) (by omega) c7 (rs7 u3) z7 ?_ r25 hbr (by omega) (by omega) (fun z => (e1 z).symm) e2
    unfold Cc
    rw [r24, r25]
    exact ⟨rt, by decide, by decide, fun b hb => absurd hb (by omega)⟩
  · refine x_ci_end (s := s) eγ h hC c7 heN (fun y => absurd y z7) (fun y => absurd y z7) (fun _ => ?_) (fun y => absurd y z7) (i32s (by omega) (by omega)) (Or.inl z7)
    rcases qx with ⟨y1, y2⟩ | ⟨-, y, -, -⟩
    · rw [fst9_l y1] at e1
      rw [← e1 y1]
      exact ⟨y1, by rw [aI7]; exact y2.1, by rw [aI7]; exact y2.2⟩
    · rw [a75] at z7; exact absurd y z7
end CXA
end
section
/-! The reference's items, exactly. -/
section IXP
variable {w pl nq : Nat → Int} {sm : Nat → Nat → Prop} {N k e mc f : Nat} {s : st9}
theorem its_x (h : s.2.2.1 ≠ 0) : its9 w pl nq sm N mc f k s = s := by
  cases f with
  | zero => rfl
  | succ f => rw [its9, if_pos h]
theorem its_end (h : s.2.2.1 = 0) (hw : w k = 0) : its9 w pl nq sm N mc (f + 1) k s = if s.2.1.2.2.2 = 0 then (s.1, s.2.1, (10, pl k)) else s := by
  rw [its9, if_neg (fun z => z h), if_pos hw]
theorem its_s (h : s.2.2.1 = 0) (hw : w k ≠ 0) (he : nxq w 34 N k = e) : its9 w pl nq sm N mc (f + 1) k s = its9 w pl nq sm N mc f (e + 1) (if w k = 3 ∨ w k = 6 then itr w pl nq sm k e s else if w k = 4 then itv w pl nq sm N k e s else if w k = 11 then itt w pl sm k e s else itc w pl sm N mc k e s) := by
  rw [its9, if_neg (fun z => z h), if_neg hw, he]
  unfold ite9
  simp only [he]
theorem igs_end {g9 : gm9} (h : s.2.2.1 = 0) (hw : w k = 0) : igs9 w pl nq sm N mc (f + 1) k s g9 = g9 := by
  rw [igs9, if_neg (fun z => z h), if_pos hw]
theorem igs_s {g9 : gm9} {s9 : st9} (h : s.2.2.1 = 0) (hw : w k ≠ 0) (he : nxq w 34 N k = e) (hs : (if w k = 3 ∨ w k = 6 then itr w pl nq sm k e s else if w k = 4 then itv w pl nq sm N k e s else if w k = 11 then itt w pl sm k e s else itc w pl sm N mc k e s) = s9) (h0 : s9.2.2.1 = 0) : igs9 w pl nq sm N mc (f + 1) k s g9 = igs9 w pl nq sm N mc f (e + 1) s9 (igm9 w pl nq sm N s.1 k g9) := by
  have es : ite9 w pl nq sm N mc k s = s9 := by
    unfold ite9
    simp only [he]
    exact hs
  rw [igs9, if_neg (fun z => z h), if_neg hw, he, es, if_neg (fun z => z h0)]
theorem itt_2 (h : s.2.1.2.2.2 ≠ 0) : (itt w pl sm k e s).2.2 = (4, pl k) := by
  unfold itt
  simp only []
  rw [if_pos h]
theorem itt_f (h : s.2.1.2.2.2 = 0) (h3 : (rf9 w pl sm s.1 0 1 (k + 1) e).1 ≠ 0) : (itt w pl sm k e s).2.2 = rf9 w pl sm s.1 0 1 (k + 1) e := by
  unfold itt
  simp only []
  rw [if_neg (fun z => z h), if_pos h3]
theorem itt_ok (h : s.2.1.2.2.2 = 0) (h3 : (rf9 w pl sm s.1 0 1 (k + 1) e).1 = 0) : itt w pl sm k e s = (s.1, (s.2.1.1, s.2.1.2.1, s.2.1.2.2.1, 1), (0, 0)) := by
  unfold itt
  simp only []
  rw [if_neg (fun z => z h), if_neg (fun z => z h3)]
end IXP
section IXA
variable {G : mG} {d a g R W C T Z T2 T3 N K : Nat} {M M2 M3 : mM} {E : Eg9} {tg : Int} {s s' sF : st9} {gF : gm9}
/-- all items have been read, exactly -/
def itmX (M : mM) (a g N : Nat) (sF : st9) (gF : gm9) (M' : mM) : Prop := iF M a g M' ∧ ((sF.2.2.1 ≠ 0 ∧ fpw M' a sF.2.2) ∨ (sF.2.2.1 = 0 ∧ mI M' a 16 = 0 ∧ ∃ (T K R W C Z : Nat) (E : Eg9) (tg : Int), Df M' a g N T K R W C Z E tg ∧ T < N ∧ Z < N ∧ 0 ≤ tg ∧ RSq M' a g K sF.1 ∧ sF.2.1 = (W, R, C, 1) ∧ E.2 = txg M' a N sF.1 gF))
theorem x_it_x {k : Int} (ik : i32 k) (w2 : Wd M2 a) (o2 : mOk M2) (hI : iF M a g M2) (z : mI M2 a 16 ≠ 0) (fl : sF.2.2.1 ≠ 0 ∧ fpw M2 a sF.2.2) : h_MM_items0_38 G (d + 10) a k M2 (fun M' => mOk M' ∧ itmX M a g N sF gF M') :=
  k_MM_items0_38 o2 ik ⟨w2.1.1, fun y => absurd y z, fun _ => ⟨fun y => absurd y z, fun _ => k_MM_items0_218 o2 ⟨o2, hI, Or.inl fl⟩, fun y => absurd (Or.inl z) y⟩⟩
theorem x_it_run (wM : Wd M a) (hN : N ≤ 16385) (hg : g = a + 13 ∨ g = a + 49) : ∀ (f f' k : Nat) (M2 : mM) (s : st9) (gm : gm9), N ≤ k + f' → Ac (wk M a) N f [50] k → iF M a g M2 → mI M2 a 16 = 0 → s.2.2.1 = 0 → DfS M2 a g N k s gm → sF = its9 (wk M a) (nt M (a + 7)) (nuq M a) (smx M a) N 60 f' k s → (sF.2.2.1 = 0 → gF = igs9 (wk M a) (nt M (a + 7)) (nuq M a) (smx M a) N 60 f' k s gm) → h_MM_items0_38 G (d + 10) a k M2 (fun M' => mOk M' ∧ itmX M a g N sF gF M') := by
  intro f
  induction f using Nat.strongRecOn with
  | ind f ih =>
    intro f' k M2 s gm hf' hac hI z2 hs0 hDf eF eG
    obtain ⟨T, K, R, W, C, Z, E, tg, h, ⟨hT, hZ⟩, hS, hst, eγ⟩ := hDf
    have sx2 := hI.sx wM hg
    have tgz : tg = -1 ∨ 0 ≤ tg := by
      rcases h.2.2.2.2.2.2.2.2.2.2.1 with y | ⟨n', -, -, -, y, -⟩
      · exact Or.inl y
      · exact Or.inr (by omega)
    have hL := h.1
    have w2 := hL.2.1.1.1
    have wkE := hI.wk hg
    have hkN := ac_le hac
    have h17 := h.2.1.2.2.2
    have ik : i32 (k : Int) := i32s (by omega) (by omega)
    -- after an item
    have nxt : ∀ (e g' f2 : Nat) (M3 : mM) (s' : st9) (g9 : gm9), N ≤ e + 1 + f2 → g' < f → e < N → Ac (wk M a) N g' [50] (e + 1) → sF = its9 (wk M a) (nt M (a + 7)) (nuq M a) (smx M a) N 60 f2 (e + 1) s' → (s'.2.2.1 = 0 → sF.2.2.1 = 0 → gF = igs9 (wk M a) (nt M (a + 7)) (nuq M a) (smx M a) N 60 f2 (e + 1) s' g9) → itX M2 a g N (e + 1) s' g9 M3 → h_MM_items0_183 G (d + 10) a e M3 (fun M' => mOk M' ∧ itmX M a g N sF gF M') := fun e g' f2 M3 s' g9 hf2 hg' he hac' eF eG hq => by
      obtain ⟨I3, hq⟩ := hq
      have I03 := hI.trans I3
      refine k_MM_items0_183 I3.1.1 (i32s (by omega) (by omega)) ?_
      rw [show (e : Int) + 1 = ((e + 1 : Nat) : Int) by first | rfl | omega]
      rcases hq with ⟨y, yf⟩ | ⟨y0, y1, y2⟩
      · rw [its_x y] at eF
        exact x_it_x (i32s (by omega) (by omega)) I3.1.2.1 I3.1.1 I03 (by rw [yf.1]; exact y) (by rw [eF]; exact ⟨y, yf⟩)
      · exact ih g' hg' f2 (e + 1) M3 s' g9 hf2 hac' I03 y1 y0 y2 eF (eG y0)
    rcases ac_item hac with ⟨c0, c1⟩ | ⟨c0, e, g', hg', hit, hac'⟩
    · have kN : k < N := by omega
      obtain ⟨f', rfl⟩ : ∃ f2, f' = f2 + 1 := ⟨f' - 1, by omega⟩
      rw [its_end hs0 c0, hst] at eF
      simp only [] at eF
      refine k_MM_items0_38 hL.1 ik ⟨w2.1.1, fun _ => hL.wd (d := d + 9) kN (fun x hx ix => ⟨ix, hL.1, fun _ => ⟨w2.1.1, ?_⟩, fun q => absurd (hx.trans (by rw [wkE]; exact c0)) q⟩), fun y => absurd z2 y⟩
      rw [show mR M2 a 10 = g from hL.2.2.2.2.1, h17]
      refine ⟨fun _ => (w2.gp hg).1, fun q => k_MM_items0_218 hL.1 ⟨hL.1, hI, Or.inr ?_⟩, fun q => ?_⟩
      · have tg0 : 0 ≤ tg := by
          rcases q with q | q
          · exact absurd z2 q
          · exact q
        have n1 : ¬ tg = -1 := by omega
        rw [if_neg n1, if_neg (by decide)] at eF
        have eG := eG (by rw [eF]; exact hs0)
        rw [igs_end hs0 c0] at eG
        rw [eF]
        exact ⟨hs0, z2, T, K, R, W, C, Z, E, tg, h, by omega, by omega, tg0, hS, by rw [hst, if_neg n1], by rw [eG]; exact eγ⟩
      · have t1 : tg = -1 := by
          rcases tgz with y | y
          · exact y
          · exact absurd (Or.inr y) q
        rw [if_pos t1, if_pos rfl] at eF
        refine (s_MM_place0 (d := d + 9) hL.1 hL.2.1 kN).mono (fun y M5 h5 => ?_)
        obtain ⟨e5, hy⟩ := h5
        subst e5
        have hy32 : i32 y := by rw [hy]; exact (hL.1 _ _).1
        refine ⟨hy32, hL.1, w2.1.1, (s_MM_stop ⟨by decide, by decide⟩ hy32 hL.1 w2).mono (fun M6 h6 => ⟨h6.1.1, k_MM_items0_218 h6.1.1 ⟨h6.1.1, hI.trans (iF.mk w2 h6.1 (fun _ z => z.elim) (fun x z => Or.inl z) (fun i i1 i2 _ => h6.2.2.2 i i1 i2)), Or.inl (by rw [eF]; exact ⟨by simp, h6.2.1, by rw [h6.2.2.1, hy, sx2.2.1]⟩)⟩⟩)⟩
    · have he1 := ac_le hac'
      have hke := hit.2.1
      have kN : k < N := by omega
      have eN : e < N := by omega
      refine k_MM_items0_38 hL.1 ik ⟨w2.1.1, fun _ => hL.wd (d := d + 9) kN (fun x hx ix => ⟨ix, hL.1, fun q => ?_, fun _ => ⟨w2.1.1, ?_⟩⟩), fun y => absurd z2 y⟩
      · rw [wkE] at hx
        exact absurd (hx.symm.trans q) c0
      have hit2 : It (wk M2 a) k e := by rw [wkE]; exact hit
      obtain ⟨f', rfl⟩ : ∃ f2, f' = f2 + 1 := ⟨f' - 1, by omega⟩
      have en : nxq (wk M a) 34 N k = e := nxq_at (by omega) (by omega) hit.1 (fun m m1 m2 => hit.sg.2.2.2 m m1 m2)
      rw [its_s hs0 c0 en] at eF
      have en1 : nxq (wk M a) 34 N (k + 1) = e := nxq_at (by omega) (by omega) hit.1 (fun m m1 m2 => hit.sg.2.2.2 m (by omega) m2)
      have eG := fun (s9 : st9) hs h0 hF => (eG hF).trans (igs_s (g9 := gm) (s9 := s9) (f := f') hs0 c0 en hs h0)
      have hf2 : N ≤ e + 1 + f' := by omega
      refine hL.ue (d := d + 8) hit2 eN ⟨i32s (by omega) (by omega), hL.1, w2.1.1, hL.wd (d := d + 9) kN (fun x2 hx2 ix2 => ⟨ix2, hL.1, ?_⟩)⟩
      obtain ⟨-, -, hsh⟩ := hit2
      have go : ∀ (s' : st9) (g9 : gm9), sF = its9 (wk M a) (nt M (a + 7)) (nuq M a) (smx M a) N 60 f' (e + 1) s' → (s'.2.2.1 = 0 → sF.2.2.1 = 0 → gF = igs9 (wk M a) (nt M (a + 7)) (nuq M a) (smx M a) N 60 f' (e + 1) s' g9) → ∀ M3, mOk M3 ∧ itX M2 a g N (e + 1) s' g9 M3 → mOk M3 ∧ h_MM_items0_183 G (d + 10) a e M3 (fun M' => mOk M' ∧ itmX M a g N sF gF M') := fun s' g9 eF eG M3 t => ⟨t.1, nxt e g' f' M3 s' g9 hf2 hg' eN hac' eF eG t.2⟩
      have hx3 : wk M2 a k = wk M a k := by rw [wkE]
      refine ⟨fun q1 => ⟨w2.1.1, ?_⟩, fun q1 => ⟨fun q2 => ⟨w2.1.1, ?_⟩, fun q2 => ⟨fun q3 => ⟨w2.1.1, ?_⟩, fun q3 => ⟨w2.1.1, ?_⟩⟩⟩⟩
      · rcases hsh with ⟨y0, -, -, y1⟩ | ⟨y0, -⟩ | ⟨y0, -⟩ | ⟨y0, -⟩
        · rw [wkE] at y0
          rw [if_pos y0] at eF
          have eG := eG _ (if_pos y0)
          have eg : igm9 (wk M a) (nt M (a + 7)) (nuq M a) (smx M a) N s.1 k gm = gm := if_pos y0
          rw [eg] at eG
          refine (x_MM_ruleItem (d := d + 3) eγ (by rw [wkE]; exact en1) h hS hst z2 (by rw [wkE]; exact y0) y1 eN hT hZ).mono (go _ gm ?_ ?_)
          · rw [sx2.1, sx2.2.1, sx2.nu, sx2.sm]; exact eF
          · rw [sx2.1, sx2.2.1, sx2.nu, sx2.sm]; exact eG
        · omega
        · omega
        · omega
      · rcases hsh with ⟨y0, -⟩ | ⟨y0, -, -, i, y1, y2⟩ | ⟨y0, -⟩ | ⟨y0, -⟩
        · omega
        · rw [wkE] at y0
          have n36 : ¬ (wk M a k = 3 ∨ wk M a k = 6) := by omega
          rw [if_neg n36, if_pos y0] at eF
          have eG := eG _ ((if_neg n36).trans (if_pos y0))
          have eg : igm9 (wk M a) (nt M (a + 7)) (nuq M a) (smx M a) N s.1 k gm = (gm.1 ++ [var9 (wk M a) (nt M (a + 7)) (nuq M a) (smx M a) N s.1 k e], gm.2) := by
            unfold igm9
            rw [if_neg n36, if_pos y0, en]
          rw [eg] at eG
          refine (x_MM_varItem (d := d + 2) eγ h hS hst z2 eN hT hZ y1 y2).mono (go _ _ ?_ ?_)
          · rw [sx2.1, sx2.2.1, sx2.nu, sx2.sm]; exact eF
          · rw [sx2.1, sx2.2.1, sx2.nu, sx2.sm]; exact eG
        · omega
        · omega
      · have n36 : ¬ (wk M a k = 3 ∨ wk M a k = 6) := by omega
        have n4 : ¬ wk M a k = 4 := by omega
        have y11 : wk M a k = 11 := by omega
        rw [if_neg n36, if_neg n4, if_pos y11] at eF
        have eG := eG _ ((if_neg n36).trans ((if_neg n4).trans (if_pos y11)))
        have eg : igm9 (wk M a) (nt M (a + 7)) (nuq M a) (smx M a) N s.1 k gm = (gm.1, some (k + 1, e), gm.2.2) := by
          unfold igm9
          rw [if_neg n36, if_neg n4, if_pos y11, en]
        rw [eg] at eG
        have eo : Eo (wk M2 a) 6 (k + 1) e := by
          rcases hsh with ⟨y0, -⟩ | ⟨y0, -⟩ | ⟨y0, -⟩ | ⟨-, y⟩
          · omega
          · omega
          · omega
          · exact y
        rw [show mR M2 a 10 = g from hL.2.2.2.2.1, h17, show (k : Int) + 1 = ((k + 1 : Nat) : Int) by first | rfl | omega]
        refine ⟨(w2.gp hg).1, fun q4 => ?_, fun q4 => ?_⟩
        · have t1' : tg = -1 := by clear hsh eG eF; omega
          have st0 : s.2.1.2.2.2 = 0 := by rw [hst]; show (if tg = -1 then 0 else 1) = 0; rw [if_pos t1']
          refine (x_crule (d := d + 3) eγ h.ci hS z2 w2 (Or.inr rfl) (by omega) eo eN).mono (fun x5 M5 q5 => ?_)
          obtain ⟨ex, T5, t1, t2, Rl, hp, qx⟩ := q5
          subst ex
          rw [sx2.1, sx2.2.1, sx2.sm] at qx
          have L5 := Rl.2.1
          have w5 := L5.2.1.1.1
          refine ⟨i32s (by omega) (by omega), L5.1, (w5.gp hg).1, fun M6 e6 => ?_⟩
          obtain ⟨I6, a6, o6, D6⟩ := h.tgt (ij := (k + 1, e)) t1 Rl hp (fun z => by
            rcases qx with ⟨u1, u2⟩ | ⟨-, -, -, u9⟩
            · exact absurd (u2.1.symm.trans z) u1
            · exact u9) (by omega) e6
          refine nxt e g' f' M6 _ _ hf2 hg' eN hac' eF eG ⟨I6, ?_⟩
          rcases qx with ⟨u1, u2⟩ | ⟨u1, u2, u3, u9⟩
          · rw [itt_f st0 u1]
            exact Or.inl ⟨u1, by rw [a6]; exact u2.1, by rw [a6]; exact u2.2⟩
          · rw [itt_ok st0 u1]
            refine Or.inr ⟨rfl, by rw [a6]; exact u2, T5, K, R, W, C, Z, _, _, D6 u2, ⟨by omega, by omega⟩, u3.own L5 (i32s (by omega) (by omega)) e6, ?_, ?_⟩
            · show (s.2.1.1, s.2.1.2.1, s.2.1.2.2.1, 1) = _
              rw [hst, if_neg (show ¬ ((T : Int) = -1) by first | rfl | omega)]
            · rw [(I6.sx w2 hg).tx9]
              show gWs E.2 _ _ = _
              rw [eγ]
              rfl
        · have st1 : s.2.1.2.2.2 ≠ 0 := by rw [hst]; show (if tg = -1 then 0 else 1) ≠ 0; rw [if_neg (by clear hsh eG eF; omega)]; decide
          refine (s_MM_place0 (d := d + 9) hL.1 hL.2.1 kN).mono (fun y M5 h5 => ?_)
          obtain ⟨e5, hy⟩ := h5
          subst e5
          have hy32 : i32 y := by rw [hy]; exact (hL.1 _ _).1
          refine ⟨hy32, hL.1, w2.1.1, (s_MM_stop ⟨by decide, by decide⟩ hy32 hL.1 w2).mono (fun M6 h6 => ⟨h6.1.1, nxt e g' f' M6 _ _ hf2 hg' eN hac' eF eG ⟨(st_it (g := g) (N := N) (k := e + 1) w2 (by decide) h6).1, Or.inl ?_⟩⟩)⟩
          rw [itt_2 st1]
          exact ⟨by simp, h6.2.1, by rw [h6.2.2.1, hy, sx2.2.1]⟩
      · rcases hsh with ⟨y0, -⟩ | ⟨y0, -⟩ | ⟨y78, j, f9, y1, y2, y3⟩ | ⟨y0, -⟩
        · omega
        · omega
        · have n36 : ¬ (wk M a k = 3 ∨ wk M a k = 6) := by omega
          have n4 : ¬ wk M a k = 4 := by omega
          have n11 : ¬ wk M a k = 11 := by omega
          rw [if_neg n36, if_neg n4, if_neg n11] at eF
          have eG := eG _ ((if_neg n36).trans ((if_neg n4).trans (if_neg n11)))
          have eg : igm9 (wk M a) (nt M (a + 7)) (nuq M a) (smx M a) N s.1 k gm = (gm.1, gm.2.1, gm.2.2 ++ [cmd9 (wk M a) (nt M (a + 7)) (smx M a) N s.1 k e]) := by
            unfold igm9
            rw [if_neg n36, if_neg n4, if_neg n11, en]
          rw [eg] at eG
          refine (x_MM_commandItem (d := d) eγ y78 h hS hst z2 y1 y2 y3 eN hT hZ).mono (go _ _ ?_ ?_)
          · rw [sx2.1, sx2.2.1, sx2.sm]; exact eF
          · rw [sx2.1, sx2.2.1, sx2.sm]; exact eG
        · omega
end IXA
end
section
/-! The reference's items, exactly: from an empty game. -/
section IXB
variable {G : mG} {d a g N : Nat} {M M2 M3 : mM}
/-- no names, nothing counted, no fault -/
def s09 : st9 := ([], (0, 0, 0, 0), (0, 0))
/-- no vars, no target, no commands -/
def g09 : gm9 := ([], none, [])
theorem x_MM_items0 {f : Nat} (hO : mOk M) (hx : Wx M a N) (h10 : mR M a 10 = g) (hg : g = a + 13 ∨ g = a + 49) (hac : Ac (wk M a) N f [50] 0) : Cv G y_MM_items0 (d + 11) [vr a] M (fun M' => mOk M' ∧ itmX M a g N (its9 (wk M a) (nt M (a + 7)) (nuq M a) (smx M a) N 60 N 0 s09) (igs9 (wk M a) (nt M (a + 7)) (nuq M a) (smx M a) N 60 N 0 s09 g09) M') := by
  have w := hx.1.1
  have hN := hx.1.2.2
  have r13 : ∀ {M3 : mM}, Wd M3 a → mR M3 a 13 = a + 85 := fun w => w.1.2.2.2.2.1.1
  have r14 : ∀ {M3 : mM}, Wd M3 a → mR M3 a 14 = a + 87 := fun w => w.1.2.2.2.2.1.2.1
  have r15 : ∀ {M3 : mM}, Wd M3 a → mR M3 a 15 = a + 89 := fun w => w.1.2.2.2.2.1.2.2.1
  refine k_MM_items0 hO ?_
  rw [h10]
  refine ⟨w.1.1, (w.gp hg).1, (s_MG_clear (d := d + 9) hO w hg).mono (fun M1 t1 => ?_)⟩
  obtain ⟨o1, m1, c1, c6, c12, c17, c18⟩ := t1
  have w1 := m1.2.1
  have hin1 : ∀ q, gL9 g q → q ∈ nums a := fun q hq => gL9_in hg hq
  have aI1 := (m1.fld w hin1 (by omega)).1
  have g9 : ∀ {q}, gL9 g q → itP a g q := fun {q} hq => ⟨gL9_in hg hq, by have : q = g + 1 ∨ q = g + 3 ∨ q = g + 5 ∨ q = g + 7 ∨ q = g + 9 ∨ q = g + 11 ∨ q = g + 30 ∨ q = g + 32 ∨ q = g + 34 := hq; omega⟩
  have I1 : iF M a g M1 := iF.mk w m1 (fun q hq => g9 hq) (fun x z => Or.inr (Or.inl (by omega))) (fun i _ _ _ => by rw [aI1])
  have nset : ∀ {p : Nat} {Mx My : mM}, p = a + 85 ∨ p = a + 87 ∨ p = a + 89 → iF M a g Mx → mI Mx g = mI M1 g → (∀ q, gL9 g q → ln Mx q = 0) → My = mUI Mx p 1 0 → iF M a g My ∧ mI My g = mI M1 g ∧ (∀ q, gL9 g q → ln My q = 0) ∧ ln My p = 0 ∧ (∀ q, q ∈ nums a → q ≠ p → ln My q = ln Mx q) := fun {p Mx My} hp hI hgI hz he => by
    have wx := hI.1.2.1
    have pn : p ∈ nums a := by rcases hp with y | y | y <;> rw [y]; exact n85; exact n87; exact n89
    have b : 0 ≤ ln Mx p := (wx.nu pn).2.2.2.1.1
    obtain ⟨m3, l3, -, -⟩ := mv_set hI.1.1 wx pn (v := 0) (by omega) b he
    have hin : ∀ q, q = p → q ∈ nums a := fun q hq => by rw [hq]; exact pn
    refine ⟨hI.trans (iF.mk wx m3 (fun q hq => ⟨hin q hq, by omega⟩) (fun _ z => z.elim) (fun i _ _ _ => by rw [(m3.fld wx hin (fun z => z)).1])), (m3.gI wx hg hin (fun z => z)).trans hgI, fun q hq => ?_, l3, fun q hq hne => (m3.lst hq hne).1⟩
    have hq' : q = g + 1 ∨ q = g + 3 ∨ q = g + 5 ∨ q = g + 7 ∨ q = g + 9 ∨ q = g + 11 ∨ q = g + 30 ∨ q = g + 32 ∨ q = g + 34 := hq
    rw [(m3.lst (gL9_in hg hq) (by omega)).1]
    exact hz q hq
  rw [r13 w1]
  refine ⟨o1, w1.1.1, (w1.nu n85).1, fun M2 e2 => ?_⟩
  obtain ⟨I2, g2, z2, l2, u2⟩ := nset (Or.inl rfl) I1 rfl c1 e2
  have w2 := I2.1.2.1
  rw [r14 w2]
  refine ⟨(w2.nu n87).1, fun M3 e3 => ?_⟩
  obtain ⟨I3, g3, z3, l3, u3⟩ := nset (Or.inr (Or.inl rfl)) I2 g2 z2 e3
  have w3 := I3.1.2.1
  rw [r15 w3]
  refine ⟨(w3.nu n89).1, fun M4 e4 M5 e5 => ?_⟩
  obtain ⟨I4, g4, z4, l4, u4⟩ := nset (Or.inr (Or.inr rfl)) I3 g3 z3 e4
  have w4 := I4.1.2.1
  obtain ⟨m5, f5⟩ := mv_fld (v := 0) ⟨by decide, by decide⟩ I4.1.1 w4 e5
  have no : ∀ q : Nat, False → q ∈ nums a := fun _ z => z.elim
  have g5 : mI M5 g = mI M1 g := (m5.gI w4 hg no (by omega)).trans g4
  have I5 : iF M a g M5 := I4.trans (iF.mk w4 m5 (fun _ z => z.elim) (fun x z => Or.inl z) (fun i i1 _ _ => by rw [f5, if_neg i1]))
  have s5 : ∀ {q}, q ∈ nums a → ln M5 q = ln M4 q := fun hq => (m5.lst hq (fun z => z)).1
  have k85 : ln M5 (a + 85) = 0 := by rw [s5 n85, u4 _ n85 (by omega), u3 _ n85 (by omega), l2]
  have k87 : ln M5 (a + 87) = 0 := by rw [s5 n87, u4 _ n87 (by omega), l3]
  have k89 : ln M5 (a + 89) = 0 := by rw [s5 n89, l4]
  have hin5 : ∀ q, itP a g q → q ∈ nums a := fun q hq => hq.1
  have t2 : ¬ itP a g (mR M a 2) := fun z => by
    have := z.2
    rcases w.1.2.1 with y | y <;> rw [y.2] at this <;> omega
  have x5 : Wx M5 a N := hx.mv I5.1 hin5 (fun z => by have := z.2; omega) (fun z => by have := z.2; omega) (fun z => by have := z.2; omega) t2
  have h105 : mR M5 a 10 = g := by rw [I5.1.rfl_a w hin5]; exact h10
  have L5 : Lc M5 a g N 0 0 := ⟨I5.1.1, x5, ⟨k85, k87, k89, by omega, fun k hk => absurd hk (by omega)⟩, fun q hq => by rw [s5 (tL_in hg hq), z4 q (by have : q = g + 1 ∨ q = g + 3 ∨ q = g + 5 ∨ q = g + 7 ∨ q = g + 9 ∨ q = g + 11 := hq; omega)]; rfl, h105, hg, by rw [g5, c6, c12]; omega, by omega⟩
  have R5 : RGq (txg M5 a N [] g09) M5 g 0 0 0 0 0 (fun _ => 0) (-1) := ⟨⟨rfl, rfl⟩, fun l1 e l2 he _ => absurd (show ([] : List nm9) = l1 ++ e :: l2 from he) (by simp), ⟨rfl, fun v x hv => absurd (show ([] : List (Int × Int × Int))[v]? = some x from hv) (by simp)⟩, Or.inl ⟨rfl, rfl⟩, rfl, fun c cm hc => absurd (show ([] : List cm9)[c]? = some cm from hc) (by simp)⟩
  have D5 : Df M5 a g N 0 0 0 0 0 0 ((fun _ => 0), txg M5 a N [] g09) (-1) := ⟨L5, ⟨by rw [g5, c6]; rfl, by rw [g5, c12]; rfl, by rw [g5, c18]; rfl, by rw [g5, c17]⟩, ⟨by rw [s5 (n30 hg), z4 _ (by omega)]; rfl, by rw [s5 (n32 hg), z4 _ (by omega)]; rfl, by rw [s5 (n34 hg), z4 _ (by omega)]; rfl⟩, rfl, ⟨⟨by omega, by omega, by omega⟩, fun r hr => absurd hr (by omega), fun r hr => absurd hr (by omega), fun r hr => absurd hr (by omega), fun r hr => absurd hr (by omega), fun r hr => absurd hr (by omega), Or.inl rfl, R5⟩⟩
  exact x_it_run w hN hg f N 0 M5 s09 g09 (by omega) hac I5 (by rw [f5, if_pos rfl]) rfl ⟨0, 0, 0, 0, 0, 0, ((fun _ => 0), txg M5 a N [] g09), -1, D5, ⟨Nat.le_refl _, Nat.le_refl _⟩, ⟨rfl, fun q hq => absurd hq (by omega), fun p q _ hq => absurd hq (by omega), fun p q _ hq => absurd hq (by omega)⟩, rfl, rfl⟩ rfl (fun _ => rfl)
end IXB
end
section
/-! What a text's items make: the names are sound. Pure. -/
section PNM
variable {w pl nq : Nat → Int} {sm : Nat → Nat → Prop} {N n k e i j : Nat} {s : st9} {nms : List nm9}
/-- what consts are worth is sound -/
theorem cvc_ok (hq : NqO w nq n) (hn : NmO w pl sm N n nms) : ∀ k, (w k = 1 ∨ w k = 2 ∨ w k = 12 ∨ w k = 13) → (w k = 1 → E9 sm nms 1 k ≠ -1) → vgd (if w k = 12 ∨ w k = 13 ∨ (w k = 1 ∧ E9 sm nms 1 k = 1) then 1 else 0) (if k < n then cv9 w nq sm nms k else (0, 0, 1)) := by
  intro k hk hne
  by_cases kn : k < n
  · rw [if_pos kn]
    by_cases h1 : w k = 1
    · have h := hne h1
      unfold cv9
      rw [if_pos h1]
      unfold E9 at h ⊢
      generalize hf : fnd9 sm nms k = o at h ⊢
      cases o with
      | none => exact absurd rfl h
      | some e =>
        obtain ⟨l1, l2, q1, q2, q3⟩ := fnd_sp hf
        obtain ⟨a1, a2, a3, a4⟩ := hn l1 e l2 q1
        have h' : (if (1 : Int) = 1 ∧ e.2.1 ≠ 1 then (-1 : Int) else e.2.2.1) ≠ -1 := h
        by_cases y : e.2.1 = 1
        · have g := a3 y
          show vgd (if w k = 12 ∨ w k = 13 ∨ (w k = 1 ∧ (if (1 : Int) = 1 ∧ e.2.1 ≠ 1 then (-1 : Int) else e.2.2.1) = 1) then 1 else 0) e.2.2.2
          have ee : (if (1 : Int) = 1 ∧ e.2.1 ≠ 1 then (-1 : Int) else e.2.2.1) = e.2.2.1 := if_neg (fun u => u.2 y)
          rw [ee]
          rcases a2 with z | z
          · rw [if_neg (by omega)]
            rw [z] at g
            exact g
          · rw [if_pos (Or.inr (Or.inr ⟨h1, z⟩))]
            rw [z] at g
            exact g
        · rw [if_pos ⟨rfl, y⟩] at h'
          exact absurd rfl h'
    · unfold cv9
      rw [if_neg h1]
      by_cases h2 : w k = 2
      · rw [if_pos h2, if_neg (by omega)]
        exact vgd_w (hq k kn h2)
      · rw [if_neg h2]
        by_cases h3 : w k = 12
        · rw [if_pos h3, if_pos (Or.inl h3)]
          exact vgd_01.1
        · rw [if_neg h3, if_pos (Or.inr (Or.inl (by omega)))]
          exact vgd_01.2
  · rw [if_neg kn]
    exact vgd_01.2
theorem vlc_ok (hq : NqO w nq n) (hn : NmO w pl sm N n nms) (he : Eo w 6 i j) (hj : j ≤ n) (hf : (fl w (E9 sm nms 1) pl 0 i j).1 = 0) : vgd (kdq w (E9 sm nms 1) 0 i j) (vlq w (cv9 w nq sm nms) pl 0 0 i j) := by
  have e9 : vlq w (cv9 w nq sm nms) pl 0 0 i j = vlq w (fun k => if k < n then cv9 w nq sm nms k else (0, 0, 1)) pl 0 0 i j := vl_ci0 (fun k _ h => (if_pos (show k < n by omega)).symm) he
  rw [e9]
  exact vl_ok (cvc_ok hq hn) _ 0 _ _ (Nat.le_refl _) (Or.inl ⟨rfl, he⟩) hf (fun u => absurd u (by decide)) 0
theorem itr_nmo (hq : NqO w nq n) (hn : NmO w pl sm N n s.1) (he : e ≤ n) (eo : Eo w 6 (k + 3) e) (nx : nxq w 34 N (k + 1) = e) : NmO w pl sm N n (itr w pl nq sm k e s).1 := by
  unfold itr
  simp only []
  by_cases c1 : s.2.1.2.1 = 60
  · rw [if_pos c1]; exact hn
  rw [if_neg c1]
  by_cases c2 : fnd9 sm s.1 (k + 1) ≠ none
  · rw [if_pos c2]; exact hn
  rw [if_neg c2]
  by_cases c5 : w k = 3
  · simp only [if_pos c5]
    by_cases c3 : (fl w (E9 sm s.1 1) pl 0 (k + 3) e).1 ≠ 0
    · rw [if_pos c3]; exact hn
    rw [if_neg c3]
    have c3 := Decidable.not_not.mp c3
    by_cases c4 : (vlq w (cv9 w nq sm s.1) pl 0 0 (k + 3) e).1 ≠ 0
    · rw [if_pos c4]; exact hn
    rw [if_neg c4]
    exact NmO.add hn (show (1 : Nat) ≤ 1 ∧ 1 ≤ 3 by decide) kd_01 (fun _ => vlc_ok hq hn eo he c3) (fun u => absurd u (show ¬ (1 : Nat) = 2 by decide))
  · simp only [if_neg c5]
    by_cases c3 : (fl w (E9 sm s.1 0) pl 0 (k + 3) e).1 ≠ 0
    · rw [if_pos c3]; exact hn
    rw [if_neg c3]
    have c3 := Decidable.not_not.mp c3
    have z0 : ¬ ((0 : Int) ≠ 0) := fun u => u rfl
    rw [if_neg z0]
    refine NmO.add hn (show (1 : Nat) ≤ 2 ∧ 2 ≤ 3 by decide) kd_01 (fun u => absurd u (show ¬ (2 : Nat) = 1 by decide)) (fun _ => ?_)
    show Eo w 6 (k + 1 + 2) (nxq w 34 N (k + 1)) ∧ nxq w 34 N (k + 1) ≤ n ∧ (fl w (E9 sm s.1 0) pl 0 (k + 1 + 2) (nxq w 34 N (k + 1))).1 = 0 ∧ kdq w (E9 sm s.1 0) 0 (k + 3) e = kdq w (E9 sm s.1 0) 0 (k + 1 + 2) (nxq w 34 N (k + 1))
    rw [nx]
    exact ⟨eo, he, c3, rfl⟩
theorem ite_nmo (hq : NqO w nq n) (hn : NmO w pl sm N n s.1) (nN : n + 1 = N) (it : It w k e) (nx : nxq w 34 N k = e) (he : e < N) : NmO w pl sm N n (ite9 w pl nq sm N 60 k s).1 := by
  have lt := it.2.1
  have nx1 : nxq w 34 N (k + 1) = e := nxq_at (by omega) (by omega) it.1 (fun m m1 m2 => it.sg.2.2.2 m (by omega) m2)
  have hv : ∀ x : Int, (x = 0 ∨ x = 1) → NmO w pl sm N n (s.1 ++ [(k + 1, 3, x, ((0, 0, 1) : vrs))]) := fun x hx => NmO.add hn (show (1 : Nat) ≤ 3 ∧ 3 ≤ 3 by decide) hx (fun u => absurd u (show ¬ (3 : Nat) = 1 by decide)) (fun u => absurd u (show ¬ (3 : Nat) = 2 by decide))
  unfold ite9
  simp only [nx]
  rcases it.2.2 with ⟨h0, h1, h2, eo⟩ | ⟨h0, h1, h2, i, vs, hi⟩ | ⟨h0, j, f1, eo, w17, br⟩ | ⟨h0, eo⟩
  · rw [if_pos h0]
    exact itr_nmo hq hn (by omega) eo nx1
  · rw [if_neg (show ¬ (w k = 3 ∨ w k = 6) by first | rfl | omega), if_pos h0]
    unfold itv
    simp only []
    repeat' split
    all_goals first | exact hn | exact hv 1 (Or.inr rfl) | exact hv 0 (Or.inl rfl)
  · rw [if_neg (show ¬ (w k = 3 ∨ w k = 6) by first | rfl | omega), if_neg (show ¬ (w k = 4) by first | rfl | omega), if_neg (show ¬ (w k = 11) by first | rfl | omega)]
    unfold itc
    simp only []
    repeat' split
    all_goals exact hn
  · rw [if_neg (show ¬ (w k = 3 ∨ w k = 6) by first | rfl | omega), if_neg (show ¬ (w k = 4) by first | rfl | omega), if_pos h0]
    unfold itt
    simp only []
    repeat' split
    all_goals exact hn
theorem its_nmo (hq : NqO w nq n) (nN : n + 1 = N) : ∀ (f f' k : Nat) (s : st9), Ac w N f [50] k → NmO w pl sm N n s.1 → NmO w pl sm N n (its9 w pl nq sm N 60 f' k s).1 := by
  intro f
  induction f using Nat.strongRecOn with
  | ind f ih =>
    intro f' k s hac hn
    cases f' with
    | zero => exact hn
    | succ f' =>
      rw [its9]
      by_cases f0 : s.2.2.1 = 0
      · rw [if_neg (show ¬ s.2.2.1 ≠ 0 from fun u => u f0)]
        rcases ac_item hac with ⟨c0, c1⟩ | ⟨c0, e, g, hg, hit, hac'⟩
        · rw [if_pos c0]
          split
          · exact hn
          · exact hn
        · have eN := ac_le hac'
          have lt := hit.2.1
          have nx : nxq w 34 N k = e := nxq_at (by omega) (by omega) hit.1 (fun m m1 m2 => hit.sg.2.2.2 m m1 m2)
          rw [if_neg c0, nx]
          exact ih g hg f' (e + 1) _ hac' (ite_nmo hq hn nN hit nx (by omega))
      · rw [if_pos f0]
        exact hn
theorem nmo_nil : NmO w pl sm N n [] := fun l1 e l2 h => absurd h (by simp)
end PNM
section PNN
theorem numq_b {c : Nat → Int} {p : Nat} : ∀ l, (∀ j, p ≤ j → j < p + l → 48 ≤ c j ∧ c j ≤ 57) → 0 ≤ numq c p l ∧ numq c p l < 10 ^ l
  | 0, _ => ⟨Int.le_refl 0, by show (0 : Int) < 10 ^ 0; decide⟩
  | l + 1, h => by
    obtain ⟨h1, h2⟩ := numq_b l (fun j a b => h j a (by omega))
    have d := h (p + l) (by omega) (by omega)
    have e : (10 : Int) ^ (l + 1) = 10 ^ l * 10 := Int.pow_succ 10 l
    show 0 ≤ 10 * numq c p l + (c (p + l) - 48) ∧ 10 * numq c p l + (c (p + l) - 48) < 10 ^ (l + 1)
    rw [e]
    generalize (10 : Int) ^ l = t at h2 ⊢
    omega
theorem numq_9 {c : Nat → Int} {p l : Nat} (hl : l ≤ 9) (h : ∀ j, p ≤ j → j < p + l → 48 ≤ c j ∧ c j ≤ 57) : (numq c p l).natAbs ≤ 999999999 := by
  obtain ⟨h1, h2⟩ := numq_b l h
  have h3 : (10 : Int) ^ l ≤ 10 ^ 9 := by
    have : l = 0 ∨ l = 1 ∨ l = 2 ∨ l = 3 ∨ l = 4 ∨ l = 5 ∨ l = 6 ∨ l = 7 ∨ l = 8 ∨ l = 9 := by omega
    rcases this with y | y | y | y | y | y | y | y | y | y <;> subst y <;> decide
  have h4 : (10 : Int) ^ 9 = 1000000000 := by decide
  omega
/-- the numbers of the reference's words are small -/
theorem nqo_wx {M : mM} {a N n : Nat} (h : Wx M a N) (hn : n ≤ N) : NqO (wk M a) (nuq M a) n := fun k hk h2 => by
  obtain ⟨-, -, -, wo, -⟩ := h
  obtain ⟨-, ⟨b1, b2, b3⟩, -, b4, -⟩ := wo k (by omega)
  obtain ⟨c1, c2⟩ := b4 h2
  unfold nuq
  refine numq_9 (by omega) (fun j j1 j2 => c2 j (by omega) (by omega))
end PNN
/-- the vars' ranges and inits are sound -/
def VlO (nms : List nm9) (vl : List (Int × Int × Int)) : Prop := vl.length = vcn nms ∧ (∀ (v : Nat) (x : Int × Int × Int), vl[v]? = some x → (x.1.natAbs ≤ 999999999 ∧ x.2.1.natAbs ≤ 999999999) ∧ x.1 ≤ x.2.2 ∧ x.2.2 ≤ x.2.1) ∧ ∀ l1 e l2, nms = l1 ++ e :: l2 → e.2.1 = 3 → e.2.2.1 = 1 → ∀ x, vl[vcn l1]? = some x → x.1 = 0 ∧ x.2.1 = 1
/-- a text's names and numbers are sound -/
def GaO (γ : gW9) : Prop := NqO γ.1 γ.2.2.1 (γ.2.2.2.2.1 - 1) ∧ NmO γ.1 γ.2.1 γ.2.2.2.1 γ.2.2.2.2.1 (γ.2.2.2.2.1 - 1) γ.2.2.2.2.2.1 ∧ VlO γ.2.2.2.2.2.1 γ.2.2.2.2.2.2.1
section PNO
theorem vlo_get {nms : List nm9} {vl : List (Int × Int × Int)} (h : VlO nms vl) {l1 l2 : List nm9} {e : nm9} (he : nms = l1 ++ e :: l2) (h3 : e.2.1 = 3) : ∃ x, vl[vcn l1]? = some x ∧ vl.getD (vcn l1) (0, 0, 0) = x ∧ (x.1.natAbs ≤ 999999999 ∧ x.2.1.natAbs ≤ 999999999) ∧ (x.1 ≤ x.2.2 ∧ x.2.2 ≤ x.2.1) ∧ (e.2.2.1 = 1 → x.1 = 0 ∧ x.2.1 = 1) := by
  have e9 : vcn (e :: l2) = vcn l2 + 1 := by
    show vcn l2 + (if e.2.1 = 3 then 1 else 0) = _
    rw [if_pos h3]
  have lt : vcn l1 < vl.length := by
    rw [h.1, he, vcn_app, e9]
    omega
  have hx := List.getElem?_eq_getElem lt
  obtain ⟨h2, h4⟩ := h.2.1 _ _ hx
  exact ⟨_, hx, by rw [List.getD_eq_getElem?_getD, hx]; rfl, h2, h4, fun u => h.2.2 l1 e l2 he h3 u _ hx⟩
theorem vlo_vr {nms : List nm9} {vl : List (Int × Int × Int)} (h : VlO nms vl) : VrO nms (fun v => (vl.getD v (0, 0, 0)).1) (fun v => (vl.getD v (0, 0, 0)).2.1) := fun l1 e l2 he h3 => by
  obtain ⟨x, -, hd, h1, -, h4⟩ := vlo_get h he h3
  show ((vl.getD (vcn l1) (0, 0, 0)).1.natAbs ≤ 999999999 ∧ (vl.getD (vcn l1) (0, 0, 0)).2.1.natAbs ≤ 999999999) ∧ (e.2.2.1 = 1 → (vl.getD (vcn l1) (0, 0, 0)).1 = 0 ∧ (vl.getD (vcn l1) (0, 0, 0)).2.1 = 1)
  rw [hd]
  exact ⟨h1, h4⟩
theorem vlo_s0 {nms : List nm9} {vl : List (Int × Int × Int)} (h : VlO nms vl) : SgO (fun v => (vl.map (fun x : Int × Int × Int => x.2.2)).getD v 0) nms := fun l1 e l2 he h3 => by
  obtain ⟨x, hx, -, h1, h2, h4⟩ := vlo_get h he h3
  have e0 : (vl.map (fun x : Int × Int × Int => x.2.2)).getD (vcn l1) 0 = x.2.2 := by
    rw [List.getD_eq_getElem?_getD, List.getElem?_map, hx]
    rfl
  show ((vl.map (fun x : Int × Int × Int => x.2.2)).getD (vcn l1) 0).natAbs ≤ 999999999 ∧ (e.2.2.1 = 1 → (vl.map (fun x : Int × Int × Int => x.2.2)).getD (vcn l1) 0 = 0 ∨ (vl.map (fun x : Int × Int × Int => x.2.2)).getD (vcn l1) 0 = 1)
  rw [e0]
  exact ⟨by omega, fun u => by have := h4 u; omega⟩
/-- the reference's draft: its vars are sound -/
theorem vlo_dg {M : mM} {a g K R W C Z T : Nat} {E : Eg9} {tg : Int} (hD : Dg M g R W C Z T E tg) (hS : RSq M a g K E.2.2.2.2.2.2.1) : VlO E.2.2.2.2.2.2.1 E.2.2.2.2.2.2.2.1 := by
  obtain ⟨-, -, -, hV, -, -, -, ⟨hr, hw⟩, -, ⟨hv, hv'⟩, -⟩ := hD
  refine ⟨hv.trans hw.symm, fun v x hx => ?_, fun l1 e l2 he h3 h1 x hx => ?_⟩
  · have lt := (List.getElem?_eq_some_iff.mp hx).1
    obtain ⟨y1, y2, y3⟩ := hv' v x hx
    obtain ⟨-, z2, z3, z4, z5, -⟩ := hV v (by omega)
    rw [y1, y3] at z2
    rw [y2, y3] at z3
    rw [y1] at z4
    rw [y2] at z5
    exact ⟨⟨by omega, by omega⟩, z2, z3⟩
  · have lt := (List.getElem?_eq_some_iff.mp hx).1
    obtain ⟨y1, y2, y3⟩ := hv' _ x hx
    obtain ⟨z1, -⟩ := hV (vcn l1) (by omega)
    have ge : E.2.2.2.2.2.2.1[l1.length]? = some e := by
      rw [he, List.getElem?_append_right (Nat.le_refl _), Nat.sub_self]
      rfl
    have lq : l1.length < K := by
      rw [← hS.1]
      exact (List.getElem?_eq_some_iff.mp ge).1
    obtain ⟨e', q1, q2, q3, q4, q5, q6, q7⟩ := hS.2.1 l1.length lq
    rw [ge] at q1
    have ee : e = e' := Option.some.inj q1
    subst ee
    rw [if_pos h3] at q7
    have tk : E.2.2.2.2.2.2.1.take l1.length = l1 := by
      rw [he, List.take_left']
      rfl
    rw [tk] at q7
    have q33 : nt M (a + 87) l1.length = 3 := by
      rw [q3, h3]
      rfl
    rw [h1, if_pos q33, q7] at q5
    unfold tn at q5
    rw [if_pos (show (100 : Int) ≤ 100 + ((vcn l1 : Nat) : Int) by omega), show (100 + ((vcn l1 : Nat) : Int) - 100).toNat = vcn l1 by first | rfl | omega] at q5
    have := z1 (fun u => by rw [if_pos u] at q5; exact absurd q5 (by decide))
    rw [← y1, ← y2]
    exact this
end PNO
end
section
/-! The reference's solver in a memory that agrees on its cells. -/
section AG
variable {M M' : mM} {s e f r n : Nat}
/-- the cells from s to e are the same -/
def Ag (M M' : mM) (s e : Nat) : Prop := ∀ x, s ≤ x → x ≤ e → mK M' x = mK M x ∧ mN M' x = mN M x ∧ mR M' x = mR M x ∧ mI M' x = mI M x
theorem Ag.sub {s' e' : Nat} (h : Ag M M' s e) (h1 : s ≤ s') (h2 : e' ≤ e) : Ag M M' s' e' := fun x a b => h x (by omega) (by omega)
theorem Wh.ag {a : Nat} (h : Wh M a r) (k : Ag M M' a (a + 1)) : Wh M' a r := by
  obtain ⟨k1, k2, k3, k4⟩ := k a (Nat.le_refl _) (by omega)
  obtain ⟨q1, q2, q3, q4⟩ := k (a + 1) (by omega) (Nat.le_refl _)
  unfold Wh at h ⊢
  rw [k1, k3, k4, q1, q2]
  exact h
theorem wv.ag {a : Nat} (k : Ag M M' a (a + 1)) : wv M' a = wv M a := by
  unfold wv
  rw [(k a (Nat.le_refl _) (by omega)).2.2.2, (k (a + 1) (by omega) (Nat.le_refl _)).2.2.2]
theorem W3.ag {a : Nat} (h : W3 M a r) (k : Ag M M' a (a + 1)) : W3 M' a r := by
  obtain ⟨h1, h2, h3⟩ := h
  refine ⟨h1.ag k, ?_, ?_⟩
  · unfold WD at h2 ⊢
    rw [(k a (Nat.le_refl _) (by omega)).2.2.2, (k (a + 1) (by omega) (Nat.le_refl _)).2.2.2]
    exact h2
  · unfold WT at h3 ⊢
    rw [(k a (Nat.le_refl _) (by omega)).2.2.2, (k (a + 1) (by omega) (Nat.le_refl _)).2.2.2]
    exact h3
theorem Fk.ag (h : Fk M f) (k : Ag M M' f f) : Fk M' f := by
  obtain ⟨k1, k2, k3, k4⟩ := k f (Nat.le_refl _) (Nat.le_refl _)
  unfold Fk at h ⊢
  rw [k1, k3]
  exact h
theorem Ft.ag (h : Ft M f r) (k : Ag M M' f (f + 4)) : Ft M' f r :=
  ⟨h.1.ag (k.sub (by omega) (by omega)), h.2.1.ag (k.sub (by omega) (by omega)), h.2.2.ag (k.sub (by omega) (by omega))⟩
theorem Fq.ag (h : Fq M f r) (k : Ag M M' f (f + 4)) : Fq M' f r := by
  obtain ⟨h1, h2, h3, h4, h5⟩ := h
  refine ⟨h1.ag (k.sub (by omega) (by omega)), h2.ag (k.sub (by omega) (by omega)), h3.ag (k.sub (by omega) (by omega)), ?_, ?_⟩
  · rw [(k f (Nat.le_refl _) (by omega)).2.2.2]; exact h4
  · rw [wv.ag (k.sub (by omega) (by omega))]; exact h5
theorem Fc.ag (h : Fc M f) (k : Ag M M' f (f + 4)) : Fc M' f := by
  unfold Fc xn at h ⊢
  rw [(k f (Nat.le_refl _) (by omega)).2.2.2, wv.ag (a := f + 1) (k.sub (by omega) (by omega)), wv.ag (a := f + 3) (k.sub (by omega) (by omega))]
  exact h
theorem fv.ag (k : Ag M M' f (f + 4)) : fv M' f = fv M f := by
  unfold fv sn sd
  rw [(k f (Nat.le_refl _) (by omega)).2.2.2, wv.ag (a := f + 1) (k.sub (by omega) (by omega)), wv.ag (a := f + 3) (k.sub (by omega) (by omega))]
theorem Sz.ag {u : Nat} (h : Sz M u) (k : Ag M M' u (u + 20)) : Sz M' u := by
  obtain ⟨h1, h2, h3, h4⟩ := h
  refine ⟨?_, h2.ag (k.sub (by omega) (by omega)), h3.ag (k.sub (by omega) (by omega)), fun c hc => ?_⟩
  · obtain ⟨k1, k2, k3, k4⟩ := k u (Nat.le_refl _) (by omega)
    unfold Sk at h1 ⊢
    rw [k1, k3]
    exact h1
  · have hc' : c = 2 ∨ c = 4 ∨ c = 7 ∨ c = 9 ∨ c = 11 ∨ c = 13 ∨ c = 15 ∨ c = 17 ∨ c = 19 := by
      have : c ∈ [2, 4, 7, 9, 11, 13, 15, 17, 19] := hc
      simpa using this
    exact (h4 c hc).ag (k.sub (by omega) (by omega))
theorem Vk.ag (h : Vk M s) (k : Ag M M' s (s + 21067)) : Vk M' s := by
  have kK : ∀ i, i ≤ 67 → mK M' (s + i) = mK M (s + i) := fun i hi => (k (s + i) (by omega) (by omega)).1
  have kN : ∀ i, i ≤ 67 → mN M' (s + i) = mN M (s + i) := fun i hi => (k (s + i) (by omega) (by omega)).2.1
  have kR : ∀ i, i ≤ 67 → mR M' (s + i) = mR M (s + i) := fun i hi => (k (s + i) (by omega) (by omega)).2.2.1
  have k0 := k s (Nat.le_refl _) (by omega)
  unfold Vk at h ⊢
  rw [k0.1, k0.2.2.1, kK 22 (by omega), kK 23 (by omega), kK 24 (by omega), kK 25 (by omega), kK 26 (by omega), kK 27 (by omega), kK 28 (by omega), kK 29 (by omega), kK 30 (by omega), kK 31 (by omega), kK 32 (by omega), kK 33 (by omega), kK 34 (by omega), kK 35 (by omega), kK 36 (by omega), kK 37 (by omega), kK 38 (by omega), kK 39 (by omega), kK 40 (by omega), kK 41 (by omega), kK 67 (by omega), kN 22 (by omega), kN 23 (by omega), kN 24 (by omega), kN 25 (by omega), kN 26 (by omega), kN 27 (by omega), kN 28 (by omega), kN 29 (by omega), kN 30 (by omega), kN 31 (by omega), kN 32 (by omega), kN 33 (by omega), kN 34 (by omega), kN 35 (by omega), kN 36 (by omega), kN 37 (by omega), kN 38 (by omega), kN 39 (by omega), kN 40 (by omega), kN 41 (by omega), kN 67 (by omega), kR 29 (by omega), kR 31 (by omega), kR 38 (by omega), kR 41 (by omega)]
  exact h
theorem sameG.ag (k : Ag M M' s (s + 21067)) : sameG M M' s := by
  have k0 := (k s (Nat.le_refl _) (by omega)).2.2.2
  exact ⟨by rw [k0], by rw [k0], by rw [k0], fun x a b => (k x (by omega) (by omega)).2.2.2⟩
theorem Sv.ag (h : Sv M s n) (k : Ag M M' s (s + 21067)) : Sv M' s n := by
  have hn5 := h.n5
  obtain ⟨V, g, c, e, t, W, T, R, H, hc⟩ := h
  have sg := sameG.ag k
  have kI : ∀ i, i ≤ 21067 → mI M' (s + i) = mI M (s + i) := fun i hi => (k (s + i) (by omega) (by omega)).2.2.2
  refine ⟨V.ag k, sg.gw g, sg.gb c, by rw [sg.1]; exact e, t.out sg (kI 32 (by omega)), ⟨W.1.ag (k.sub (by omega) (by omega)), W.2.1.ag (k.sub (by omega) (by omega)), W.2.2.1.ag (k.sub (by omega) (by omega)), W.2.2.2.1.ag (k.sub (by omega) (by omega)), W.2.2.2.2.1.ag (k.sub (by omega) (by omega)), W.2.2.2.2.2.ag (k.sub (by omega) (by omega))⟩, fun i j hi hj => (T i j hi hj).ag (k.sub (by unfold cel; omega) (by unfold cel; omega)), fun e he i hi => (R e he i hi).ag (k.sub (by omega) (by omega)), fun w hw => ?_, fun q => (hc (by rw [← kI 30 (by omega)]; exact q)).out sg (kI 33 (by omega))⟩
  obtain ⟨h1, h2⟩ := H w hw
  unfold Hs
  rw [kI 30 (by omega)]
  refine ⟨h1, fun q => ?_⟩
  obtain ⟨x, X, v⟩ := h2 q
  refine ⟨x, fun i hi => ?_, v⟩
  obtain ⟨x1, x2, x3⟩ := X i hi
  have ka : Ag M M' (s + (68 + 5 * w) + 25 * i) (s + (68 + 5 * w) + 25 * i + 4) := k.sub (by omega) (by omega)
  exact ⟨x1.ag ka, x2.ag ka, by rw [fv.ag ka]; exact x3⟩
end AG
end
section
/-! The reference at rest. -/
/-- the latest fault's place, the state of explore's, are values worked out; the states, their kinds and commands -/
abbrev tE9 : Type := (Int × Int × Int) × List (List Int) × xt9
/-- is there a text, how many vars, names, commands; what exploring it comes to; what was explored -/
abbrev tI9 : Type := Int × Int × Int × Int × xR9 × tE9
def e09 : tE9 := ((-1, -1, 0), [], [])
def x09 : xR9 := ((0, 0), 0, [], [])
section RX
variable {a g : Nat} {M M' M2 : mM} {P S : Nat → Prop} {i9 : tI9}
/-- a game that has been read -/
def Gd (i9 : tI9) (M : mM) (g : Nat) : Prop := ∃ (T R W C Z : Nat) (E : Eg9) (tg : Int), nd M g T ∧ (T ≤ 16384 ∧ Z ≤ 16384) ∧ (mI M g 6 = R ∧ mI M g 12 = W ∧ mI M g 18 = C ∧ mI M g 17 = tg) ∧ (ln M (g + 30) = Z ∧ ln M (g + 32) = Z ∧ ln M (g + 34) = Z) ∧ Dg M g R W C Z T E tg ∧ 0 ≤ tg ∧ (mI M g 12 = i9.2.1 ∧ mI M g 6 = i9.2.2.1 ∧ mI M g 18 = i9.2.2.2.1 ∧ GaO E.2 ∧ i9.2.2.2.2.1 = XpG E.2)
/-- the tables of the states -/
def XL (M : mM) (a : Nat) : Prop := (∀ k : Nat, (k : Int) < mI M a 29 → 0 ≤ mI M (a + 107) k ∧ 0 ≤ mI M (a + 108) k ∧ mI M (a + 107) k + mI M (a + 108) k ≤ ln M (a + 109) ∧ mny M (a + 117) k = mI M (a + 108) k) ∧ ln M (a + 111) = ln M (a + 109) ∧ ln M (a + 113) = ln M (a + 109) ∧ ∀ i : Nat, (i : Int) < ln M (a + 109) → 0 ≤ nt M (a + 111) i ∧ 0 ≤ nt M (a + 113) i ∧ nt M (a + 111) i + nt M (a + 113) i ≤ 4096
def RX (i9 : tI9) (M : mM) (a g : Nat) : Prop := (0 ≤ mI M a 29 ∧ mI M a 29 ≤ 512) ∧ Sv M (a + 117) (mI M a 29).toNat ∧ (mI M a 11 ≠ 0 → Gd i9 M g) ∧ (0 < mI M a 29 → mI M a 11 ≠ 0 ∧ XL M a) ∧ (0 ≤ mI M a 48 ∧ mI M a 48 ≤ 900 ∧ mI M a 11 = i9.1)
/-- a list's length and entries are the same -/
def sl (M M' : mM) (q : Nat) : Prop := ln M' q = ln M q ∧ ∀ j, nt M' q j = nt M q j
/-- what was explored is the same -/
def xeF (M M' : mM) (a : Nat) : Prop := (mI M' a 29 = mI M a 29 ∧ mI M' a 30 = mI M a 30 ∧ mI M' a 40 = mI M a 40) ∧ (mI M' (a + 105) = mI M (a + 105) ∧ mI M' (a + 106) = mI M (a + 106) ∧ mI M' (a + 107) = mI M (a + 107) ∧ mI M' (a + 108) = mI M (a + 108) ∧ mI M' (a + 21185) = mI M (a + 21185)) ∧ (mL M' (a + 21186) = mL M (a + 21186) ∧ mL M' (a + 21187) = mL M (a + 21187)) ∧ sl M M' (a + 109) ∧ sl M M' (a + 111) ∧ sl M M' (a + 113) ∧ sl M M' (a + 115) ∧ mI M' (a + 117) 1 = mI M (a + 117) 1 ∧ ∀ i, 22 ≤ i → i ≤ 28 → mI M' (a + 117 + i) = mI M (a + 117 + i)
theorem sl.tr {M M' M2 : mM} {q : Nat} (x : sl M M' q) (y : sl M' M2 q) : sl M M2 q := ⟨y.1.trans x.1, fun j => (y.2 j).trans (x.2 j)⟩
theorem xeF.trans {M M' M2 : mM} {a : Nat} (h : xeF M M' a) (k : xeF M' M2 a) : xeF M M2 a := by
  obtain ⟨⟨a1, a2, a3⟩, ⟨b1, b2, b3, b4, b5⟩, ⟨c1, c2⟩, d1, d2, d3, d4, d5, d6⟩ := h
  obtain ⟨⟨x1, x2, x3⟩, ⟨y1, y2, y3, y4, y5⟩, ⟨z1, z2⟩, u1, u2, u3, u4, u5, u6⟩ := k
  exact ⟨⟨x1.trans a1, x2.trans a2, x3.trans a3⟩, ⟨y1.trans b1, y2.trans b2, y3.trans b3, y4.trans b4, y5.trans b5⟩, ⟨z1.trans c1, z2.trans c2⟩, d1.tr u1, d2.tr u2, d3.tr u3, d4.tr u4, u5.trans d5, fun i p q => (u6 i p q).trans (d6 i p q)⟩
/-- what the game, the states and the solver hold is the same -/
def RA (M M' : mM) (a g : Nat) : Prop := (mI M' a 11 = mI M a 11 ∧ mI M' a 29 = mI M a 29 ∧ mI M' a 48 = mI M a 48) ∧ Ag M M' (a + 117) (a + 117 + 21067) ∧ (sl M M' (a + 109) ∧ sl M M' (a + 111) ∧ sl M M' (a + 113)) ∧ (mI M' (a + 107) = mI M (a + 107) ∧ mI M' (a + 108) = mI M (a + 108)) ∧ (∀ q, gL9 g q → sl M M' q) ∧ mI M' g = mI M g ∧ (∀ i, 13 ≤ i → i ≤ 29 → mI M' (g + i) = mI M (g + i) ∧ mL M' (g + i) = mL M (g + i)) ∧ xeF M M' a
theorem Gd.ra (h : Gd i9 M g) (hl : ∀ q, gL9 g q → sl M M' q) (hI : mI M' g = mI M g) (hc : ∀ i, 13 ≤ i → i ≤ 29 → mI M' (g + i) = mI M (g + i) ∧ mL M' (g + i) = mL M (g + i)) : Gd i9 M' g := by
  obtain ⟨T, R, W, C, Z, E, tg, h1, h2, h3, h4, h5, h6⟩ := h
  have G : Ge M g R W C Z T M' := ⟨⟨fun n _ => ⟨(hl (g + 1) (by first | exact tLk1 g | exact gLk1 g | omega)).2 n, (hl (g + 7) (by first | exact tLk7 g | exact gLk7 g | omega)).2 n, (hl (g + 9) (by first | exact tLk9 g | exact gLk9 g | omega)).2 n, (hl (g + 11) (by first | exact tLk11 g | exact gLk11 g | omega)).2 n, (hl (g + 3) (by first | exact tLk3 g | exact gLk3 g | omega)).2 n⟩, fun r _ => ⟨by rw [(hc 13 (by omega) (by omega)).1], by rw [(hc 14 (by omega) (by omega)).1]⟩, fun v _ => by rw [(hc 18 (by omega) (by omega)).1]⟩, fun r _ => ⟨by rw [(hc 15 (by omega) (by omega)).1], by rw [(hc 16 (by omega) (by omega)).2], by rw [(hc 17 (by omega) (by omega)).2]⟩, fun v _ => ⟨by rw [(hc 19 (by omega) (by omega)).1], by rw [(hc 20 (by omega) (by omega)).1], by rw [(hc 21 (by omega) (by omega)).1]⟩, fun c _ => ⟨by rw [(hc 24 (by omega) (by omega)).1], by rw [(hc 25 (by omega) (by omega)).1], fun b _ => ⟨by rw [(hc 26 (by omega) (by omega)).1], by rw [(hc 28 (by omega) (by omega)).1], by rw [(hc 29 (by omega) (by omega)).1], by rw [(hc 27 (by omega) (by omega)).1], by rw [(hc 22 (by omega) (by omega)).1], by rw [(hc 23 (by omega) (by omega)).1]⟩⟩, fun i _ => ⟨(hl (g + 30) (by first | exact gLk30 g | omega)).2 i, (hl (g + 34) (by first | exact gLk34 g | omega)).2 i, (hl (g + 32) (by first | exact gLk32 g | omega)).2 i⟩⟩
  refine ⟨T, R, W, C, Z, E, tg, fun q hq => ?_, h2, by rw [hI]; exact h3, ⟨by rw [(hl (g + 30) (by first | exact gLk30 g | omega)).1]; exact h4.1, by rw [(hl (g + 32) (by first | exact gLk32 g | omega)).1]; exact h4.2.1, by rw [(hl (g + 34) (by first | exact gLk34 g | omega)).1]; exact h4.2.2⟩, h5.ge G, h6.1, by rw [hI]; exact h6.2⟩
  have hq' : q = g + 1 ∨ q = g + 3 ∨ q = g + 5 ∨ q = g + 7 ∨ q = g + 9 ∨ q = g + 11 := hq
  rw [(hl q (by omega)).1]
  exact h1 q hq
theorem RX.ra (h : RX i9 M a g) (k : RA M M' a g) : RX i9 M' a g := by
  obtain ⟨h1, h2, h3, h4, h5⟩ := h
  obtain ⟨⟨k1, k2, k3⟩, k4, ⟨k5, k6, k7⟩, ⟨k8, k9⟩, k10, k11, k12, -⟩ := k
  unfold RX
  rw [k1, k2, k3]
  refine ⟨h1, h2.ag k4, fun q => (h3 q).ra k10 k11 k12, fun q => ⟨(h4 q).1, ?_⟩, h5⟩
  obtain ⟨x1, x2, x3, x4⟩ := (h4 q).2
  have e23 := (k4 (a + 117 + 23) (by omega) (by omega)).2.2.2
  unfold XL mny
  rw [k2, k5.1, k6.1, k7.1, k8, k9, e23]
  refine ⟨x1, x2, x3, fun i hi => ?_⟩
  rw [k6.2, k7.2]
  exact x4 i hi
theorem sameN.sl {q : Nat} (h : sameN M M' q) : sl M M' q := ⟨h.1, h.2.1⟩
theorem ra_mv (w : Wd M a) (hg : g = a + 13 ∨ g = a + 49) (m : Mv P S M a M') (hin : ∀ q, P q → q ∈ nums a) (hP : ∀ q, P q → ¬ gL9 g q ∧ q ≠ a + 109 ∧ q ≠ a + 111 ∧ q ≠ a + 113 ∧ q ≠ a + 115) (hS : ∀ x, S x → ¬ (x = g ∨ (g + 13 ≤ x ∧ x ≤ g + 29) ∨ (a + 105 ≤ x ∧ x ≤ a + 108) ∨ (a + 117 ≤ x ∧ x ≤ a + 21187))) (hf : mI M' a 11 = mI M a 11 ∧ mI M' a 29 = mI M a 29 ∧ mI M' a 48 = mI M a 48 ∧ mI M' a 30 = mI M a 30 ∧ mI M' a 40 = mI M a 40) : RA M M' a g := by
  have hz := w.2.2.2
  have k109 : a + 109 ∈ nums a := nums_o (by decide)
  have k111 : a + 111 ∈ nums a := nums_o (by decide)
  have k113 : a + 113 ∈ nums a := nums_o (by decide)
  have k115 : a + 115 ∈ nums a := nums_o (by decide)
  have fre : ∀ i, 13 ≤ i → i ≤ 29 → g + i < a + 21192 ∧ g + i ∉ nums a ∧ (∀ q, q ∈ nums a → g + i ≠ q + 1) := fun i i1 i2 => by
    have : i = 13 ∨ i = 14 ∨ i = 15 ∨ i = 16 ∨ i = 17 ∨ i = 18 ∨ i = 19 ∨ i = 20 ∨ i = 21 ∨ i = 22 ∨ i = 23 ∨ i = 24 ∨ i = 25 ∨ i = 26 ∨ i = 27 ∨ i = 28 ∨ i = 29 := by omega
    rcases this with y | y | y | y | y | y | y | y | y | y | y | y | y | y | y | y | y <;> subst y <;> exact goffx hg (by decide) (by decide)
  have c7 := (m.cellL w hin (offx (a := a) (o := 107) (by decide)) (fun z => hS _ z (by omega))).1
  have c8 := (m.cellL w hin (offx (a := a) (o := 108) (by decide)) (fun z => hS _ z (by omega))).1
  have ag : Ag M M' (a + 117) (a + 117 + 21067) := fun x x1 x2 => by
    have np : ¬ P x := fun z => by have := nums_in (hin x z); omega
    have f := m.2.2.2.1
    refine ⟨(f.2.1 x (by omega)).1, (f.2.1 x (by omega)).2, f.2.2.1 x (by omega) np, (f.2.2.2.1 x (by omega) np (fun q hq z => ?_) (fun z => hS _ z (by omega))).1⟩
    rcases (w.arr (hin q hq)).2 with y | y
    · have := nums_in (hin q hq); omega
    · omega
  have xe : xeF M M' a := ⟨⟨hf.2.1, hf.2.2.2.1, hf.2.2.2.2⟩, ⟨(m.cellL w hin (offx (a := a) (o := 105) (by decide)) (fun z => hS _ z (by omega))).1, (m.cellL w hin (offx (a := a) (o := 106) (by decide)) (fun z => hS _ z (by omega))).1, c7, c8, (m.cellL w hin (offx (a := a) (o := 21185) (by decide)) (fun z => hS _ z (by omega))).1⟩, ⟨(m.cellL w hin (offx (a := a) (o := 21186) (by decide)) (fun z => hS _ z (by omega))).2, (m.cellL w hin (offx (a := a) (o := 21187) (by decide)) (fun z => hS _ z (by omega))).2⟩, (m.lst k109 (fun z => (hP _ z).2.1 rfl)).sl, (m.lst k111 (fun z => (hP _ z).2.2.1 rfl)).sl, (m.lst k113 (fun z => (hP _ z).2.2.2.1 rfl)).sl, (m.lst k115 (fun z => (hP _ z).2.2.2.2 rfl)).sl, by rw [(ag (a + 117) (by omega) (by omega)).2.2.2], fun i p q => (ag (a + 117 + i) (by omega) (by omega)).2.2.2⟩
  exact ⟨⟨hf.1, hf.2.1, hf.2.2.1⟩, ag, ⟨(m.lst k109 (fun z => (hP _ z).2.1 rfl)).sl, (m.lst k111 (fun z => (hP _ z).2.2.1 rfl)).sl, (m.lst k113 (fun z => (hP _ z).2.2.2.1 rfl)).sl⟩, ⟨(m.cellL w hin (offx (a := a) (o := 107) (by decide)) (fun z => hS _ z (by omega))).1, (m.cellL w hin (offx (a := a) (o := 108) (by decide)) (fun z => hS _ z (by omega))).1⟩, fun q hq => (m.lst (gL9_in hg hq) (fun z => (hP _ z).1 hq)).sl, m.gI w hg hin (fun z => hS _ z (by omega)), fun i i1 i2 => m.cellL w hin (fre i i1 i2) (fun z => hS _ z (by omega)), xe⟩
/-- only references of a itself differ -/
def ur (M M' : mM) (a : Nat) : Prop := mK M' = mK M ∧ mN M' = mN M ∧ mI M' = mI M ∧ mL M' = mL M ∧ mZ M' = mZ M ∧ mS M' = mS M ∧ ∀ b, b ≠ a → mR M' b = mR M b
theorem ur.one {j x : Nat} (e : M' = mUR M a j x) : ur M M' a := by
  subst e
  refine ⟨rfl, rfl, rfl, rfl, rfl, rfl, fun b hb => ?_⟩
  funext k
  rw [mR_UR, if_neg (fun z => hb z.1)]
theorem ur.trans (h : ur M M' a) (k : ur M' M2 a) : ur M M2 a := by
  obtain ⟨h1, h2, h3, h4, h5, h6, h7⟩ := h
  obtain ⟨k1, k2, k3, k4, k5, k6, k7⟩ := k
  exact ⟨k1.trans h1, k2.trans h2, k3.trans h3, k4.trans h4, k5.trans h5, k6.trans h6, fun b hb => (k7 b hb).trans (h7 b hb)⟩
theorem ur.sl {q : Nat} (h : ur M M' a) (hq : q ∈ nums a) : sameN M M' q := by
  obtain ⟨h1, h2, h3, h4, h5, h6, h7⟩ := h
  have r := h7 q (by have := nums_in hq; omega)
  refine ⟨by unfold ln; rw [h3], fun j => by unfold nt; rw [h3, r], by unfold cp; rw [h2, r], r⟩
theorem ra_ur (hg : g = a + 13 ∨ g = a + 49) (h : ur M M' a) : RA M M' a g := by
  obtain ⟨h1, h2, h3, h4, h5, h6, h7⟩ := id h
  exact ⟨by rw [h3]; exact ⟨rfl, rfl, rfl⟩, fun x x1 x2 => ⟨by rw [h1], by rw [h2], h7 x (by omega), by rw [h3]⟩, ⟨(h.sl (nums_o (by decide))).sl, (h.sl (nums_o (by decide))).sl, (h.sl (nums_o (by decide))).sl⟩, by rw [h3]; exact ⟨rfl, rfl⟩, fun q hq => (h.sl (gL9_in hg hq)).sl, by rw [h3], fun i _ _ => by rw [h3, h4]; exact ⟨rfl, rfl⟩, ⟨by rw [h3]; exact ⟨rfl, rfl, rfl⟩, by rw [h3]; exact ⟨rfl, rfl, rfl, rfl, rfl⟩, by rw [h4]; exact ⟨rfl, rfl⟩, (h.sl (nums_o (by decide))).sl, (h.sl (nums_o (by decide))).sl, (h.sl (nums_o (by decide))).sl, (h.sl (nums_o (by decide))).sl, by rw [h3], fun i _ _ => by rw [h3]⟩⟩
theorem RA.trans (h : RA M M' a g) (k : RA M' M2 a g) : RA M M2 a g := by
  obtain ⟨⟨h1, h2, h3⟩, h4, ⟨h5, h6, h7⟩, ⟨h8, h9⟩, h10, h11, h12, h13⟩ := h
  obtain ⟨⟨k1, k2, k3⟩, k4, ⟨k5, k6, k7⟩, ⟨k8, k9⟩, k10, k11, k12, k13⟩ := k
  have st : ∀ {q}, sl M M' q → sl M' M2 q → sl M M2 q := fun x y => ⟨y.1.trans x.1, fun j => (y.2 j).trans (x.2 j)⟩
  exact ⟨⟨k1.trans h1, k2.trans h2, k3.trans h3⟩, fun x x1 x2 => ⟨(k4 x x1 x2).1.trans (h4 x x1 x2).1, (k4 x x1 x2).2.1.trans (h4 x x1 x2).2.1, (k4 x x1 x2).2.2.1.trans (h4 x x1 x2).2.2.1, (k4 x x1 x2).2.2.2.trans (h4 x x1 x2).2.2.2⟩, ⟨st h5 k5, st h6 k6, st h7 k7⟩, ⟨k8.trans h8, k9.trans h9⟩, fun q hq => st (h10 q hq) (k10 q hq), k11.trans h11, fun i i1 i2 => ⟨(k12 i i1 i2).1.trans (h12 i i1 i2).1, (k12 i i1 i2).2.trans (h12 i i1 i2).2⟩, h13.trans k13⟩
theorem Wd.ur (w : Wd M a) (h : ur M M' a) (hr : ∀ i, i ≠ 1 → i ≠ 2 → i ≠ 9 → i ≠ 10 → mR M' a i = mR M a i) (h12 : (mR M' a 1 = a + 1 ∧ mR M' a 2 = a + 3) ∨ (mR M' a 1 = a + 3 ∧ mR M' a 2 = a + 1)) (h90 : (mR M' a 9 = a + 13 ∧ mR M' a 10 = a + 49) ∨ (mR M' a 9 = a + 49 ∧ mR M' a 10 = a + 13)) : Wd M' a := by
  have ne : ∀ p, p ∈ nums a → p ≠ a := fun p hp => by have := nums_in hp; omega
  have n13 : a + 13 ≠ a := by omega
  have n49 : a + 49 ≠ a := by omega
  obtain ⟨h1, h2, h3, h4, h5, h6, h7⟩ := h
  obtain ⟨⟨p1, p2, p3, p4, p5, p6, p7, p8, p9, p10, p11, p12⟩, w2, w3, w4⟩ := w
  have gpu : ∀ g', g' ≠ a → Gp M g' → Gp M' g' := fun g' hne hp => by
    unfold Gp at hp ⊢
    rw [h1, h2, h7 g' hne]
    exact hp
  refine ⟨⟨by rw [h1]; exact p1, h12, ?_, h90, ?_, ?_, ?_, by rw [h1, h2]; exact p8, by rw [h1, h2]; exact p9, by rw [h1, h2]; exact p10, gpu _ n13 p11, gpu _ n49 p12⟩, fun p hp => ?_, fun p q hp hq hne => ?_, by rw [h5]; exact w4⟩
  · rw [hr 3 (by decide) (by decide) (by decide) (by decide), hr 4 (by decide) (by decide) (by decide) (by decide), hr 5 (by decide) (by decide) (by decide) (by decide), hr 6 (by decide) (by decide) (by decide) (by decide)]
    exact p3
  · rw [hr 13 (by decide) (by decide) (by decide) (by decide), hr 14 (by decide) (by decide) (by decide) (by decide), hr 15 (by decide) (by decide) (by decide) (by decide), hr 18 (by decide) (by decide) (by decide) (by decide), hr 19 (by decide) (by decide) (by decide) (by decide), hr 20 (by decide) (by decide) (by decide) (by decide), hr 21 (by decide) (by decide) (by decide) (by decide), hr 22 (by decide) (by decide) (by decide) (by decide), hr 24 (by decide) (by decide) (by decide) (by decide), hr 25 (by decide) (by decide) (by decide) (by decide), hr 26 (by decide) (by decide) (by decide) (by decide), hr 27 (by decide) (by decide) (by decide) (by decide), hr 28 (by decide) (by decide) (by decide) (by decide)]
    exact p5
  · rw [hr 31 (by decide) (by decide) (by decide) (by decide), hr 32 (by decide) (by decide) (by decide) (by decide), hr 33 (by decide) (by decide) (by decide) (by decide), hr 34 (by decide) (by decide) (by decide) (by decide), hr 35 (by decide) (by decide) (by decide) (by decide), hr 36 (by decide) (by decide) (by decide) (by decide), hr 37 (by decide) (by decide) (by decide) (by decide), hr 38 (by decide) (by decide) (by decide) (by decide), hr 39 (by decide) (by decide) (by decide) (by decide)]
    exact p6
  · rw [hr 41 (by decide) (by decide) (by decide) (by decide), hr 42 (by decide) (by decide) (by decide) (by decide), hr 43 (by decide) (by decide) (by decide) (by decide), hr 44 (by decide) (by decide) (by decide) (by decide), hr 45 (by decide) (by decide) (by decide) (by decide), hr 46 (by decide) (by decide) (by decide) (by decide), hr 47 (by decide) (by decide) (by decide) (by decide)]
    exact p7
  · have r := h7 p (ne p hp)
    have q := w2 p hp
    unfold Nu cp at q ⊢
    rw [h1, h2, h3, h5, r]
    exact q
  · rw [h7 p (ne p hp), h7 q (ne q hq)]
    exact w3 p q hp hq hne
end RX
end
section
/-! The reference: what a call may change. -/
section FRR
variable {a : Nat} {M M' M2 : mM} {P S : Nat → Prop} {Nt9 : Int}
/-- the reference's own cells -/
def own (M : mM) (a x : Nat) : Prop := (a ≤ x ∧ x ≤ a + 21191) ∨ ∃ q, q ∈ nums a ∧ x = mR M q 0
def FR (M : mM) (a : Nat) (M' : mM) : Prop := mZ M ≤ mZ M' ∧ (∀ x, x < mZ M → mK M' x = mK M x ∧ mN M' x = mN M x) ∧ (∀ x, x < mZ M → ¬ own M a x → mR M' x = mR M x ∧ mI M' x = mI M x ∧ mL M' x = mL M x) ∧ (∀ q, q ∈ nums a → mR M' q 0 = mR M q 0 ∨ mZ M ≤ mR M' q 0) ∧ RmL (nums a) M M'
theorem FR.trans (h : FR M a M') (k : FR M' a M2) : FR M a M2 := by
  obtain ⟨h1, h2, h3, h4, h5⟩ := h
  obtain ⟨k1, k2, k3, k4, k5⟩ := k
  refine ⟨by omega, fun x hx => ⟨(k2 x (by omega)).1.trans (h2 x hx).1, (k2 x (by omega)).2.trans (h2 x hx).2⟩, fun x hx hn => ?_, fun q hq => ?_, h5.trans k5⟩
  · have a1 := h3 x hx hn
    have a2 := k3 x (by omega) (fun z => hn (by
      rcases z with z | ⟨q, hq, e⟩
      · exact Or.inl z
      · rcases h4 q hq with y | y
        · exact Or.inr ⟨q, hq, e.trans y⟩
        · omega))
    exact ⟨a2.1.trans a1.1, a2.2.1.trans a1.2.1, a2.2.2.trans a1.2.2⟩
  · rcases k4 q hq with y | y
    · rw [y]; exact h4 q hq
    · exact Or.inr (by omega)
theorem FR.mv (m : Mv P S M a M') (hin : ∀ q, P q → q ∈ nums a) (hS : ∀ x, S x → a ≤ x ∧ x ≤ a + 21191) : FR M a M' := by
  obtain ⟨-, -, m3, m4, m5⟩ := m
  refine ⟨m4.1.1, m4.2.1, fun x hx hn => ?_, fun q hq => ?_, m3⟩
  · have np : ¬ P x := fun z => hn (Or.inl (by have := nums_in (hin x z); omega))
    have r := m4.2.2.1 x hx np
    have c := m4.2.2.2.1 x hx np (fun p hp e => hn (Or.inr ⟨p, hin p hp, e⟩)) (fun z => hn (Or.inl (hS x z)))
    exact ⟨r, c.1, c.2⟩
  · by_cases z : P q
    · exact m4.2.2.2.2 q z
    · exact Or.inl (by rw [(m5 q hq z).2.2.2])
theorem psum_cg {f g : Nat → Nat} : ∀ (L : List Nat), (∀ p, p ∈ L → f p = g p) → psum f L = psum g L
  | [], _ => rfl
  | x :: L, h => by
    show f x + psum f L = g x + psum g L
    rw [h x List.mem_cons_self, psum_cg L (fun p hp => h p (List.mem_cons_of_mem _ hp))]
theorem FR.ur (h : ur M M' a) : FR M a M' := by
  have hs := fun {q} hq => h.sl (q := q) hq
  obtain ⟨h1, h2, h3, h4, h5, h6, h7⟩ := h
  refine ⟨by rw [h5]; exact Nat.le_refl _, fun x _ => by rw [h1, h2]; exact ⟨rfl, rfl⟩, fun x _ hn => ⟨h7 x (fun z => hn (Or.inl (by omega))), by rw [h3], by rw [h4]⟩, fun q hq => Or.inl (by rw [(hs hq).2.2.2]), ?_⟩
  have e1 : psum (cp M') (nums a) = psum (cp M) (nums a) := psum_cg _ (fun p hp => (hs hp).2.2.1)
  have e2 : psum (fun p => cp M' p / 16) (nums a) = psum (fun p => cp M p / 16) (nums a) := psum_cg _ (fun p hp => by rw [(hs hp).2.2.1])
  unfold RmL
  rw [e1, e2, h5, h6]
  exact ⟨Nat.le_refl _, Nat.le_refl _⟩
theorem FR.fi (f : FI S M M') (hS : ∀ x, S x → a ≤ x ∧ x ≤ a + 21191) : FR M a M' := by
  obtain ⟨h1, h2, h3, h4, h5, h6, h7⟩ := id f
  exact ⟨by rw [h5]; exact Nat.le_refl _, fun x _ => by rw [h1, h2]; exact ⟨rfl, rfl⟩, fun x _ hn => ⟨by rw [h3], h7 x (fun z => hn (Or.inl (hS x z))), by rw [h4]⟩, fun q _ => Or.inl (by rw [h3]), RmL.fi f⟩
/-- four characters more -/
def f4 (c : Nat → Int) (n : Nat) (l : Int) : Nat → Int := fun j => if j < n then c j else byt l (j - n)
/-- twenty characters more -/
def fdc (c : Nat → Int) (n : Nat) (l1 l2 l3 l4 l5 : Int) : Nat → Int := f4 (f4 (f4 (f4 (f4 c n l1) (n + 4) l2) (n + 8) l3) (n + 12) l4) (n + 16) l5
/-- a tape: how many characters, and which -/
abbrev tG9 : Type := (Nat → Int) × tI9
abbrev tP9 : Type := Int × tG9
def z9 (i9 : tI9) : tP9 := (0, fun _ => 0, i9)
def Tpl (Nt9 : tP9) (M : mM) (q : Nat) : Prop := ln M q = Nt9.1 ∧ Nt9.1 ≤ 16384 ∧ ∀ j : Nat, (j : Int) < Nt9.1 → nt M q j = Nt9.2.1 j
theorem Tpl.sm {Nt9 : tP9} {q : Nat} (h : Tpl Nt9 M q) (s : sameN M M' q) : Tpl Nt9 M' q := ⟨by rw [s.1]; exact h.1, h.2.1, fun j hj => by rw [s.2.1]; exact h.2.2 j hj⟩
theorem Tpl.nil {q : Nat} {c : tG9} (h : ln M q = 0) : Tpl (0, c) M q := ⟨h, (by show (0 : Int) ≤ 16384; decide), fun j hj => absurd hj (by show ¬ ((j : Int) < 0); omega)⟩
/-- the reference between two calls -/
def RI0 (Nt9 : tP9) (M : mM) (a : Nat) : Prop := mOk M ∧ Wd M a ∧ (Tpl Nt9 M (mR M a 1) ∧ ln M (mR M a 2) ≤ 16384) ∧ RX Nt9.2.2 M a (mR M a 9)
theorem Wd.g9 (w : Wd M a) : mR M a 9 = a + 13 ∨ mR M a 9 = a + 49 := by
  rcases w.1.2.2.2.1 with y | y
  · exact Or.inl y.1
  · exact Or.inr y.1
theorem Wd.g10 (w : Wd M a) : (mR M a 10 = a + 13 ∨ mR M a 10 = a + 49) ∧ (mR M a 9 = a + 13 ∧ mR M a 10 = a + 49 ∨ mR M a 9 = a + 49 ∧ mR M a 10 = a + 13) := by
  have z := w.1.2.2.2.1
  refine ⟨?_, z⟩
  rcases z with y | y
  · exact Or.inr y.2
  · exact Or.inl y.2
end FRR
end
section
/-! The reference: compile. -/
section CMP
variable {G : mG} {d a gm : Nat} {M M1 M2 M3 : mM} {P S : Nat → Prop} {Nt9 : tP9}
/-- so far the game, the states and the solver are as they were -/
def pk (M : mM) (a gm : Nat) (M2 : mM) : Prop := mOk M2 ∧ Wd M2 a ∧ RA M M2 a gm ∧ FR M a M2
theorem pk.mv (hg : gm = a + 13 ∨ gm = a + 49) (h : pk M a gm M2) (m : Mv P S M2 a M3) (hin : ∀ q, P q → q ∈ nums a) (hP : ∀ q, P q → ¬ gL9 gm q ∧ q ≠ a + 109 ∧ q ≠ a + 111 ∧ q ≠ a + 113 ∧ q ≠ a + 115) (hS : ∀ x, S x → (a ≤ x ∧ x ≤ a + 21191) ∧ ¬ (x = gm ∨ (gm + 13 ≤ x ∧ x ≤ gm + 29) ∨ (a + 105 ≤ x ∧ x ≤ a + 108) ∨ (a + 117 ≤ x ∧ x ≤ a + 21187))) (hf : mI M3 a 11 = mI M2 a 11 ∧ mI M3 a 29 = mI M2 a 29 ∧ mI M3 a 48 = mI M2 a 48 ∧ mI M3 a 30 = mI M2 a 30 ∧ mI M3 a 40 = mI M2 a 40) : pk M a gm M3 :=
  ⟨m.1, m.2.1, h.2.2.1.trans (ra_mv h.2.1 hg m hin hP (fun x hx => (hS x hx).2) hf), h.2.2.2.trans (FR.mv m hin (fun x hx => (hS x hx).1))⟩
theorem pk.fld {j : Nat} {v : Int} (hg : gm = a + 13 ∨ gm = a + 49) (h : pk M a gm M2) (hv : i32 v) (hj : j ≠ 11 ∧ j ≠ 29 ∧ j ≠ 48 ∧ j ≠ 30 ∧ j ≠ 40) (e : M3 = mUI M2 a j v) : pk M a gm M3 ∧ (∀ i, mI M3 a i = if i = j then v else mI M2 a i) ∧ mR M3 a = mR M2 a ∧ ∀ q, q ∈ nums a → sameN M2 M3 q := by
  obtain ⟨m, f⟩ := mv_fld hv h.1 h.2.1 e
  exact ⟨h.mv hg m (fun _ z => z.elim) (fun _ z => z.elim) (fun x z => by omega) ⟨by rw [f, if_neg (by omega)], by rw [f, if_neg (by omega)], by rw [f, if_neg (by omega)], by rw [f, if_neg (by omega)], by rw [f, if_neg (by omega)]⟩, f, m.rfl_a h.2.1 (fun _ z => z.elim), fun q hq => m.lst hq (fun z => z)⟩
/-- the tape becomes the text -/
theorem cmp_a {M4 M6 M9 : mM} (h : RI0 Nt9 M a) (e2 : M2 = mUI M a 0 0) (e4 : M4 = mUR M2 a 2 (mR M2 a 1)) (e6 : M6 = mUR M4 a 1 (mR M2 a 2)) (e9 : M9 = mUI M6 (mR M6 a 1) 1 0) : mK M6 (mR M6 a 1) = 15 ∧ pk M a (mR M a 9) M9 ∧ (mR M9 a 9 = mR M a 9 ∧ mR M9 a 10 = mR M a 10) ∧ ln M9 (mR M9 a 1) = 0 ∧ ln M9 (mR M9 a 2) ≤ 16384 := by
  obtain ⟨hO, w, ht, hx⟩ := h
  have hg := w.g9
  have p0 : pk M a (mR M a 9) M := ⟨hO, w, ra_mv (P := fun _ => False) (S := fun _ => False) w hg (Mv.refl hO w (fun _ z => z.elim)) (fun _ z => z.elim) (fun _ z => z.elim) (fun _ z => z.elim) ⟨rfl, rfl, rfl, rfl, rfl⟩, FR.mv (P := fun _ => False) (S := fun _ => False) (Mv.refl hO w (fun _ z => z.elim)) (fun _ z => z.elim) (fun _ z => z.elim)⟩
  obtain ⟨p2, f2, r2, s2⟩ := p0.fld hg ⟨by decide, by decide⟩ ⟨by decide, by decide, by decide, by decide, by decide⟩ e2
  have w2 := p2.2.1
  have u : ur M2 M6 a := (ur.one e4).trans (ur.one e6)
  have hr : ∀ i, i ≠ 1 → i ≠ 2 → mR M6 a i = mR M2 a i := fun i i1 i2 => by rw [e6, mR_UR, if_neg (fun z => i1 z.2), e4, mR_UR, if_neg (fun z => i2 z.2)]
  have r1 : mR M6 a 1 = mR M2 a 2 := by rw [e6, mR_UR, if_pos ⟨rfl, rfl⟩]
  have r2' : mR M6 a 2 = mR M2 a 1 := by rw [e6, mR_UR, if_neg (fun z => absurd z.2 (by decide)), e4, mR_UR, if_pos ⟨rfl, rfl⟩]
  have w6 : Wd M6 a := w2.ur u (fun i i1 i2 _ _ => hr i i1 i2) (by
    rw [r1, r2']
    rcases w2.1.2.1 with y | y
    · exact Or.inr ⟨y.2, y.1⟩
    · exact Or.inl ⟨y.2, y.1⟩) (by rw [hr 9 (by decide) (by decide), hr 10 (by decide) (by decide)]; exact w2.1.2.2.2.1)
  have o6 : mOk M6 := by rw [e6, e4]; exact mOk_UR (mOk_UR p2.1)
  have p6 : pk M a (mR M a 9) M6 := ⟨o6, w6, p2.2.2.1.trans (ra_ur hg u), p2.2.2.2.trans (FR.ur u)⟩
  have tp := w6.tape
  have b : 0 ≤ ln M6 (mR M6 a 1) := (w6.nu tp.1).2.2.2.1.1
  obtain ⟨m9, l9, -, -⟩ := mv_set o6 w6 tp.1 (v := 0) (by omega) b e9
  have hin : ∀ q, q = mR M6 a 1 → q ∈ nums a := fun q hq => by rw [hq]; exact tp.1
  have h13 : mR M6 a 1 = a + 1 ∨ mR M6 a 1 = a + 3 := by
    rcases w6.1.2.1 with y | y
    · exact Or.inl y.1
    · exact Or.inr y.1
  have aI := (m9.fld w6 hin (fun z => z)).1
  have p9 := p6.mv hg m9 hin (fun q hq => ⟨fun z => by
    have : q = mR M a 9 + 1 ∨ q = mR M a 9 + 3 ∨ q = mR M a 9 + 5 ∨ q = mR M a 9 + 7 ∨ q = mR M a 9 + 9 ∨ q = mR M a 9 + 11 ∨ q = mR M a 9 + 30 ∨ q = mR M a 9 + 32 ∨ q = mR M a 9 + 34 := z
    omega, by omega, by omega, by omega, by omega⟩) (fun _ z => z.elim) ⟨by rw [aI], by rw [aI], by rw [aI], by rw [aI], by rw [aI]⟩
  have r9 := m9.rfl_a w6 hin
  refine ⟨(w6.nu tp.1).1, p9, ⟨by rw [r9, hr 9 (by decide) (by decide), r2], by rw [r9, hr 10 (by decide) (by decide), r2]⟩, by rw [r9]; exact l9, ?_⟩
  rw [r9, (m9.lst tp.2.1 (fun z => tp.2.2 z.symm)).1, (u.sl tp.2.1).1, r2', r2, (s2 _ w.tape.1).1, ht.1.1]
  exact ht.1.2.1
/-- the words that have been cut -/
theorem cut_wx {M9 M11 : mM} (w9 : Wd M9 a) (ht : ln M9 (mR M9 a 2) ≤ 16384) (h : cutQ M9 a M11) : ∃ N, Wx M11 a N ∧ wrds M11 a N := by
  obtain ⟨m, c, h1, h2, h3, h4, h5⟩ := h
  have hin : ∀ q, wP a q → q ∈ nums a := fun q hq => wP_in hq
  have r := m.rfl_a w9 hin
  have tp := w9.tape
  have n2 : ¬ wP a (mR M9 a 2) := by
    rcases w9.1.2.1 with y | y <;> rw [y.2] <;> omega
  have st := m.lst tp.2.1 n2
  have all : ∀ k, k < c + 1 → wok M11 a (nt M11 (a + 5) k) (nt M11 (a + 7) k) (nt M11 (a + 9) k) := fun k hk => by
    by_cases z : k = c
    · rw [z]; exact h4
    · exact (h3 k (by omega)).1
  refine ⟨c + 1, ⟨⟨m.2.1, h1.1, by omega⟩, h1.2.1, h1.2.2, all, by rw [r, st.1]; exact ht⟩, by omega, by omega, h1.1, fun j hj => ?_, ?_⟩
  · have := h3 j (by omega)
    have w := (all j (by omega)).1
    omega
  · rw [show c + 1 - 1 = c by first | rfl | omega]
    exact h5
/-- the end of a compile that found a fault -/
theorem cmp_x {i9 : tI9} {r : Int} (ir : i32 r) (hg : gm = a + 13 ∨ gm = a + 49) (h0 : RX i9 M a gm) (p : pk M a gm M1) (h9 : mR M1 a 9 = gm) (t1 : ln M1 (mR M1 a 1) = 0 ∧ (0 : Int) ≤ 16384) (t2 : ln M1 (mR M1 a 2) ≤ 16384) {v : Int} (iv : i32 v) (e : M2 = mUI M1 a 12 v) : i32 r ∧ RI0 (z9 i9) M2 a ∧ FR M a M2 := by
  obtain ⟨p2, f2, r2, s2⟩ := p.fld hg iv ⟨by decide, by decide, by decide, by decide, by decide⟩ e
  have tp := p.2.1.tape
  refine ⟨ir, ⟨p2.1, p2.2.1, ⟨by rw [r2]; exact Tpl.nil (by rw [(s2 _ tp.1).1]; exact t1.1), by rw [r2, (s2 _ tp.2.1).1]; exact t2⟩, ?_⟩, p2.2.2.2⟩
  rw [r2, h9]
  exact h0.ra p2.2.2.1
theorem cmp_xe (hg : gm = a + 13 ∨ gm = a + 49) (p : pk M a gm M1) {v : Int} (iv : i32 v) (e : M2 = mUI M1 a 12 v) : xeF M M2 a ∧ mI M2 (a + 117 + 30) 0 = mI M (a + 117 + 30) 0 := by
  have r := (p.fld hg iv ⟨by decide, by decide, by decide, by decide, by decide⟩ e).1.2.2.1
  exact ⟨r.2.2.2.2.2.2.2, by rw [(r.2.1 (a + 117 + 30) (by omega) (by omega)).2.2.2]⟩
end CMP
end
section
/-! The reference: compile, to its end. -/
section CMP2
variable {G : mG} {d a gm gd : Nat} {M M1 M2 M3 : mM} {P S : Nat → Prop} {Nt9 : tP9}
theorem gd_mv {i9 : tI9} {g : Nat} (h : Gd i9 M2 g) (w : Wd M2 a) (hg : g = a + 13 ∨ g = a + 49) (m : Mv P S M2 a M3) (hin : ∀ q, P q → q ∈ nums a) (hP : ∀ q, P q → ¬ gL9 g q) (hS : ∀ x, S x → ¬ (x = g ∨ (g + 13 ≤ x ∧ x ≤ g + 29))) : Gd i9 M3 g := by
  have fre : ∀ i, 13 ≤ i → i ≤ 29 → g + i < a + 21192 ∧ g + i ∉ nums a ∧ (∀ q, q ∈ nums a → g + i ≠ q + 1) := fun i i1 i2 => by
    have : i = 13 ∨ i = 14 ∨ i = 15 ∨ i = 16 ∨ i = 17 ∨ i = 18 ∨ i = 19 ∨ i = 20 ∨ i = 21 ∨ i = 22 ∨ i = 23 ∨ i = 24 ∨ i = 25 ∨ i = 26 ∨ i = 27 ∨ i = 28 ∨ i = 29 := by omega
    rcases this with y | y | y | y | y | y | y | y | y | y | y | y | y | y | y | y | y <;> subst y <;> exact goffx hg (by decide) (by decide)
  exact h.ra (fun q hq => (m.lst (gL9_in hg hq) (fun z => hP _ z hq)).sl) (m.gI w hg hin (fun z => hS _ z (by omega))) (fun i i1 i2 => m.cellL w hin (fre i i1 i2) (fun z => hS _ z (by omega)))
/-- a step of the solver alone -/
theorem mv_sol (o : mOk M3) (w : Wd M2 a) (f : FI (vF (a + 117)) M2 M3) : Mv (fun _ => False) (vF (a + 117)) M2 a M3 := by
  refine mv_fi o w f (fun x z => ?_)
  have z' : a + 117 ≤ x ∧ x ≤ a + 117 + 21067 := z
  exact ⟨by omega, by omega, fun y => by have := nums_in y; omega, fun q hq y => by have := nums_in hq; omega⟩
theorem Df.good {g N T K R W C Z : Nat} {E : Eg9} {tg : Int} {X9 : xR9} {e9 : tE9} (h : Df M2 a g N T K R W C Z E tg) (hT : T ≤ 16384) (hZ : Z ≤ 16384) (ht : 0 ≤ tg) (ga : GaO E.2) (hX : X9 = XpG E.2) {i0 : Int} : Gd (i0, (W : Int), (R : Int), (C : Int), X9, e9) M2 g :=
  ⟨T, R, W, C, Z, E, tg, h.1.2.2.2.1, ⟨hT, hZ⟩, h.2.1, h.2.2.1, h.2.2.2.2, ht, h.2.1.2.1, h.2.1.1, h.2.1.2.2.1, ga, hX⟩
end CMP2
end
section
/-! The reference's compile, exactly. -/
section CMX
variable {G : mG} {d a gm gd : Nat} {M M1 M2 M3 : mM} {P S : Nat → Prop} {Nt9 : tP9}
theorem rwx_cg {c c' : Nat → Int} {n a N : Nat} {M : mM} (h : ∀ j, j < n → c j = c' j) (s : rwx kwx c n a N M) : rwx kwx c' n a N M := by
  obtain ⟨s1, s2⟩ := s
  have pj : ∀ j, j + 1 ≤ N → pwq c n j = pwq c' n j := fun j hj => pwq_cg h j (fun i hi => (s1 i (by omega)).1)
  refine ⟨fun j hj => ?_, ?_⟩
  · obtain ⟨lt, k1, k2, k3, k4⟩ := s1 j hj
    have e := weq_cg h lt
    have k5 := wkq_cg h lt
    rw [k5] at k1 k2
    rw [e] at k4
    rw [pj j (by omega)] at lt k1 k2 k3 k4
    exact ⟨lt, k1, k2, k3, k4⟩
  · by_cases hN : 1 ≤ N
    · have e := pj (N - 1) (by omega)
      rcases s2 with ⟨a1, a2, a3⟩ | ⟨a1, a2, a3, a4⟩
      · exact Or.inl ⟨a1, by rw [← e]; exact a2, a3⟩
      · rw [wkq_cg h a2] at a3
        rw [e] at a2 a3 a4
        exact Or.inr ⟨a1, a2, a3, a4⟩
    · have z : N - 1 = 0 := by omega
      have e : pwq c n 0 = pwq c' n 0 := pwq_cg h 0 (fun i hi => absurd hi (by omega))
      rw [z] at s2 ⊢
      rcases s2 with ⟨a1, a2, a3⟩ | ⟨a1, a2, a3, a4⟩
      · exact Or.inl ⟨a1, by rw [← e]; exact a2, a3⟩
      · rw [wkq_cg h a2] at a3
        rw [e] at a2 a3 a4
        exact Or.inr ⟨a1, a2, a3, a4⟩
/-- what compile answers for the text C, n: r its answer, p the place, c the counts of vars, rules, commands -/
def cmR (C : Nat → Int) (n a : Nat) (r p : Int) (c : Int × Int × Int × xR9) : Prop := ∃ (Mw : mM) (N : Nat), 1 ≤ N ∧ rwx kwx C n a N Mw ∧ (∀ j, j < n → txc Mw a j = C j) ∧ ((r = 1 ∧ ∃ q : Nat, q < N ∧ p = nt Mw (a + 7) q ∧ ∀ W : Nat → Int, (∀ j, j < N → W j = nt Mw (a + 5) j) → Rf W [50] 0 q) ∨ ((∀ W : Nat → Int, (∀ j, j < N → W j = nt Mw (a + 5) j) → Rc W [50] 0 [] N) ∧ (∃ f, Ac (wk Mw a) N f [50] 0) ∧ ∃ sF : st9, sF = its9 (wk Mw a) (nt Mw (a + 7)) (nuq Mw a) (smx Mw a) N 60 N 0 s09 ∧ ((sF.2.2.1 ≠ 0 ∧ r = sF.2.2.1 ∧ p = sF.2.2.2) ∨ (sF.2.2.1 = 0 ∧ r = 0 ∧ p = -1 ∧ c = ((sF.2.1.1 : Int), (sF.2.1.2.1 : Int), (sF.2.1.2.2.1 : Int), XpG (txg Mw a N sF.1 (igs9 (wk Mw a) (nt Mw (a + 7)) (nuq Mw a) (smx Mw a) N 60 N 0 s09 g09))) ∧ (igs9 (wk Mw a) (nt Mw (a + 7)) (nuq Mw a) (smx Mw a) N 60 N 0 s09 g09).2.1 ≠ none))))
theorem x_cmp_ok {i9 i8 : tI9} (i81 : i8.1 = 1) (h0 : RX i9 M a gm) (hgm : gm = a + 13 ∨ gm = a + 49) (p : pk M a gm M1) (h9 : mR M1 a 9 = gm) (h10 : mR M1 a 10 = gd) (t1 : ln M1 (mR M1 a 1) = 0 ∧ (0 : Int) ≤ 16384) (t2 : ln M1 (mR M1 a 2) ≤ 16384) (hG : Gd i8 M1 gd) : ∀ M34, M34 = mUR M1 a 9 (mR M1 a 10) → ∀ M36, M36 = mUR M34 a 10 (mR M1 a 9) → ∀ M38, M38 = mUI M36 a 11 1 → ∀ M40, M40 = mUI M38 a 29 0 → mK M40 (mR M40 a 39) = 17 ∧ Cv G y_MS_clear d [vr (mR M40 a 39)] M40 (fun M43 => mOk M43 ∧ (mK M43 a = 14 ∧ ∀ M47, M47 = mUI M43 a 12 (-1) → (i32 0 ∧ RI0 (z9 i8) M47 a ∧ FR M a M47) ∧ mI M47 a 12 = -1 ∧ mI M47 (mR M47 a 9) = mI M1 gd ∧ mI M47 a 29 = 0 ∧ mI M47 a 30 = mI M a 30 ∧ mI M47 (a + 117 + 30) 0 = 0)) := by
  intro M34 e34 M36 e36 M38 e38 M40 e40
  have w1 := p.2.1
  have hgd : gd = a + 13 ∨ gd = a + 49 := by rw [← h10]; exact w1.g10.1
  have u : ur M1 M36 a := (ur.one e34).trans (ur.one e36)
  have hr : ∀ i, i ≠ 9 → i ≠ 10 → mR M36 a i = mR M1 a i := fun i i1 i2 => by rw [e36, mR_UR, if_neg (fun z => i2 z.2), e34, mR_UR, if_neg (fun z => i1 z.2)]
  have r10 : mR M36 a 10 = gm := by rw [e36, mR_UR, if_pos ⟨rfl, rfl⟩]; exact h9
  have r9 : mR M36 a 9 = gd := by rw [e36, mR_UR, if_neg (fun z => absurd z.2 (by decide)), e34, mR_UR, if_pos ⟨rfl, rfl⟩]; exact h10
  have w36 : Wd M36 a := w1.ur u (fun i _ _ i3 i4 => hr i i3 i4) (by rw [hr 1 (by decide) (by decide), hr 2 (by decide) (by decide)]; exact w1.1.2.1) (by
    rw [r9, r10]
    have := w1.g10.2
    rw [h9, h10] at this
    rcases this with y | y
    · exact Or.inr ⟨y.2, y.1⟩
    · exact Or.inl ⟨y.2, y.1⟩)
  have o36 : mOk M36 := by rw [e36, e34]; exact mOk_UR (mOk_UR p.1)
  have F36 := p.2.2.2.trans (FR.ur u)
  have S36 : Sv M36 (a + 117) (mI M a 29).toNat := h0.2.1.ag (p.2.2.1.trans (ra_ur hgm u)).2.1
  have x48 : mI M36 a 48 = mI M a 48 := (p.2.2.1.trans (ra_ur hgm u)).1.2.2
  have x30 : mI M36 a 30 = mI M a 30 := (p.2.2.1.trans (ra_ur hgm u)).2.2.2.2.2.2.2.1.2.1
  have G36 : Gd i8 M36 gd := hG.ra (fun q hq => (u.sl (gL9_in hgd hq)).sl) (by rw [u.2.2.1]) (fun i _ _ => by rw [u.2.2.1, u.2.2.2.1]; exact ⟨rfl, rfl⟩)
  obtain ⟨m38, f38⟩ := mv_fld (v := 1) ⟨by decide, by decide⟩ o36 w36 e38
  obtain ⟨m40, f40⟩ := mv_fld (v := 0) ⟨by decide, by decide⟩ m38.1 m38.2.1 e40
  have m3640 := m38.trans m40
  have w40 := m40.2.1
  have no : ∀ q : Nat, False → q ∈ nums a := fun _ z => z.elim
  have ns : ∀ x, x = a → ¬ (x = gd ∨ (gd + 13 ≤ x ∧ x ≤ gd + 29)) := fun x z => by omega
  have G40 : Gd i8 M40 gd := gd_mv G36 w36 hgd m3640 no (fun _ z => z.elim) ns
  have inr : ∀ x, x = a → a ≤ x ∧ x ≤ a + 21191 := fun x z => by omega
  have F40 := F36.trans (FR.mv m3640 no inr)
  have ra40 := ra_mv (g := gm) w36 hgm m3640 no (fun _ z => z.elim) (fun x z => by omega)
  have agf : ∀ {Ma Mb : mM}, Wd Ma a → Mv (fun _ => False) (fun x => x = a) Ma a Mb → Ag Ma Mb (a + 117) (a + 117 + 21067) := fun {Ma Mb} wa mm x x1 x2 => by
    have hz := wa.2.2.2
    have f := mm.2.2.2.1
    exact ⟨(f.2.1 x (by omega)).1, (f.2.1 x (by omega)).2, f.2.2.1 x (by omega) (fun z => z), (f.2.2.2.1 x (by omega) (fun z => z) (fun q z => z.elim) (by omega)).1⟩
  have S40 : Sv M40 (a + 117) (mI M a 29).toNat := S36.ag (agf w36 m3640)
  have R40 : mR M40 a = mR M36 a := m3640.rfl_a w36 no
  rw [show mR M40 a 39 = a + 117 from w40.1.2.2.2.2.2.1.2.2.2.2.2.2.2.2]
  refine ⟨S40.1.1, (s_MS_clear m40.1 S40).mono (fun M43 t => ?_)⟩
  obtain ⟨o43, f43, S43, s2_, s3_, s30_⟩ := t
  have has43 : mI M43 (a + 117 + 30) 0 = 0 := s30_ 0 (by decide)
  have m43 := mv_sol o43 w40 f43
  have w43 := m43.2.1
  have nv : ∀ x, vF (a + 117) x → (a ≤ x ∧ x ≤ a + 21191) ∧ ¬ (x = gd ∨ (gd + 13 ≤ x ∧ x ≤ gd + 29)) := fun x z => by
    have z' : a + 117 ≤ x ∧ x ≤ a + 117 + 21067 := z
    omega
  have G43 : Gd i8 M43 gd := gd_mv G40 w40 hgd m43 no (fun _ z => z.elim) (fun x z => (nv x z).2)
  have F43 := F40.trans (FR.mv m43 no (fun x z => (nv x z).1))
  have nva : ¬ vF (a + 117) a := fun z => by
    have z' : a + 117 ≤ a ∧ a ≤ a + 117 + 21067 := z
    omega
  have I43 := (m43.fld w40 no nva).1
  refine ⟨o43, w43.1.1, fun M47 e47 => ?_⟩
  obtain ⟨m47, f47⟩ := mv_fld (v := -1) ⟨by decide, by decide⟩ o43 w43 e47
  have w47 := m47.2.1
  have G47 : Gd i8 M47 gd := gd_mv G43 w43 hgd m47 no (fun _ z => z.elim) ns
  have F47 := F43.trans (FR.mv m47 no inr)
  have S47 : Sv M47 (a + 117) 0 := S43.ag (agf w43 m47)
  have R47 : mR M47 a = mR M36 a := by rw [m47.rfl_a w43 no, m43.rfl_a w40 no, R40]
  have x29 : mI M47 a 29 = 0 := by rw [f47, if_neg (by decide), I43, f40, if_pos rfl]
  have y48 : mI M47 a 48 = mI M a 48 := by rw [f47, if_neg (by decide), I43, f40, if_neg (by decide), f38, if_neg (by decide), x48]
  have y30 : mI M47 a 30 = mI M a 30 := by rw [f47, if_neg (by decide), I43, f40, if_neg (by decide), f38, if_neg (by decide), x30]
  have ls : ∀ {q}, q ∈ nums a → ln M47 q = ln M1 q := fun {q} hq => by rw [(m47.lst hq (fun z => z)).1, (m43.lst hq (fun z => z)).1, (m3640.lst hq (fun z => z)).1, (u.sl hq).1]
  have tp := w1.tape
  have gI47 : mI M47 gd = mI M1 gd := by rw [m47.gI w43 hgd no (fun z => ns _ z (Or.inl rfl)), m43.gI w40 hgd no (fun z => (nv _ z).2 (Or.inl rfl)), m3640.gI w36 hgd no (fun z => ns _ z (Or.inl rfl)), u.2.2.1]
  refine ⟨⟨⟨by decide, by decide⟩, ⟨m47.1, w47, ⟨by rw [R47, hr 1 (by decide) (by decide)]; exact Tpl.nil (by rw [ls tp.1]; exact t1.1), by rw [R47, hr 2 (by decide) (by decide), ls tp.2.1]; exact t2⟩, ?_⟩, F47⟩, by rw [f47, if_pos rfl], by rw [R47, r9]; exact gI47, x29, y30, by rw [e47, mI_UI, if_neg (fun z => absurd z.1 (by omega))]; exact has43⟩
  rw [R47, r9]
  refine ⟨by rw [x29]; decide, by rw [x29]; exact S47, fun _ => G47, fun z => by rw [x29] at z; exact absurd z (by decide), by rw [y48]; exact h0.2.2.2.2.1, by rw [y48]; exact h0.2.2.2.2.2.1, by rw [f47, if_neg (by decide), I43, f40, if_neg (by decide), f38, if_pos rfl]; exact i81.symm⟩
theorem x_cmp_t {M4 M6 M9 : mM} (h : RI0 Nt9 M a) (e2 : M2 = mUI M a 0 0) (e4 : M4 = mUR M2 a 2 (mR M2 a 1)) (e6 : M6 = mUR M4 a 1 (mR M2 a 2)) (e9 : M9 = mUI M6 (mR M6 a 1) 1 0) : txc M9 a = nt M (mR M a 1) ∧ txn M9 a = (ln M (mR M a 1)).toNat := by
  obtain ⟨hO, w, ht, hx⟩ := h
  have hg := w.g9
  have p0 : pk M a (mR M a 9) M := ⟨hO, w, ra_mv (P := fun _ => False) (S := fun _ => False) w hg (Mv.refl hO w (fun _ z => z.elim)) (fun _ z => z.elim) (fun _ z => z.elim) (fun _ z => z.elim) ⟨rfl, rfl, rfl, rfl, rfl⟩, FR.mv (P := fun _ => False) (S := fun _ => False) (Mv.refl hO w (fun _ z => z.elim)) (fun _ z => z.elim) (fun _ z => z.elim)⟩
  obtain ⟨p2, f2, r2, s2⟩ := p0.fld hg ⟨by decide, by decide⟩ ⟨by decide, by decide, by decide, by decide, by decide⟩ e2
  have w2 := p2.2.1
  have u : ur M2 M6 a := (ur.one e4).trans (ur.one e6)
  have hr : ∀ i, i ≠ 1 → i ≠ 2 → mR M6 a i = mR M2 a i := fun i i1 i2 => by rw [e6, mR_UR, if_neg (fun z => i1 z.2), e4, mR_UR, if_neg (fun z => i2 z.2)]
  have r1 : mR M6 a 1 = mR M2 a 2 := by rw [e6, mR_UR, if_pos ⟨rfl, rfl⟩]
  have r2' : mR M6 a 2 = mR M2 a 1 := by rw [e6, mR_UR, if_neg (fun z => absurd z.2 (by decide)), e4, mR_UR, if_pos ⟨rfl, rfl⟩]
  have w6 : Wd M6 a := w2.ur u (fun i i1 i2 _ _ => hr i i1 i2) (by
    rw [r1, r2']
    rcases w2.1.2.1 with y | y
    · exact Or.inr ⟨y.2, y.1⟩
    · exact Or.inl ⟨y.2, y.1⟩) (by rw [hr 9 (by decide) (by decide), hr 10 (by decide) (by decide)]; exact w2.1.2.2.2.1)
  have o6 : mOk M6 := by rw [e6, e4]; exact mOk_UR (mOk_UR p2.1)
  have tp := w6.tape
  have b : 0 ≤ ln M6 (mR M6 a 1) := (w6.nu tp.1).2.2.2.1.1
  obtain ⟨m9, l9, -, -⟩ := mv_set o6 w6 tp.1 (v := 0) (by omega) b e9
  have hin : ∀ q, q = mR M6 a 1 → q ∈ nums a := fun q hq => by rw [hq]; exact tp.1
  have r9 := m9.rfl_a w6 hin
  have s := (m9.lst tp.2.1 (fun z => tp.2.2 z.symm))
  unfold txn
  constructor
  · show nt M9 (mR M9 a 2) = _
    funext k
    rw [r9, s.2.1, (u.sl tp.2.1).2.1, r2', r2, (s2 _ w.tape.1).2.1]
  · rw [r9, s.1, (u.sl tp.2.1).1, r2', r2, (s2 _ w.tape.1).1]
theorem x_MM_compile (hWK : WKx G kwx) (h : RI0 Nt9 M a) : Ci G y_MM_compile (d + 12) [vr a] M (fun r M' => ∃ i8 : tI9, ((i32 r ∧ RI0 (z9 i8) M' a ∧ FR M a M') ∧ cmR Nt9.2.1 Nt9.1.toNat a r (mI M' a 12) (i8.2.1, i8.2.2.1, i8.2.2.2.1, i8.2.2.2.2.1)) ∧ ((r ≠ 0 ∧ i8 = Nt9.2.2 ∧ xeF M M' a ∧ mI M' (a + 117 + 30) 0 = mI M (a + 117 + 30) 0) ∨ (r = 0 ∧ (i8.1 = 1 ∧ i8.2.2.2.2.2 = ((-1, Nt9.2.2.2.2.2.2.2.1.2.1, 0), [], [])) ∧ mI M' a 29 = 0 ∧ mI M' a 30 = mI M a 30 ∧ mI M' (a + 117 + 30) 0 = 0))) := by
  obtain ⟨hO, w, ht, hx⟩ := id h
  have hg := w.g9
  refine k_MM_compile hO ⟨w.1.1, fun M2 e2 M4 e4 M6 e6 => ?_⟩
  have A := fun (M9 : mM) e9 => cmp_a (M9 := M9) h e2 e4 e6 e9
  refine ⟨(A _ rfl).1, fun M9 e9 => ?_⟩
  obtain ⟨-, p9, ⟨r9, r10⟩, l9, t9⟩ := A M9 e9
  obtain ⟨tc, tnn⟩ := x_cmp_t h e2 e4 e6 e9
  clear A e2 e4 e6 e9
  have w9 := p9.2.1
  have s9 : mR M9 a 1 = a + 1 ∧ mR M9 a 2 = a + 3 ∨ mR M9 a 1 = a + 3 ∧ mR M9 a 2 = a + 1 := w9.1.2.1
  have tp := w9.tape
  have s91 : mR M9 a 1 = a + 1 ∨ mR M9 a 1 = a + 3 := by omega
  have s92 : mR M9 a 2 = a + 1 ∨ mR M9 a 2 = a + 3 := by omega
  refine (x_MM_cut (d := d + 5) hWK p9.1 w9 t9).mono (fun M11 q11 => ?_)
  obtain ⟨q11, N', hN1', wds11, rw11⟩ := q11
  obtain ⟨N, x11, wr11⟩ := cut_wx w9 t9 q11
  have eN : N' = N := by
    have y1 := wds11.1
    have y2 := x11.1.2.1
    omega
  subst eN
  rw [tc, tnn] at rw11
  have m11 := q11.1
  clear q11
  have hin11 : ∀ q, wP a q → q ∈ nums a := fun q hq => wP_in hq
  have I11 := (m11.fld w9 hin11 (fun z => z)).1
  have p11 := p9.mv hg m11 hin11 (fun q hq => ⟨fun z => by
    have z' : q = mR M a 9 + 1 ∨ q = mR M a 9 + 3 ∨ q = mR M a 9 + 5 ∨ q = mR M a 9 + 7 ∨ q = mR M a 9 + 9 ∨ q = mR M a 9 + 11 ∨ q = mR M a 9 + 30 ∨ q = mR M a 9 + 32 ∨ q = mR M a 9 + 34 := z
    omega, by omega, by omega, by omega, by omega⟩) (fun _ z => z.elim) ⟨by rw [I11], by rw [I11], by rw [I11], by rw [I11], by rw [I11]⟩
  have w11 := p11.2.1
  have R11 := m11.rfl_a w9 hin11
  refine ⟨m11.1, w11.1.1, (x_MM_readText (d := d + 7) m11.1 w11 wr11).mono (fun v M15 q15 => ?_)⟩
  obtain ⟨⟨⟨m15, f15⟩, hv⟩, rv⟩ := q15
  have hin15 : ∀ q, q = a + 11 → q ∈ nums a := fun q hq => by rw [hq]; exact nums_o (by decide)
  have p15 := p11.mv hg m15 hin15 (fun q hq => ⟨fun z => by
    have z' : q = mR M a 9 + 1 ∨ q = mR M a 9 + 3 ∨ q = mR M a 9 + 5 ∨ q = mR M a 9 + 7 ∨ q = mR M a 9 + 9 ∨ q = mR M a 9 + 11 ∨ q = mR M a 9 + 30 ∨ q = mR M a 9 + 32 ∨ q = mR M a 9 + 34 := z
    omega, by omega, by omega, by omega, by omega⟩) (fun x z => by omega) ⟨f15 11 (by decide) (by decide), f15 29 (by decide) (by decide), f15 48 (by decide) (by decide), f15 30 (by decide) (by decide), f15 40 (by decide) (by decide)⟩
  have w15 := p15.2.1
  have R15 := m15.rfl_a w11 hin15
  have t2n : ¬ (mR M11 a 2 = a + 11) := by rw [R11]; omega
  have x15 : Wx M15 a N' := x11.mv m15 hin15 (by omega) (by omega) (by omega) t2n
  have hN := x15.1.2.2
  have iv : i32 v := by rcases hv with ⟨y, -⟩ | ⟨y, -⟩ <;> rw [y] <;> exact ⟨by decide, by decide⟩
  have l15 : ln M15 (mR M9 a 1) = 0 := by rw [(m15.lst tp.1 (by omega)).1, (m11.lst tp.1 (by omega)).1]; exact l9
  have k15 : ln M15 (mR M9 a 2) ≤ 16384 := by rw [(m15.lst tp.2.1 (by omega)).1, (m11.lst tp.2.1 (by omega)).1]; exact t9
  have RR : mR M15 a = mR M9 a := R15.trans R11
  have c5 : ∀ k, nt M15 (a + 5) k = nt M11 (a + 5) k := fun k => (m15.lst n5 (by omega)).2.1 k
  have c7 : ∀ k, nt M15 (a + 7) k = nt M11 (a + 7) k := fun k => (m15.lst n7 (by omega)).2.1 k
  have c9 : ∀ k, nt M15 (a + 9) k = nt M11 (a + 9) k := fun k => (m15.lst n9 (by omega)).2.1 k
  have rw15 : rwx kwx (nt M (mR M a 1)) (ln M (mR M a 1)).toNat a N' M15 := by
    unfold rwx at rw11 ⊢
    simp only [c5, c7, c9]
    exact rw11
  have rw15 : rwx kwx Nt9.2.1 Nt9.1.toNat a N' M15 := by
    have b0 : 0 ≤ ln M (mR M a 1) := (w.nu w.tape.1).2.2.2.1.1
    rw [ht.1.1] at rw15 b0
    exact rwx_cg (fun j hj => ht.1.2.2 j (by omega)) rw15
  have tc15 : ∀ j, j < Nt9.1.toNat → txc M15 a j = Nt9.2.1 j := fun j hj => by
    have b0 : 0 ≤ ln M (mR M a 1) := (w.nu w.tape.1).2.2.2.1.1
    rw [ht.1.1] at b0
    rw [← ht.1.2.2 j (by omega)]
    refine congrFun (?_ : txc M15 a = nt M (mR M a 1)) j
    rw [← tc]
    show nt M15 (mR M15 a 2) = nt M9 (mR M9 a 2)
    funext k
    rw [RR, (m15.lst tp.2.1 (by omega)).2.1, (m11.lst tp.2.1 (by omega)).2.1]
  have one : 1 ≤ N' := hN1'
  refine ⟨iv, m15.1, fun z => ⟨w15.1.1, ?_⟩, fun z => ⟨w15.1.1, ?_⟩⟩
  · obtain ⟨b0, b1⟩ : 0 ≤ mI M15 a 8 ∧ mI M15 a 8 < N' := by
      rcases hv with ⟨-, y⟩ | ⟨y, -⟩
      · exact y
      · rw [y] at z; exact absurd z (by decide)
    obtain ⟨k, hk⟩ : ∃ k : Nat, mI M15 a 8 = (k : Int) := ⟨(mI M15 a 8).toNat, by omega⟩
    rw [hk]
    refine (s_MM_place0 (d := d + 10) m15.1 x15 (by omega)).mono (fun y M21 h21 => ?_)
    obtain ⟨e21, hy⟩ := h21
    subst e21
    have hy32 : i32 y := by rw [hy]; exact (m15.1 _ _).1
    refine ⟨hy32, m15.1, w15.1.1, fun M25 e25 => ⟨Nt9.2.2, ⟨cmp_x ⟨by decide, by decide⟩ hg hx p15 (by rw [RR, r9]) (by rw [RR, l15]; exact ⟨rfl, by decide⟩) (by rw [RR]; exact k15) hy32 e25, M21, N', one, rw15, tc15, Or.inl ⟨rfl, k, by omega, ?_, fun W hW => ?_⟩⟩, Or.inl ⟨by decide, rfl, cmp_xe hg p15 hy32 e25⟩⟩⟩
    · rw [e25, mI_UI, if_pos ⟨rfl, rfl⟩]; exact hy
    · rcases rv with ⟨-, q, q1, q2⟩ | ⟨y, -⟩
      · have : q = k := by omega
        subst this
        exact q2 W (fun j hj => by rw [hW j hj, c5])
      · rw [y] at z; exact absurd z (by decide)
  · obtain ⟨f, hac⟩ : ∃ f, Ac (nt M11 (a + 5)) N' f [50] 0 := by
      rcases hv with ⟨y, -⟩ | ⟨-, -, y⟩
      · exact absurd y z
      · exact y
    have wkE : wk M15 a = nt M11 (a + 5) := by
      funext k
      exact (m15.lst n5 (by omega)).2.1 k
    have g10 := w15.g10
    refine (x_MM_items0 (d := d) m15.1 x15 rfl g10.1 (by rw [wkE]; exact hac)).mono (fun M28 t28 => ?_)
    have rcN : ∀ W : Nat → Int, (∀ j, j < N' → W j = nt M15 (a + 5) j) → Rc W [50] 0 [] N' := fun W hW => by
      rcases rv with ⟨y, -⟩ | ⟨-, y⟩
      · exact absurd y z
      · exact y W (fun j hj => by rw [hW j hj, c5])
    have nmF := its_nmo (pl := nt M15 (a + 7)) (sm := smx M15 a) (nqo_wx x15 (Nat.sub_le N' 1)) (show N' - 1 + 1 = N' by first | rfl | omega) f N' 0 s09 (by rw [wkE]; exact hac) nmo_nil
    generalize eF : its9 (wk M15 a) (nt M15 (a + 7)) (nuq M15 a) (smx M15 a) N' 60 N' 0 s09 = sF at t28 nmF
    generalize eGF : igs9 (wk M15 a) (nt M15 (a + 7)) (nuq M15 a) (smx M15 a) N' 60 N' 0 s09 g09 = gF at t28
    have sx28 := t28.2.1.sx w15 g10.1
    obtain ⟨o28, I28, q28⟩ := t28
    have hin28 : ∀ q, itP a (mR M15 a 10) q → q ∈ nums a := fun q hq => hq.1
    have g9 : mR M15 a 9 = mR M a 9 := by rw [RR, r9]
    have gne := g10.2
    rw [g9] at gne
    generalize hgd : mR M15 a 10 = gd at *
    have p28 := p15.mv hg I28.1 hin28 (fun q hq => by
      have hq2 := hq.2
      refine ⟨fun z => ?_, by omega, by omega, by omega, by omega⟩
      have z' : q = mR M a 9 + 1 ∨ q = mR M a 9 + 3 ∨ q = mR M a 9 + 5 ∨ q = mR M a 9 + 7 ∨ q = mR M a 9 + 9 ∨ q = mR M a 9 + 11 ∨ q = mR M a 9 + 30 ∨ q = mR M a 9 + 32 ∨ q = mR M a 9 + 34 := z
      omega) (fun x hx => by
      have hx' : x = a ∨ (gd ≤ x ∧ x ≤ gd + 29) ∨ (a + 97 ≤ x ∧ x ≤ a + 104) := hx
      omega) ⟨I28.2 11 (by decide) (by decide) (by decide), I28.2 29 (by decide) (by decide) (by decide), I28.2 48 (by decide) (by decide) (by decide), I28.2 30 (by decide) (by decide) (by decide), I28.2 40 (by decide) (by decide) (by decide)⟩
    have w28 := p28.2.1
    have R28 := I28.1.rfl_a w15 hin28
    have no : ∀ q, (q = a + 1 ∨ q = a + 3) → ¬ itP a gd q := fun q hq z => by
      have := z.2
      omega
    have t1 : ln M28 (mR M28 a 1) = 0 ∧ (0 : Int) ≤ 16384 := by rw [R28, RR, (I28.1.lst tp.1 (no _ s91)).1, l15]; exact ⟨rfl, by decide⟩
    have t2 : ln M28 (mR M28 a 2) ≤ 16384 := by rw [R28, RR, (I28.1.lst tp.2.1 (no _ s92)).1]; exact k15
    have h9 : mR M28 a 9 = mR M a 9 := by rw [R28, g9]
    have h10 : mR M28 a 10 = gd := by rw [R28, hgd]
    refine ⟨o28, w28.1.1, fun z16 => ?_, fun z16 M49 e49 => ?_⟩
    · rcases q28 with ⟨y, yf⟩ | ⟨y0, -, T, K, R, W, C, Z, E, tg, D, d1, d2, d3, rsF, stF, eγ⟩
      · exact absurd (yf.1.symm.trans z16) y
      · have eγ' : E.2 = txg M15 a N' sF.1 gF := eγ.trans sx28.tx9
        have nm2 : E.2.2.2.2.2.2.1 = sF.1 := by rw [eγ']; rfl
        have ga : GaO E.2 := ⟨by rw [eγ']; exact nqo_wx x15 (Nat.sub_le N' 1), by rw [eγ']; exact nmF, vlo_dg D.2.2.2.2 (by rw [nm2]; exact rsF)⟩
        have ok := x_cmp_ok (G := G) (d := d + 11) (i8 := (1, (W : Int), (R : Int), (C : Int), XpG E.2, ((-1, Nt9.2.2.2.2.2.2.2.1.2.1, 0), [], []))) rfl hx hg p28 h9 h10 t1 t2 (D.good (by omega) (by omega) d3 ga rfl)
        intro M34 e34 M36 e36 M38 e38 M40 e40
        obtain ⟨v1, v2⟩ := ok M34 e34 M36 e36 M38 e38 M40 e40
        refine ⟨v1, v2.mono (fun M43 t => ⟨t.1, t.2.1, fun M47 e47 => ?_⟩)⟩
        obtain ⟨x1, x2, x3, x4, x5, x6⟩ := t.2.2 M47 e47
        refine ⟨(1, (W : Int), (R : Int), (C : Int), XpG E.2, ((-1, Nt9.2.2.2.2.2.2.2.1.2.1, 0), [], [])), ⟨x1, M15, N', one, rw15, tc15, Or.inr ⟨rcN, ⟨f, by rw [wkE]; exact hac⟩, sF, eF.symm, Or.inr ⟨y0, rfl, x2, ?_⟩⟩⟩, Or.inr ⟨rfl, ⟨rfl, rfl⟩, x4, x5, x6⟩⟩
        rw [eGF]
        refine ⟨by rw [stF, eγ'], fun u => ?_⟩
        have tq := D.2.2.2.2.2.2.2.2.2.2.2.2.2.2.1
        rw [eγ'] at tq
        rcases tq with ⟨y, -⟩ | ⟨ij, y, -⟩
        · omega
        · rw [show gF.2.1 = some ij from y] at u
          exact absurd u (by simp)
    · have iv17 : i32 (mI M28 a 17) := (o28 _ _).1
      have o49 : mOk M49 := by rw [e49]; exact mOk_UI o28 iv17
      refine ⟨Nt9.2.2, ⟨cmp_x (o49 _ _).1 hg hx p28 h9 t1 t2 iv17 e49, M15, N', one, rw15, tc15, Or.inr ⟨rcN, ⟨f, by rw [wkE]; exact hac⟩, sF, eF.symm, ?_⟩⟩, Or.inl ⟨?_, rfl, cmp_xe hg p28 iv17 e49⟩⟩
      rotate_left
      · rw [e49, mI_UI, if_neg (fun z => absurd z.2 (by decide))]; exact z16
      rcases q28 with ⟨y, yf⟩ | ⟨y0, y1, -⟩
      · refine Or.inl ⟨y, ?_, ?_⟩
        · rw [e49, mI_UI, if_neg (fun z => absurd z.2 (by decide))]; exact yf.1
        · rw [e49, mI_UI, if_pos ⟨rfl, rfl⟩]; exact yf.2
      · exact absurd y1 z16
end CMX
end
section
/-! The reference: rules are worked out in a state. -/
section REA
variable {G : mG} {d a g T R W C Z : Nat} {M M' M2 : mM} {E : Eg9} {tg : Int} {P S : Nat → Prop}
/-- the greatest common divisor -/
theorem s_MM_divisor2 {A B : Int} (hA : -9223372036854775807 ≤ A ∧ A ≤ 9223372036854775807) (hB : 0 < B ∧ i64 B) (hO : mOk M) : Cj G y_MM_divisor d [vl A, vl B] M (fun x M' => M' = M ∧ 1 ≤ x ∧ x ≤ B ∧ x ∣ A ∧ x ∣ B ∧ ∀ z : Int, z ∣ A → z ∣ B → z ∣ x) := by
  refine k_MM_divisor hO ⟨by omega, by omega⟩ hB.2 (fun v hv => ?_)
  have cz : ∀ z : Int, (0 ≤ cmpL z 0 ↔ 0 ≤ z) ∧ (cmpL z 0 ≤ 0 ↔ z ≤ 0) := fun z => by unfold cmpL; split <;> (try split) <;> omega
  have hv' : 0 ≤ v ∧ i64 v ∧ (∀ x : Int, x ∣ v → x ∣ A) ∧ (∀ x : Int, x ∣ A → x ∣ v) := by
    by_cases q : 0 ≤ A
    · rw [if_pos ((cz A).1.2 q)] at hv
      subst hv
      exact ⟨q, ⟨by omega, by omega⟩, fun x hx => hx, fun x hx => hx⟩
    · rw [if_neg (fun w => q ((cz A).1.1 w))] at hv
      subst hv
      exact ⟨by omega, ⟨by omega, by omega⟩, fun x hx => Int.dvd_neg.1 hx, fun x hx => Int.dvd_neg.2 hx⟩
  suffices H : ∀ (c : Nat) (x y : Int), y ≤ c → 0 ≤ y → 0 ≤ x → 0 < x + y → i64 x → i64 y → (y = 0 → x ≤ B) → y ≤ B → (∀ z : Int, z ∣ x → z ∣ y → z ∣ A ∧ z ∣ B) → (∀ z : Int, z ∣ A → z ∣ B → z ∣ x ∧ z ∣ y) → h_MM_divisor_17 G d x y M (fun x M' => M' = M ∧ 1 ≤ x ∧ x ≤ B ∧ x ∣ A ∧ x ∣ B ∧ ∀ z : Int, z ∣ A → z ∣ B → z ∣ x) from
    H B.toNat v B (by omega) (by omega) hv'.1 (by omega) hv'.2.1 hB.2 (by omega) (by omega) (fun z z1 z2 => ⟨hv'.2.2.1 z z1, z2⟩) (fun z z1 z2 => ⟨hv'.2.2.2 z z1, z2⟩)
  intro c
  induction c with
  | zero =>
    intro x y h1 h2 h3 h4 h5 h6 h7 h8 h9 h10
    have y0 : y = 0 := by omega
    refine k_MM_divisor_17 hO h5 h6 ⟨fun _ => ⟨rfl, by omega, h7 y0, ?_⟩, fun q => absurd ((cz y).2.2 (by omega)) q⟩
    have := h9 x (Int.dvd_refl x) (by rw [y0]; exact Int.dvd_zero x)
    exact ⟨this.1, this.2, fun z z1 z2 => (h10 z z1 z2).1⟩
  | succ c ih =>
    intro x y h1 h2 h3 h4 h5 h6 h7 h8 h9 h10
    refine k_MM_divisor_17 hO h5 h6 ⟨fun q => ?_, fun q => ?_⟩
    · have y0 : y = 0 := by have := (cz y).2.1 q; omega
      have := h9 x (Int.dvd_refl x) (by rw [y0]; exact Int.dvd_zero x)
      exact ⟨rfl, by omega, h7 y0, this.1, this.2, fun z z1 z2 => (h10 z z1 z2).1⟩
    · have yp : 0 < y := by
        by_cases w : y ≤ 0
        · exact absurd ((cz y).2.2 w) q
        · omega
      have e1 : Int.tmod x y = x % y := Int.tmod_eq_emod_of_nonneg h3
      have b1 := Int.emod_nonneg x (show y ≠ 0 by omega)
      have b2 := Int.emod_lt_of_pos x yp
      refine ⟨by omega, ?_⟩
      rw [e1]
      have em := Int.mul_ediv_add_emod x y
      refine ih y (x % y) (by omega) b1 (by omega) (by omega) h6 ⟨by omega, by have := h6.2; omega⟩ (fun _ => h8) (by omega) (fun z z1 z2 => h9 z ?_ z1) (fun z z1 z2 => ⟨(h10 z z1 z2).2, ?_⟩)
      · rw [← em]
        exact Int.dvd_add (Int.dvd_trans z1 (Int.dvd_mul_right y _)) z2
      · obtain ⟨k1, k2⟩ := h10 z z1 z2
        have : x % y = x - y * (x / y) := by omega
        rw [this]
        exact Int.dvd_sub k1 (Int.dvd_trans k2 (Int.dvd_mul_right y _))
/-- the game that is explored -/
def GG (M : mM) (a g T R W C Z : Nat) (E : Eg9) (tg : Int) : Prop := mOk M ∧ Wd M a ∧ (mR M a 9 = g ∧ (g = a + 13 ∨ g = a + 49)) ∧ nd M g T ∧ (T ≤ 16384 ∧ Z ≤ 16384) ∧ (mI M g 6 = R ∧ mI M g 12 = W ∧ mI M g 18 = C ∧ mI M g 17 = tg) ∧ (ln M (g + 30) = Z ∧ ln M (g + 32) = Z ∧ ln M (g + 34) = Z) ∧ Dg M g R W C Z T E tg ∧ 0 ≤ tg
/-- the game is untouched -/
def Gs (M M' : mM) (g : Nat) : Prop := mI M' g = mI M g ∧ (∀ i, 13 ≤ i → i ≤ 29 → mI M' (g + i) = mI M (g + i) ∧ mL M' (g + i) = mL M (g + i)) ∧ ∀ q, gL9 g q → sl M M' q
theorem GG.gs (h : GG M a g T R W C Z E tg) (o : mOk M') (w : Wd M' a) (r : mR M' a 9 = mR M a 9) (k : Gs M M' g) : GG M' a g T R W C Z E tg := by
  obtain ⟨-, -, ⟨h3, hg⟩, h4, h5, h6, h7, h8, h9⟩ := h
  obtain ⟨hI, hc, hl⟩ := k
  have G : Ge M g R W C Z T M' := ⟨⟨fun n _ => ⟨(hl (g + 1) (by first | exact tLk1 g | exact gLk1 g | omega)).2 n, (hl (g + 7) (by first | exact tLk7 g | exact gLk7 g | omega)).2 n, (hl (g + 9) (by first | exact tLk9 g | exact gLk9 g | omega)).2 n, (hl (g + 11) (by first | exact tLk11 g | exact gLk11 g | omega)).2 n, (hl (g + 3) (by first | exact tLk3 g | exact gLk3 g | omega)).2 n⟩, fun r _ => ⟨by rw [(hc 13 (by omega) (by omega)).1], by rw [(hc 14 (by omega) (by omega)).1]⟩, fun v _ => by rw [(hc 18 (by omega) (by omega)).1]⟩, fun r _ => ⟨by rw [(hc 15 (by omega) (by omega)).1], by rw [(hc 16 (by omega) (by omega)).2], by rw [(hc 17 (by omega) (by omega)).2]⟩, fun v _ => ⟨by rw [(hc 19 (by omega) (by omega)).1], by rw [(hc 20 (by omega) (by omega)).1], by rw [(hc 21 (by omega) (by omega)).1]⟩, fun c _ => ⟨by rw [(hc 24 (by omega) (by omega)).1], by rw [(hc 25 (by omega) (by omega)).1], fun b _ => ⟨by rw [(hc 26 (by omega) (by omega)).1], by rw [(hc 28 (by omega) (by omega)).1], by rw [(hc 29 (by omega) (by omega)).1], by rw [(hc 27 (by omega) (by omega)).1], by rw [(hc 22 (by omega) (by omega)).1], by rw [(hc 23 (by omega) (by omega)).1]⟩⟩, fun i _ => ⟨(hl (g + 30) (by first | exact gLk30 g | omega)).2 i, (hl (g + 34) (by first | exact gLk34 g | omega)).2 i, (hl (g + 32) (by first | exact gLk32 g | omega)).2 i⟩⟩
  refine ⟨o, w, ⟨r.trans h3, hg⟩, fun q hq => ?_, h5, by rw [hI]; exact h6, ⟨by rw [(hl (g + 30) (by first | exact gLk30 g | omega)).1]; exact h7.1, by rw [(hl (g + 32) (by first | exact gLk32 g | omega)).1]; exact h7.2.1, by rw [(hl (g + 34) (by first | exact gLk34 g | omega)).1]; exact h7.2.2⟩, h8.ge G, h9⟩
  have hq' : q = g + 1 ∨ q = g + 3 ∨ q = g + 5 ∨ q = g + 7 ∨ q = g + 9 ∨ q = g + 11 := hq
  rw [(hl q (by omega)).1]
  exact h4 q hq
theorem gs_st (w : Wd M a) (hg : g = a + 13 ∨ g = a + 49) (m : Mv P S M a M') (hin : ∀ q, P q → q ∈ nums a) (hP : ∀ q, P q → ¬ gL9 g q) (hS : ∀ x, S x → ¬ (x = g ∨ (g + 13 ≤ x ∧ x ≤ g + 29))) : Gs M M' g := by
  have fre : ∀ i, 13 ≤ i → i ≤ 29 → g + i < a + 21192 ∧ g + i ∉ nums a ∧ (∀ q, q ∈ nums a → g + i ≠ q + 1) := fun i i1 i2 => by
    have : i = 13 ∨ i = 14 ∨ i = 15 ∨ i = 16 ∨ i = 17 ∨ i = 18 ∨ i = 19 ∨ i = 20 ∨ i = 21 ∨ i = 22 ∨ i = 23 ∨ i = 24 ∨ i = 25 ∨ i = 26 ∨ i = 27 ∨ i = 28 ∨ i = 29 := by omega
    rcases this with y | y | y | y | y | y | y | y | y | y | y | y | y | y | y | y | y <;> subst y <;> exact goffx hg (by decide) (by decide)
  exact ⟨m.gI w hg hin (fun z => hS _ z (by omega)), fun i i1 i2 => m.cellL w hin (fre i i1 i2) (fun z => hS _ z (by omega)), fun q hq => (m.lst (gL9_in hg hq) (fun z => hP _ z hq)).sl⟩
/-- the variables stand in their ranges, and the formulas that are met have values -/
def En (M : mM) (a g R W : Nat) : Prop := (∀ r : Nat, r < R → mI M (g + 13) r ≠ 0 → mI M (a + 102) r ≠ 0 → vok (tn M g r) (mL M (a + 103) r) (mL M (a + 104) r)) ∧ ∀ v : Nat, v < W → mI M (g + 19) v ≤ mI M (a + 101) v ∧ mI M (a + 101) v ≤ mI M (g + 20) v
theorem GG.ev (h : GG M a g T R W C Z E tg) (k : En M a g R W) : Ev True M a g R W T := by
  obtain ⟨h1, h2, ⟨h3, hg⟩, h4, h5, h6, h7, h8, h9⟩ := h
  refine ⟨h1, h2, hg, h4, ⟨h8.1.1, h8.1.2.1, h5.1⟩, fun r hr => ⟨h8.2.1 r hr, fun _ => k.1 r hr⟩, fun _ v hv => ?_⟩
  obtain ⟨v1, v2, v3, v4, v5, v6⟩ := h8.2.2.2.1 v hv
  obtain ⟨k1, k2⟩ := k.2 v hv
  have e : tn M g (100 + (v : Int)) = mI M (g + 18) v := by
    unfold tn
    rw [if_pos (show (100 : Int) ≤ 100 + (v : Int) by omega), show (100 + (v : Int) - 100).toNat = v by first | rfl | omega]
    rcases v6 with y | y <;> rw [y] <;> rfl
  rw [e]
  rcases v6 with y | y
  · rw [y, if_pos rfl]
    exact Or.inl ⟨rfl, by omega, by omega, by omega, by omega⟩
  · have := v1 (by omega)
    rw [y, if_neg (by decide)]
    exact Or.inr ⟨rfl, by omega, rfl⟩
/-- a step of working out -/
abbrev xE (a : Nat) : Nat → Prop := fun x => x = a ∨ (a + 97 ≤ x ∧ x ≤ a + 98) ∨ (a + 102 ≤ x ∧ x ≤ a + 104) ∨ (a + 21188 ≤ x ∧ x ≤ a + 21190)
def xe (M : mM) (a : Nat) (M' : mM) : Prop := Mv (fun x => x = a + 99) (xE a) M a M' ∧ ∀ i, i ≠ 16 → i ≠ 17 → i ≠ 23 → mI M' a i = mI M a i
theorem xe.trans (h : xe M a M') (k : xe M' a M2) : xe M a M2 := ⟨h.1.trans k.1, fun i i1 i2 i3 => (k.2 i i1 i2 i3).trans (h.2 i i1 i2 i3)⟩
theorem xe.refl (o : mOk M) (w : Wd M a) : xe M a M := ⟨Mv.refl o w (lt99 w), fun _ _ _ _ => rfl⟩
theorem xe.mk (w : Wd M a) (m : Mv P S M a M') (hP : ∀ q, P q → q = a + 99) (hS : ∀ x, S x → xE a x) (hf : ∀ i, i ≠ 16 → i ≠ 17 → i ≠ 23 → mI M' a i = mI M a i) : xe M a M' := ⟨m.mono hP hS (lt99 w), hf⟩
theorem in99 : ∀ q, q = a + 99 → q ∈ nums a := fun q hq => by rw [hq]; exact n99
theorem xe.gs (h : xe M a M') (w : Wd M a) (hg : g = a + 13 ∨ g = a + 49) : Gs M M' g :=
  gs_st w hg h.1 in99 (fun q hq z => by
    have z' : q = g + 1 ∨ q = g + 3 ∨ q = g + 5 ∨ q = g + 7 ∨ q = g + 9 ∨ q = g + 11 ∨ q = g + 30 ∨ q = g + 32 ∨ q = g + 34 := z
    omega) (fun x hx => by
    have hx' : x = a ∨ (a + 97 ≤ x ∧ x ≤ a + 98) ∨ (a + 102 ≤ x ∧ x ≤ a + 104) ∨ (a + 21188 ≤ x ∧ x ≤ a + 21190) := hx
    omega)
theorem xe.gg (h : xe M a M') (k : GG M a g T R W C Z E tg) : GG M' a g T R W C Z E tg :=
  k.gs h.1.1 h.1.2.1 (by rw [h.1.rfl_a k.2.1 in99]) (h.gs k.2.1 k.2.2.1.2)
theorem gs_tn (h : Gs M M' g) : tn M' g = tn M g := by
  funext v
  unfold tn
  rw [(h.2.1 14 (by omega) (by omega)).1, (h.2.1 18 (by omega) (by omega)).1]
/-- working out itself -/
def xr (M : mM) (a : Nat) (M' : mM) : Prop := Mv (fun x => x = a + 99) (woS a) M a M' ∧ ∀ i, i ≠ 16 → i ≠ 17 → i ≠ 23 → mI M' a i = mI M a i
theorem xr.xe (h : xr M a M') (w : Wd M a) : xe M a M' := xe.mk w h.1 (fun q hq => hq) (fun x hx => by
    have hx' : x = a ∨ x = a + 97 ∨ x = a + 98 ∨ x = a + 102 ∨ x = a + 103 ∨ x = a + 104 := hx
    show x = a ∨ (a + 97 ≤ x ∧ x ≤ a + 98) ∨ (a + 102 ≤ x ∧ x ≤ a + 104) ∨ (a + 21188 ≤ x ∧ x ≤ a + 21190)
    omega) h.2
/-- a rule has been worked out in a state -/
def reQ (M : mM) (a g T R W C Z : Nat) (E : Eg9) (tg t : Int) (M' : mM) : Prop := xr M a M' ∧ GG M' a g T R W C Z E tg ∧ En M' a g R W ∧ (mI M' a 16 ≠ 0 ∨ (mI M' a 16 = 0 ∧ vok t (mL M' (a + 97) 0) (mL M' (a + 98) 0)))
end REA
end
section
/-! The reference: a state is entered. -/
section ENT
variable {G : mG} {d a g T R W C Z : Nat} {M M' : mM} {E : Eg9} {tg : Int} {P S : Nat → Prop}
theorem En.mv (h : En M a g R W) (w : Wd M a) (m : Mv P S M a M') (hin : ∀ q, P q → q ∈ nums a) (gs : Gs M M' g) (hS : ∀ x, S x → ¬ (a + 101 ≤ x ∧ x ≤ a + 104)) : En M' a g R W := by
  have c101 := m.cellL w hin (offx (a := a) (o := 101) (by decide)) (fun z => hS _ z (by omega))
  have c102 := m.cellL w hin (offx (a := a) (o := 102) (by decide)) (fun z => hS _ z (by omega))
  have c103 := m.cellL w hin (offx (a := a) (o := 103) (by decide)) (fun z => hS _ z (by omega))
  have c104 := m.cellL w hin (offx (a := a) (o := 104) (by decide)) (fun z => hS _ z (by omega))
  unfold En
  rw [gs_tn gs, c101.1, c102.1, c103.2, c104.2, (gs.2.1 13 (by omega) (by omega)).1, (gs.2.1 19 (by omega) (by omega)).1, (gs.2.1 20 (by omega) (by omega)).1]
  exact h
end ENT
end
section
/-! The reference: the chances of a command's branches. -/
section CHA
variable {G : mG} {d a g T R W C Z : Nat} {M M' M2 M3 : mM} {E : Eg9} {tg : Int}
/-- working out goes on -/
def xg (M : mM) (a g T R W C Z : Nat) (E : Eg9) (tg : Int) (M2 : mM) : Prop := xe M a M2 ∧ GG M2 a g T R W C Z E tg ∧ En M2 a g R W
theorem xg.tr (h : xg M a g T R W C Z E tg M2) (k : xg M2 a g T R W C Z E tg M3) : xg M a g T R W C Z E tg M3 := ⟨h.1.trans k.1, k.2⟩
/-- a step elsewhere -/
theorem xg.st {P S : Nat → Prop} (h : xg M a g T R W C Z E tg M2) (m : Mv P S M2 a M3) (hP : ∀ q, P q → q = a + 99) (hS : ∀ x, S x → x = a ∨ (a + 97 ≤ x ∧ x ≤ a + 98) ∨ (a + 21188 ≤ x ∧ x ≤ a + 21190)) (hf : ∀ i, i ≠ 16 → i ≠ 17 → i ≠ 23 → mI M3 a i = mI M2 a i) : xg M a g T R W C Z E tg M3 := by
  have w2 := h.2.1.2.1
  have hg := h.2.1.2.2.1.2
  have x : xe M2 a M3 := xe.mk w2 m hP (fun x hx => by
    have := hS x hx
    show x = a ∨ (a + 97 ≤ x ∧ x ≤ a + 98) ∨ (a + 102 ≤ x ∧ x ≤ a + 104) ∨ (a + 21188 ≤ x ∧ x ≤ a + 21190)
    omega) hf
  exact ⟨h.1.trans x, x.gg h.2.1, h.2.2.mv w2 m (fun q hq => in99 q (hP q hq)) (x.gs w2 hg) (fun x hx => by have := hS x hx; omega)⟩
theorem xg.stp {c p : Int} (h : xg M a g T R W C Z E tg M2) (q : Mv (fun _ => False) (fun x => x = a) M2 a M3 ∧ mI M3 a 16 = c ∧ mI M3 a 17 = p ∧ ∀ i, i ≠ 16 → i ≠ 17 → mI M3 a i = mI M2 a i) : xg M a g T R W C Z E tg M3 :=
  h.st q.1 (fun _ z => z.elim) (fun x z => Or.inl z) (fun i i1 i2 _ => q.2.2.2 i i1 i2)
/-- the first b chances are sound -/
def chk1 (M : mM) (a b : Nat) : Prop := ∀ b' : Nat, b' < b → 0 ≤ mL M (a + 21189) b' ∧ mL M (a + 21189) b' ≤ mL M (a + 21190) b' ∧ 1 ≤ mL M (a + 21190) b' ∧ mL M (a + 21190) b' < 1000000000
/-- the chances of a command -/
def chQ (M : mM) (a g T R W C Z : Nat) (E : Eg9) (tg : Int) (nb : Nat) (x : Int) (M' : mM) : Prop := i64 x ∧ xg M a g T R W C Z E tg M' ∧ (mI M' a 16 ≠ 0 ∨ (mI M' a 16 = 0 ∧ chk1 M' a nb ∧ 1 ≤ x ∧ x < 1000000000 ∧ ∀ b' : Nat, b' < nb → mL M' (a + 21190) b' ∣ x))
theorem r4546 {Mx : mM} (w : Wd Mx a) : (mR Mx a 45 = a + 21189 ∧ mR Mx a 46 = a + 21190) ∧ (mK Mx (a + 21189) = 33 ∧ mN Mx (a + 21189) = 8) ∧ (mK Mx (a + 21190) = 33 ∧ mN Mx (a + 21190) = 8) :=
  ⟨⟨w.1.2.2.2.2.2.2.1.2.2.2.2.1, w.1.2.2.2.2.2.2.1.2.2.2.2.2.1⟩, w.1.2.2.2.2.2.2.2.2.2.1.2.2.2.2.1, w.1.2.2.2.2.2.2.2.2.2.1.2.2.2.2.2.1⟩
end CHA
end
section
/-! The reference: chances. -/
section CHB
variable {G : mG} {d a g T R W C Z : Nat} {M : mM} {E : Eg9} {tg : Int}
theorem mv_ulx {M2 M3 : mM} {o j : Nat} {v : Int} (hv : i64 v) (hO : mOk M2) (w : Wd M2 a) (e : M3 = mUL M2 (a + o) j v) : Mv (fun _ => False) (fun y => y = a + o) M2 a M3 ∧ (∀ k, mL M3 (a + o) k = if k = j then v else mL M2 (a + o) k) ∧ (∀ y, y ≠ a + o → mL M3 y = mL M2 y) ∧ mI M3 = mI M2 := by
  obtain ⟨m, f, i⟩ := mv_ul hv hO w e
  refine ⟨m, fun k => ?_, fun y hy => ?_, i⟩
  · rw [f]
    by_cases z : k = j
    · rw [if_pos ⟨rfl, z⟩, if_pos z]
    · rw [if_neg (fun q => z q.2), if_neg z]
  · funext k
    rw [f, if_neg (fun q => hy q.1)]
end CHB
end
section
/-! The reference: a variable's next value; a state is found or made. -/
section SET
variable {G : mG} {d a g T R W C Z n : Nat} {M M' M2 : mM} {E : Eg9} {tg : Int}
/-- the next values stand in their ranges -/
def Nxv (M : mM) (a g W : Nat) : Prop := ∀ v : Nat, v < W → mI M (g + 19) v ≤ mI M (a + 21188) v ∧ mI M (a + 21188) v ≤ mI M (g + 20) v
/-- working out, and next values -/
abbrev sxS (a : Nat) : Nat → Prop := fun x => woS a x ∨ x = a + 21188
/-- a next value has been set -/
def seQ (M : mM) (a g T R W C Z : Nat) (E : Eg9) (tg : Int) (M' : mM) : Prop := Mv (fun x => x = a + 99) (sxS a) M a M' ∧ (∀ i, i ≠ 16 → i ≠ 17 → i ≠ 23 → mI M' a i = mI M a i) ∧ GG M' a g T R W C Z E tg ∧ En M' a g R W ∧ (mI M' a 16 = 0 → Nxv M' a g W)
/-- the states' variables stand in their ranges -/
def Vx (M : mM) (a g n W : Nat) : Prop := ∀ k v : Nat, k < n → v < W → mI M (g + 19) v ≤ mI M (a + 105) (12 * k + v) ∧ mI M (a + 105) (12 * k + v) ≤ mI M (g + 20) v
/-- a state has been found or made -/
def soQ (M : mM) (a g n W : Nat) (x : Int) (M' : mM) : Prop := (x = -1 ∧ M' = M) ∨ ∃ n' : Nat, (n' = n ∨ n' = n + 1) ∧ n' ≤ 512 ∧ 0 ≤ x ∧ x < n' ∧ Mv (fun _ => False) (fun y => y = a ∨ y = a + 105) M a M' ∧ mI M' a 29 = (n' : Int) ∧ (∀ i, i ≠ 29 → mI M' a i = mI M a i) ∧ Vx M' a g n' W
end SET
end
section
/-! The reference: chances of ways are added; what is known of ways and commands. -/
section ADD
variable {G : mG} {d a g T R W C Z n L w Ln : Nat} {M M' M2 : mM} {E : Eg9} {tg : Int} {B : Nat → Nat}
/-- a sum of two chances in lowest terms -/
theorem add_math {A D u v mul q A' D' : Int} (hD : 0 < D) (hv : 0 < v) (hA : 0 < A) (hu : 0 < u) (h1 : D ∣ mul) (h2 : v ∣ mul) (hq : 1 ≤ q) (e1 : A * v + u * D = q * A') (e2 : D * v = q * D') (hg : ∀ z : Int, z ∣ A * v + u * D → z ∣ D * v → z ∣ q) : 0 < A' ∧ 0 < D' ∧ D' ∣ mul ∧ A' * (mul / D') = A * (mul / D) + u * (mul / v) := by
  obtain ⟨p, hp⟩ := h1
  obtain ⟨r, hr⟩ := h2
  have dp : mul / D = p := by rw [hp]; exact Int.mul_ediv_cancel_left p (by omega)
  have dr : mul / v = r := by rw [hr]; exact Int.mul_ediv_cancel_left r (by omega)
  have posm : ∀ {x y : Int}, 0 < x → 0 < x * y → 0 < y := fun {x y} hx hxy => by
    by_cases z : 0 < y
    · exact z
    · have := Int.mul_le_mul_of_nonneg_left (show y ≤ 0 by omega) (show 0 ≤ x by omega)
      omega
  have x0 : 0 < A * v + u * D := by
    have := Int.mul_pos hA hv
    have := Int.mul_pos hu hD
    omega
  have A0 : 0 < A' := posm (x := q) (by omega) (by rw [← e1]; exact x0)
  have D0 : 0 < D' := posm (x := q) (by omega) (by rw [← e2]; exact Int.mul_pos hD hv)
  -- mul * A' = D' * K
  have key : mul * A' = D' * (A * p + u * r) := by
    have k1 : q * (mul * A') = q * (D' * (A * p + u * r)) := by
      have s1 : q * (mul * A') = mul * (A * v + u * D) := by rw [e1]; grind
      have s2 : q * (D' * (A * p + u * r)) = D * v * (A * p + u * r) := by rw [e2]; grind
      have s3 : mul * (A * v + u * D) = (D * p) * (A * v) + (v * r) * (u * D) := by rw [← hp, ← hr]; grind
      rw [s1, s2, s3]
      grind
    exact Int.eq_of_mul_eq_mul_left (show q ≠ 0 by omega) k1
  have cop : Nat.Coprime D'.natAbs A'.natAbs := by
    unfold Nat.Coprime
    have d1 : (Nat.gcd D'.natAbs A'.natAbs : Int) ∣ D' := Int.ofNat_dvd_left.2 (Nat.gcd_dvd_left _ _)
    have d2 : (Nat.gcd D'.natAbs A'.natAbs : Int) ∣ A' := Int.ofNat_dvd_left.2 (Nat.gcd_dvd_right _ _)
    have d3 := hg (q * (Nat.gcd D'.natAbs A'.natAbs : Int)) (by rw [e1]; exact Int.mul_dvd_mul (Int.dvd_refl q) d2) (by rw [e2]; exact Int.mul_dvd_mul (Int.dvd_refl q) d1)
    obtain ⟨t, ht⟩ := d3
    have t1 : (Nat.gcd D'.natAbs A'.natAbs : Int) * t = 1 := by
      have : q * ((Nat.gcd D'.natAbs A'.natAbs : Int) * t) = q * 1 := by rw [Int.mul_one, ← Int.mul_assoc]; exact ht.symm
      exact Int.eq_of_mul_eq_mul_left (show q ≠ 0 by omega) this
    have := Int.eq_one_of_mul_eq_one_right (show (0 : Int) ≤ (Nat.gcd D'.natAbs A'.natAbs : Int) by omega) t1
    omega
  have dm : D' ∣ mul := by
    have : D'.natAbs ∣ A'.natAbs * mul.natAbs := by
      rw [← Int.natAbs_mul, Int.mul_comm, key]
      exact Int.natAbs_dvd_natAbs.2 (Int.dvd_mul_right D' _)
    exact Int.natAbs_dvd_natAbs.1 (cop.dvd_of_dvd_mul_left this)
  refine ⟨A0, D0, dm, ?_⟩
  obtain ⟨m, hm⟩ := dm
  have dd : mul / D' = m := by rw [hm]; exact Int.mul_ediv_cancel_left m (by omega)
  rw [dd, dp, dr]
  rw [hm] at key
  have : D' * (A' * m) = D' * (A * p + u * r) := by rw [← key]; grind
  exact Int.eq_of_mul_eq_mul_left (show D' ≠ 0 by omega) this
/-- the ways that are known -/
def Wy (M : mM) (a n w : Nat) : Prop := ∀ j : Nat, j < w → (0 ≤ mI M (a + 21185) j ∧ mI M (a + 21185) j < n) ∧ (0 < mL M (a + 21186) j ∧ mL M (a + 21186) j < 1000000000) ∧ (0 < mL M (a + 21187) j ∧ mL M (a + 21187) j < 1000000000)
/-- command i is complete: its ways are B i to B (i + 1) - 1 -/
def okc (M : mM) (a : Nat) (B : Nat → Nat) (i : Nat) : Prop := (B i < B (i + 1) ∧ B (i + 1) ≤ B i + 8) ∧ (nt M (a + 111) i = (B i : Int) ∧ nt M (a + 113) i = ((B (i + 1) - B i : Nat) : Int)) ∧ (1 ≤ nt M (a + 115) i ∧ nt M (a + 115) i < 1000000000) ∧ (∀ j : Nat, B i ≤ j → j < B (i + 1) → mL M (a + 21187) j ∣ nt M (a + 115) i) ∧ sm (fun t => mL M (a + 21186) (B i + t) * (nt M (a + 115) i / mL M (a + 21187) (B i + t))) (B (i + 1) - B i) = nt M (a + 115) i
/-- what has been found so far: n states, L complete commands, w ways; the lists hold Ln commands -/
def XD (M : mM) (a g n W L w Ln : Nat) (B : Nat → Nat) : Prop := (mI M a 29 = (n : Int) ∧ 1 ≤ n ∧ n ≤ 512) ∧ (mI M a 40 = (w : Int) ∧ w ≤ 4096) ∧ Vx M a g n W ∧ Wy M a n w ∧ (ln M (a + 109) = Ln ∧ ln M (a + 111) = Ln ∧ ln M (a + 113) = Ln ∧ ln M (a + 115) = Ln) ∧ (B 0 = 0 ∧ B L ≤ w ∧ L ≤ Ln) ∧ ∀ i, i < L → okc M a B i
theorem XD.mono (h : XD M a g n W L w Ln B) : ∀ i j, i ≤ j → j ≤ L → B i + (j - i) ≤ B j := by
  intro i j hij hj
  induction j with
  | zero => have : i = 0 := by omega
            rw [this]; omega
  | succ j ih =>
    by_cases z : i = j + 1
    · rw [z]; omega
    · have := ih (by omega) (by omega)
      have := (h.2.2.2.2.2.2 j (by omega)).1.1
      omega
theorem okc.cg {i : Nat} (h : okc M a B i) (e1 : nt M' (a + 111) i = nt M (a + 111) i) (e2 : nt M' (a + 113) i = nt M (a + 113) i) (e3 : nt M' (a + 115) i = nt M (a + 115) i) (e4 : ∀ j, B i ≤ j → j < B (i + 1) → mL M' (a + 21186) j = mL M (a + 21186) j ∧ mL M' (a + 21187) j = mL M (a + 21187) j) : okc M' a B i := by
  obtain ⟨h1, h2, h3, h4, h5⟩ := h
  unfold okc
  rw [e1, e2, e3]
  refine ⟨h1, h2, h3, fun j j1 j2 => by rw [(e4 j j1 j2).2]; exact h4 j j1 j2, ?_⟩
  refine Eq.trans (sm_congr _ (fun t ht => ?_)) h5
  have := e4 (B i + t) (by omega) (by omega)
  show mL M' (a + 21186) (B i + t) * (nt M (a + 115) i / mL M' (a + 21187) (B i + t)) = mL M (a + 21186) (B i + t) * (nt M (a + 115) i / mL M (a + 21187) (B i + t))
  rw [this.1, this.2]
/-- a step that leaves all this -/
theorem XD.same (h : XD M a g n W L w Ln B) (f29 : mI M' a 29 = mI M a 29) (f40 : mI M' a 40 = mI M a 40) (gs : Gs M M' g) (c105 : mI M' (a + 105) = mI M (a + 105)) (c85 : mI M' (a + 21185) = mI M (a + 21185)) (c86 : mL M' (a + 21186) = mL M (a + 21186)) (c87 : mL M' (a + 21187) = mL M (a + 21187)) (l9 : sl M M' (a + 109)) (l11 : sl M M' (a + 111)) (l13 : sl M M' (a + 113)) (l15 : sl M M' (a + 115)) : XD M' a g n W L w Ln B := by
  obtain ⟨h1, h2, h3, h4, h5, h6, h7⟩ := h
  refine ⟨by rw [f29]; exact h1, by rw [f40]; exact h2, fun k v hk hv => ?_, fun j hj => ?_, by rw [l9.1, l11.1, l13.1, l15.1]; exact h5, h6, fun i hi => (h7 i hi).cg (l11.2 i) (l13.2 i) (l15.2 i) (fun j _ _ => by rw [c86, c87]; exact ⟨rfl, rfl⟩)⟩
  · rw [(gs.2.1 19 (by omega) (by omega)).1, (gs.2.1 20 (by omega) (by omega)).1, c105]
    exact h3 k v hk hv
  · rw [c85, c86, c87]
    exact h4 j hj
theorem k109 : a + 109 ∈ nums a := nums_o (by decide)
theorem k111 : a + 111 ∈ nums a := nums_o (by decide)
theorem k113 : a + 113 ∈ nums a := nums_o (by decide)
theorem k115 : a + 115 ∈ nums a := nums_o (by decide)
theorem XD.mv {P S : Nat → Prop} (h : XD M a g n W L w Ln B) (w0 : Wd M a) (m : Mv P S M a M') (hin : ∀ q, P q → q ∈ nums a) (hP : ∀ q, P q → q ≠ a + 109 ∧ q ≠ a + 111 ∧ q ≠ a + 113 ∧ q ≠ a + 115) (hS : ∀ x, S x → x ≠ a + 105 ∧ x ≠ a + 21185 ∧ x ≠ a + 21186 ∧ x ≠ a + 21187) (gs : Gs M M' g) (f29 : mI M' a 29 = mI M a 29) (f40 : mI M' a 40 = mI M a 40) : XD M' a g n W L w Ln B :=
  h.same f29 f40 gs (m.cellL w0 hin (offx (a := a) (o := 105) (by decide)) (fun z => (hS _ z).1 rfl)).1 (m.cellL w0 hin (offx (a := a) (o := 21185) (by decide)) (fun z => (hS _ z).2.1 rfl)).1 (m.cellL w0 hin (offx (a := a) (o := 21186) (by decide)) (fun z => (hS _ z).2.2.1 rfl)).2 (m.cellL w0 hin (offx (a := a) (o := 21187) (by decide)) (fun z => (hS _ z).2.2.2 rfl)).2 (m.lst k109 (fun z => (hP _ z).1 rfl)).sl (m.lst k111 (fun z => (hP _ z).2.1 rfl)).sl (m.lst k113 (fun z => (hP _ z).2.2.1 rfl)).sl (m.lst k115 (fun z => (hP _ z).2.2.2 rfl)).sl
end ADD
end
section
/-! The reference: a way's chance grows, or a way is new. -/
section AWY
variable {G : mG} {d a g T R W C Z n L w w0 : Nat} {M M' M2 M3 M4 : mM} {E : Eg9} {tg mul Sm : Int} {B : Nat → Nat}
/-- the command that is being explored -/
def Op (M : mM) (a L w0 w : Nat) (mul Sm : Int) : Prop := w0 ≤ w ∧ (nt M (a + 111) L = (w0 : Int) ∧ nt M (a + 113) L = ((w - w0 : Nat) : Int) ∧ nt M (a + 115) L = mul) ∧ (1 ≤ mul ∧ mul < 1000000000) ∧ (∀ j : Nat, w0 ≤ j → j < w → mL M (a + 21187) j ∣ mul) ∧ sm (fun t => mL M (a + 21186) (w0 + t) * (mul / mL M (a + 21187) (w0 + t))) (w - w0) = Sm
theorem sm_upd {f f' : Nat → Int} {t0 : Nat} : ∀ (n : Nat), t0 < n → (∀ t, t < n → t ≠ t0 → f' t = f t) → sm f' n = sm f n - f t0 + f' t0
  | 0, h, _ => absurd h (by omega)
  | n + 1, h, k => by
    show sm f' n + f' n = sm f n + f n - f t0 + f' t0
    by_cases z : t0 = n
    · have : sm f' n = sm f n := sm_congr n (fun t ht => k t (by omega) (by omega))
      rw [this, z]
      omega
    · have := sm_upd n (by omega) (fun t ht hne => k t (by omega) hne)
      rw [this, k n (by omega) (fun y => z y.symm)]
      omega
theorem sm_le1 {f : Nat → Int} {t0 : Nat} : ∀ (n : Nat), t0 < n → (∀ t, t < n → 0 ≤ f t) → f t0 ≤ sm f n
  | 0, h, _ => absurd h (by omega)
  | n + 1, h, k => by
    show f t0 ≤ sm f n + f n
    have kn := k n (by omega)
    by_cases z : t0 = n
    · have : 0 ≤ sm f n := by
        clear h z
        induction n with
        | zero => exact Int.le_refl 0
        | succ n ih =>
          show 0 ≤ sm f n + f n
          have := ih (fun t ht => k t (by omega)) (k n (by omega))
          have := k n (by omega)
          omega
      rw [z]; omega
    · have := sm_le1 (f := f) (t0 := t0) n (by omega) (fun t ht => k t (by omega))
      omega
end AWY
end
section
/-! The reference: a way to a state. -/
section WAY
variable {G : mG} {d a g T R W C Z n L w w0 : Nat} {M M' M2 M3 : mM} {E : Eg9} {tg mul Sm : Int} {B : Nat → Nat} {P S : Nat → Prop}
abbrev wyP (a : Nat) : Nat → Prop := fun q => q = a + 99 ∨ q = a + 113
abbrev wyS (a : Nat) : Nat → Prop := fun x => woS a x ∨ x = a + 105 ∨ (a + 21185 ≤ x ∧ x ≤ a + 21188)
def wyF (M : mM) (a : Nat) (M' : mM) : Prop := Mv (wyP a) (wyS a) M a M' ∧ ∀ i, i ≠ 16 → i ≠ 17 → i ≠ 23 → i ≠ 29 → i ≠ 40 → mI M' a i = mI M a i
theorem wyP_in {q : Nat} (h : wyP a q) : q ∈ nums a := by
  rcases h with h | h
  · rw [h]; exact n99
  · rw [h]; exact k113
theorem wyS_un {x : Nat} (h : wyS a x) : x = a ∨ (a + 97 ≤ x ∧ x ≤ a + 98) ∨ (a + 102 ≤ x ∧ x ≤ a + 105) ∨ (a + 21185 ≤ x ∧ x ≤ a + 21188) := by
  have h' : (x = a ∨ x = a + 97 ∨ x = a + 98 ∨ x = a + 102 ∨ x = a + 103 ∨ x = a + 104) ∨ x = a + 105 ∨ (a + 21185 ≤ x ∧ x ≤ a + 21188) := h
  omega
theorem wyF.trans (h : wyF M a M2) (k : wyF M2 a M3) : wyF M a M3 := ⟨h.1.trans k.1, fun i i1 i2 i3 i4 i5 => (k.2 i i1 i2 i3 i4 i5).trans (h.2 i i1 i2 i3 i4 i5)⟩
theorem wyF.mk (w : Wd M a) (m : Mv P S M a M') (hP : ∀ q, P q → wyP a q) (hS : ∀ x, S x → wyS a x) (hf : ∀ i, i ≠ 16 → i ≠ 17 → i ≠ 23 → i ≠ 29 → i ≠ 40 → mI M' a i = mI M a i) : wyF M a M' := ⟨m.mono hP hS (fun q hq => w.lt (wyP_in hq)), hf⟩
/-- a way has been found -/
def wyQ (M : mM) (a g T R W C Z : Nat) (E : Eg9) (tg : Int) (n L w w0 : Nat) (mul Sm : Int) (B : Nat → Nat) (M' : mM) : Prop := wyF M a M' ∧ GG M' a g T R W C Z E tg ∧ En M' a g R W ∧ (mI M' a 16 ≠ 0 ∨ (mI M' a 16 = 0 ∧ ∃ n' w' : Nat, n ≤ n' ∧ (w' = w ∨ w' = w + 1) ∧ XD M' a g n' W L w' (L + 1) B ∧ Op M' a L w0 w' mul Sm))
theorem Op.same (h : Op M a L w0 w mul Sm) (c86 : mL M' (a + 21186) = mL M (a + 21186)) (c87 : mL M' (a + 21187) = mL M (a + 21187)) (l11 : sl M M' (a + 111)) (l13 : sl M M' (a + 113)) (l15 : sl M M' (a + 115)) : Op M' a L w0 w mul Sm := by
  unfold Op
  rw [c86, c87, l11.2, l13.2, l15.2]
  exact h
theorem Op.mv (h : Op M a L w0 w mul Sm) (w' : Wd M a) (m : Mv P S M a M') (hin : ∀ q, P q → q ∈ nums a) (hP : ∀ q, P q → q ≠ a + 111 ∧ q ≠ a + 113 ∧ q ≠ a + 115) (hS : ∀ x, S x → x ≠ a + 21186 ∧ x ≠ a + 21187) : Op M' a L w0 w mul Sm :=
  h.same (m.cellL w' hin (offx (a := a) (o := 21186) (by decide)) (fun z => (hS _ z).1 rfl)).2 (m.cellL w' hin (offx (a := a) (o := 21187) (by decide)) (fun z => (hS _ z).2 rfl)).2 (m.lst k111 (fun z => (hP _ z).1 rfl)).sl (m.lst k113 (fun z => (hP _ z).2.1 rfl)).sl (m.lst k115 (fun z => (hP _ z).2.2 rfl)).sl
end WAY
end
section
/-! The reference: way. -/
section WAY2
variable {G : mG} {d a g T R W C Z n L w w0 : Nat} {M M2 : mM} {E : Eg9} {tg mul Sm A D : Int} {B : Nat → Nat}
/-- inside way -/
def wI (M : mM) (a g T R W C Z : Nat) (E : Eg9) (tg : Int) (n L w w0 : Nat) (mul Sm A D : Int) (B : Nat → Nat) (b : Nat) (M2 : mM) : Prop := wyF M a M2 ∧ GG M2 a g T R W C Z E tg ∧ En M2 a g R W ∧ XD M2 a g n W L w (L + 1) B ∧ Op M2 a L w0 w mul Sm ∧ mL M2 (a + 21189) b = A ∧ mL M2 (a + 21190) b = D
/-- a step that leaves ways and states -/
theorem wI.st {b : Nat} {M3 : mM} {P S : Nat → Prop} (h : wI M a g T R W C Z E tg n L w w0 mul Sm A D B b M2) (m : Mv P S M2 a M3) (hP : ∀ q, P q → q = a + 99) (hS : ∀ x, S x → woS a x ∨ x = a + 21188) (hf : ∀ i, i ≠ 16 → i ≠ 17 → i ≠ 23 → mI M3 a i = mI M2 a i) (en : En M3 a g R W) : wI M a g T R W C Z E tg n L w w0 mul Sm A D B b M3 := by
  obtain ⟨h1, h2, h3, h4, h5, h6, h7⟩ := h
  have w2 := h2.2.1
  have hg := h2.2.2.1.2
  have hin : ∀ q, P q → q ∈ nums a := fun q hq => in99 q (hP q hq)
  have un : ∀ x, S x → x = a ∨ (a + 97 ≤ x ∧ x ≤ a + 98) ∨ (a + 102 ≤ x ∧ x ≤ a + 104) ∨ x = a + 21188 := fun x hx => by
    have h' : (x = a ∨ x = a + 97 ∨ x = a + 98 ∨ x = a + 102 ∨ x = a + 103 ∨ x = a + 104) ∨ x = a + 21188 := hS x hx
    omega
  have gs := gs_st w2 hg m hin (fun q hq z => by
    have z' : q = g + 1 ∨ q = g + 3 ∨ q = g + 5 ∨ q = g + 7 ∨ q = g + 9 ∨ q = g + 11 ∨ q = g + 30 ∨ q = g + 32 ∨ q = g + 34 := z
    have := hP q hq
    omega) (fun x hx => by have := un x hx; omega)
  refine ⟨h1.trans (wyF.mk w2 m (fun q hq => Or.inl (hP q hq)) (fun x hx => (hS x hx).imp (fun z => z) (fun z => Or.inr (by omega))) (fun i i1 i2 i3 _ _ => hf i i1 i2 i3)), h2.gs m.1 m.2.1 (by rw [m.rfl_a w2 hin]) gs, en, h4.mv w2 m hin (fun q hq => by have := hP q hq; omega) (fun x hx => by have := un x hx; omega) gs (hf 29 (by decide) (by decide) (by decide)) (hf 40 (by decide) (by decide) (by decide)), h5.mv w2 m hin (fun q hq => by have := hP q hq; omega) (fun x hx => by have := un x hx; omega), ?_, ?_⟩
  · rw [(m.cellL w2 hin (offx (a := a) (o := 21189) (by decide)) (fun z => by have := un _ z; omega)).2]; exact h6
  · rw [(m.cellL w2 hin (offx (a := a) (o := 21190) (by decide)) (fun z => by have := un _ z; omega)).2]; exact h7
theorem wI.x {b : Nat} {S' : Int} (h : wI M a g T R W C Z E tg n L w w0 mul Sm A D B b M2) (z : mI M2 a 16 ≠ 0) : wyQ M a g T R W C Z E tg n L w w0 mul S' B M2 := ⟨h.1, h.2.1, h.2.2.1, Or.inl z⟩
theorem wI.stp {b : Nat} {S' c p : Int} {M3 : mM} (h : wI M a g T R W C Z E tg n L w w0 mul Sm A D B b M2) (hc : c ≠ 0) (q : Mv (fun _ => False) (fun x => x = a) M2 a M3 ∧ mI M3 a 16 = c ∧ mI M3 a 17 = p ∧ ∀ i, i ≠ 16 → i ≠ 17 → mI M3 a i = mI M2 a i) : wyQ M a g T R W C Z E tg n L w w0 mul S' B M3 := by
  have w2 := h.2.1.2.1
  have hg := h.2.1.2.2.1.2
  have no : ∀ q : Nat, False → q ∈ nums a := fun _ z => z.elim
  have gs := gs_st w2 hg q.1 no (fun _ z => z.elim) (fun x z => by omega)
  have en := h.2.2.1.mv w2 q.1 no gs (fun x z => by omega)
  exact (h.st q.1 (fun _ z => z.elim) (fun x z => Or.inl (Or.inl z)) (fun i i1 i2 _ => q.2.2.2 i i1 i2) en).x (by rw [q.2.1]; exact hc)
end WAY2
end
section
/-! The reference: way, from its beginning. -/
section WAY3
variable {G : mG} {d a g T R W C Z n L w w0 : Nat} {M M2 : mM} {E : Eg9} {tg mul Sm A D : Int} {B : Nat → Nat}
theorem wyF.gs (h : wyF M a M2) (wd : Wd M a) (hg : g = a + 13 ∨ g = a + 49) : Gs M M2 g :=
  gs_st wd hg h.1 (fun q hq => wyP_in hq) (fun q hq z => by
    have z' : q = g + 1 ∨ q = g + 3 ∨ q = g + 5 ∨ q = g + 7 ∨ q = g + 9 ∨ q = g + 11 ∨ q = g + 30 ∨ q = g + 32 ∨ q = g + 34 := z
    have hq' : q = a + 99 ∨ q = a + 113 := hq
    omega) (fun x hx => by have := wyS_un hx; omega)
theorem wyQ.up {n' : Nat} {M' : mM} (h : wyQ M a g T R W C Z E tg n' L w w0 mul Sm B M') (hn : n ≤ n') : wyQ M a g T R W C Z E tg n L w w0 mul Sm B M' := by
  obtain ⟨h1, h2, h3, h4⟩ := h
  refine ⟨h1, h2, h3, h4.imp (fun z => z) (fun z => ?_)⟩
  obtain ⟨z1, n'', w'', z2, z3⟩ := z
  exact ⟨z1, n'', w'', by omega, z3⟩
/-- a state has been found or made -/
theorem wI.so {b n' : Nat} {x : Int} {M3 : mM} (h : wI M a g T R W C Z E tg n L w w0 mul Sm A D B b M2) (h1 : n' = n ∨ n' = n + 1) (h2 : n' ≤ 512) (m : Mv (fun _ => False) (fun y => y = a ∨ y = a + 105) M2 a M3) (h3 : mI M3 a 29 = (n' : Int)) (h4 : ∀ i, i ≠ 29 → mI M3 a i = mI M2 a i) (h5 : Vx M3 a g n' W) : wI M a g T R W C Z E tg n' L w w0 mul Sm A D B b M3 := by
  obtain ⟨x1, gg, en, xd, op, cA, cD⟩ := h
  have w2 := gg.2.1
  have hg := gg.2.2.1.2
  have no : ∀ q : Nat, False → q ∈ nums a := fun _ z => z.elim
  have gs := gs_st w2 hg m no (fun _ z => z.elim) (fun x z => by omega)
  obtain ⟨d1, d2, d3, d4, d5, d6, d7⟩ := xd
  have s : ∀ {q}, q ∈ nums a → sl M2 M3 q := fun hq => (m.lst hq (fun z => z)).sl
  have c : ∀ o, frO o → o ≠ 0 → o ≠ 105 → mI M3 (a + o) = mI M2 (a + o) ∧ mL M3 (a + o) = mL M2 (a + o) := fun o fo o0 o1 => m.cellL w2 no (offx fo) (by omega)
  have c85 := c 21185 (by decide) (by decide) (by decide)
  have c86 := c 21186 (by decide) (by decide) (by decide)
  have c87 := c 21187 (by decide) (by decide) (by decide)
  have c89 := c 21189 (by decide) (by decide) (by decide)
  have c90 := c 21190 (by decide) (by decide) (by decide)
  refine ⟨x1.trans (wyF.mk w2 m (fun _ z => z.elim) (fun x z => ?_) (fun i _ _ _ i4 _ => h4 i i4)), gg.gs m.1 m.2.1 (by rw [m.rfl_a w2 no]) gs, en.mv w2 m no gs (fun x z => by omega), ⟨⟨h3, by omega, h2⟩, by rw [h4 40 (by decide)]; exact d2, h5, fun j hj => ?_, by rw [(s k109).1, (s k111).1, (s k113).1, (s k115).1]; exact d5, d6, fun i hi => (d7 i hi).cg ((s k111).2 i) ((s k113).2 i) ((s k115).2 i) (fun j _ _ => by rw [c86.2, c87.2]; exact ⟨rfl, rfl⟩)⟩, op.mv w2 m no (fun _ z => z.elim) (fun x z => by omega), by rw [c89.2]; exact cA, by rw [c90.2]; exact cD⟩
  · rcases z with z | z
    · exact Or.inl (Or.inl z)
    · exact Or.inr (Or.inl z)
  · rw [c85.1, c86.2, c87.2]
    have := d4 j hj
    exact ⟨by omega, this.2⟩
end WAY3
end
section
/-! The reference: way; the open command. -/
section WAY4
variable {G : mG} {d a g T R W C Z n L w w0 : Nat} {M M2 M3 M' : mM} {E : Eg9} {tg mul Sm A D : Int} {B : Nat → Nat} {P S : Nat → Prop}
/-- what exploring may change -/
abbrev xP (a : Nat) : Nat → Prop := fun q => q = a + 99 ∨ q = a + 109 ∨ q = a + 111 ∨ q = a + 113 ∨ q = a + 115
abbrev xS (a : Nat) : Nat → Prop := fun x => x = a ∨ (a + 97 ≤ x ∧ x ≤ a + 108) ∨ (a + 21185 ≤ x ∧ x ≤ a + 21190)
def xF (M : mM) (a : Nat) (M' : mM) : Prop := Mv (xP a) (xS a) M a M' ∧ ∀ i, i ≠ 16 → i ≠ 17 → i ≠ 23 → i ≠ 29 → i ≠ 40 → mI M' a i = mI M a i
theorem xP_in {q : Nat} (h : xP a q) : q ∈ nums a := by
  rcases h with h | h | h | h | h <;> rw [h]
  · exact n99
  · exact k109
  · exact k111
  · exact k113
  · exact k115
theorem xF.refl (o : mOk M) (w : Wd M a) : xF M a M := ⟨Mv.refl o w (fun q hq => w.lt (xP_in hq)), fun _ _ _ _ _ _ => rfl⟩
theorem xF.trans (h : xF M a M2) (k : xF M2 a M3) : xF M a M3 := ⟨h.1.trans k.1, fun i i1 i2 i3 i4 i5 => (k.2 i i1 i2 i3 i4 i5).trans (h.2 i i1 i2 i3 i4 i5)⟩
theorem xF.mk (w : Wd M a) (m : Mv P S M a M') (hP : ∀ q, P q → xP a q) (hS : ∀ x, S x → xS a x) (hf : ∀ i, i ≠ 16 → i ≠ 17 → i ≠ 23 → i ≠ 29 → i ≠ 40 → mI M' a i = mI M a i) : xF M a M' := ⟨m.mono hP hS (fun q hq => w.lt (xP_in hq)), hf⟩
theorem xe.xf (h : xe M a M') (w : Wd M a) : xF M a M' := xF.mk w h.1 (fun q hq => Or.inl hq) (fun x hx => by
  have hx' : x = a ∨ (a + 97 ≤ x ∧ x ≤ a + 98) ∨ (a + 102 ≤ x ∧ x ≤ a + 104) ∨ (a + 21188 ≤ x ∧ x ≤ a + 21190) := hx
  show x = a ∨ (a + 97 ≤ x ∧ x ≤ a + 108) ∨ (a + 21185 ≤ x ∧ x ≤ a + 21190)
  omega) (fun i i1 i2 i3 _ _ => h.2 i i1 i2 i3)
theorem wyF.xf (h : wyF M a M') (w : Wd M a) : xF M a M' := xF.mk w h.1 (fun q hq => by
  have hq' : q = a + 99 ∨ q = a + 113 := hq
  show q = a + 99 ∨ q = a + 109 ∨ q = a + 111 ∨ q = a + 113 ∨ q = a + 115
  omega) (fun x hx => by
  have := wyS_un hx
  show x = a ∨ (a + 97 ≤ x ∧ x ≤ a + 108) ∨ (a + 21185 ≤ x ∧ x ≤ a + 21190)
  omega) h.2
theorem xF.gs (h : xF M a M') (wd : Wd M a) (hg : g = a + 13 ∨ g = a + 49) : Gs M M' g :=
  gs_st wd hg h.1 (fun q hq => xP_in hq) (fun q hq z => by
    have z' : q = g + 1 ∨ q = g + 3 ∨ q = g + 5 ∨ q = g + 7 ∨ q = g + 9 ∨ q = g + 11 ∨ q = g + 30 ∨ q = g + 32 ∨ q = g + 34 := z
    have hq' : q = a + 99 ∨ q = a + 109 ∨ q = a + 111 ∨ q = a + 113 ∨ q = a + 115 := hq
    omega) (fun x hx => by
    have hx' : x = a ∨ (a + 97 ≤ x ∧ x ≤ a + 108) ∨ (a + 21185 ≤ x ∧ x ≤ a + 21190) := hx
    omega)
theorem wyF.tab (h : wyF M a M') (w : Wd M a) : mI M' (a + 106) = mI M (a + 106) ∧ mI M' (a + 107) = mI M (a + 107) ∧ mI M' (a + 108) = mI M (a + 108) ∧ mL M' (a + 21189) = mL M (a + 21189) ∧ mL M' (a + 21190) = mL M (a + 21190) := by
  have hin : ∀ q, wyP a q → q ∈ nums a := fun q hq => wyP_in hq
  have ns : ∀ o, o = 106 ∨ o = 107 ∨ o = 108 ∨ o = 21189 ∨ o = 21190 → ¬ wyS a (a + o) := fun o ho z => by have := wyS_un z; omega
  exact ⟨(h.1.cellL w hin (offx (a := a) (o := 106) (by decide)) (ns _ (by omega))).1, (h.1.cellL w hin (offx (a := a) (o := 107) (by decide)) (ns _ (by omega))).1, (h.1.cellL w hin (offx (a := a) (o := 108) (by decide)) (ns _ (by omega))).1, (h.1.cellL w hin (offx (a := a) (o := 21189) (by decide)) (ns _ (by omega))).2, (h.1.cellL w hin (offx (a := a) (o := 21190) (by decide)) (ns _ (by omega))).2⟩
theorem xe.tab (h : xe M a M') (w : Wd M a) : mI M' (a + 106) = mI M (a + 106) ∧ mI M' (a + 107) = mI M (a + 107) ∧ mI M' (a + 108) = mI M (a + 108) := by
  have ns : ∀ o, o = 106 ∨ o = 107 ∨ o = 108 → ¬ xE a (a + o) := fun o ho z => by
    have z' : a + o = a ∨ (a + 97 ≤ a + o ∧ a + o ≤ a + 98) ∨ (a + 102 ≤ a + o ∧ a + o ≤ a + 104) ∨ (a + 21188 ≤ a + o ∧ a + o ≤ a + 21190) := z
    omega
  exact ⟨(h.1.cellL w in99 (offx (a := a) (o := 106) (by decide)) (ns _ (by omega))).1, (h.1.cellL w in99 (offx (a := a) (o := 107) (by decide)) (ns _ (by omega))).1, (h.1.cellL w in99 (offx (a := a) (o := 108) (by decide)) (ns _ (by omega))).1⟩
end WAY4
end
