section
/-! The reference's sets, exactly. -/
/-- the fault of one set -/
noncomputable def stf (w pl : Nat → Int) (sm : Nat → Nat → Prop) (nms : List nm9) (p c : Nat) (seen : List Nat) : Int × Int := match fnd9 sm nms (p + 1) with
  | none => (2, pl (p + 1))
  | some e => if e.2.1 ≠ 3 then (2, pl (p + 1)) else if e.1 ∈ seen then (4, pl (p + 1)) else rf9 w pl sm nms 0 e.2.2.1 (p + 4) c
section SVX
variable {sm : Nat → Nat → Prop} {k j : Nat} {nms : List nm9} {e : nm9}
theorem twt8 {P9 : nm9 → Bool} : ∀ (l : List nm9) (j : Nat) (e : nm9), l[j]? = some e → P9 e = false → (∀ (j' : Nat) (e' : nm9), j' < j → l[j']? = some e' → P9 e' = true) → l.takeWhile P9 = l.take j
  | [], j, e, h, _, _ => absurd h (by simp)
  | a :: l, 0, e, h, h1, _ => by
    have : a = e := Option.some.inj h
    subst this
    rw [List.takeWhile_cons, h1]
    rfl
  | a :: l, j + 1, e, h, h1, h2 => by
    have ha := h2 0 a (by omega) rfl
    rw [List.takeWhile_cons, ha, List.take_succ_cons]
    show a :: l.takeWhile P9 = _
    rw [twt8 l j e h h1 (fun j' e' hj z => h2 (j' + 1) e' (by omega) z)]
theorem vix_a8 (h : nms[j]? = some e) (h1 : sm e.1 k) (h2 : ∀ (j' : Nat) (e' : nm9), j' < j → nms[j']? = some e' → ¬ sm e'.1 k) : vix9 sm nms k = vcn (nms.take j) := by
  unfold vix9
  rw [twt8 nms j e h (by simpa using h1) (fun j' e' hj z => by simpa using h2 j' e' hj z)]
end SVX
section STX
variable {G : mG} {d a g R W C T Z T2 T3 Z2 N K : Nat} {M M2 M3 : mM} {E : Eg9} {tg : Int} {nms : List nm9}
/-- which var a name is -/
theorem RSq.vix {k n : Nat} {e : nm9} (rs : RSq M2 a g K nms) (hf : fdn M2 a K k = (n : Int)) (hn : n < K) (he : nms[n]? = some e) (h3 : e.2.1 = 3) : nt M2 (a + 89) n = ((vix9 (smx M2 a) nms k : Nat) : Int) := by
  obtain ⟨e0, z1, z2, z3, z4, z5, z6, z7⟩ := rs.2.1 n hn
  have ee : e0 = e := Option.some.inj (z1.symm.trans he)
  subst ee
  rcases fdn_x (M := M2) (a := a) (K := K) k with ⟨f1, -⟩ | ⟨q, f1, f2, f3, f4⟩
  · rw [hf] at f1; omega
  · have eq : q = n := by rw [hf] at f1; omega
    subst eq
    have h1 : smx M2 a e0.1 k := by
      rw [z2, Int.toNat_natCast] at f3
      exact f3
    rw [z7, if_pos h3, vix_a8 he h1 (fun j' e' hj hj' => ?_)]
    intro y
    obtain ⟨e1, y1, y2, -⟩ := rs.2.1 j' (by omega)
    have e1e : e1 = e' := Option.some.inj (y1.symm.trans hj')
    subst e1e
    have := rs.2.2.1 j' q hj hn
    rw [y2, z2, Int.toNat_natCast, Int.toNat_natCast] at this
    exact this (y.trans h1.symm)
/-- the root of a rule and its words -/
theorem rl_rtw {i j : Nat} {t : Int} {gm : gm9} (hL : Lc M2 a g N T2 K) (g6 : mI M2 g 6 = R) (g12 : mI M2 g 12 = W) (hD : Dg M2 g R W C Z T2 E tg) (h : rlR 0 M2 a g N T2 K T3 t M3) (z : mI M3 a 16 = 0) (hp : ∀ n, n < T2 → pm M3 g n = pm M2 g n) (eγ : E.2 = txg M2 a N nms gm) (rs : RSq M2 a g K nms) (eo : Eo (wk M2 a) 6 i j) (hj : j < N) (hfl : (fl (wk M2 a) (E9 (smx M2 a) nms 0) (nt M2 (a + 7)) 0 i j).1 = 0) (tm : Tmr M2 M3 a g (rvn M2 a K) i j T2 T3) : Rtw E.2 M3 g R W T3 E.1 T2 t i j := by
  have hR := hD.1.1
  have G3 := (rlR.ge (R := R) (W := W) (C := 0) (Z := 0) hL h).2.1 z hp
  rcases h.2.2.2.2.2 with y | ⟨-, ⟨f, ty⟩, -⟩
  · exact absurd z y
  · rw [eγ]
    refine ⟨nms, [], T2, R, f, T3, nrq M2 a (rvn M2 a K), (List.append_nil _).symm, ⟨rfl, Nat.le_refl _, fun r hr q => ?_, ty.mono (fun v hv => ?_), Nat.le_refl _⟩, ⟨eo, hj, hfl⟩, rs.nvo, tm⟩
    · rw [(G3.1.2.1 r hr).1] at q
      obtain ⟨n, f', -, q2, -⟩ := hD.2.2.1 r hr q
      exact q2
    · unfold nmr at hv
      rw [g6, g12] at hv
      rcases hv with ⟨h1, h2, h3, h4⟩ | ⟨-, h1, h2, h3⟩
      · have gt := G3.1.tr (r := v.toNat) hR (by omega)
        rw [show ((v.toNat : Nat) : Int) = v by omega] at gt
        exact ⟨Or.inl ⟨h1, h2, Or.inl trivial⟩, gt⟩
      · exact ⟨Or.inr ⟨trivial, h1, h2⟩, G3.1.tv h1 h2⟩
/-- a rule inside a command -/
theorem x_crule {gm : gm9} {i j : Nat} {tr : Int} (eγ : E.2 = txg M a N nms gm) (c2 : cI M a g N K R W C E tg T2 Z2 M2) (rs : RSq M2 a g K nms) (z2 : mI M2 a 16 = 0) (w0 : Wd M a) (htr : tr = 0 ∨ tr = 1) (hT : T2 + (j - i) ≤ 30000) (eo : Eo (wk M a) 6 i j) (hj : j < N) : Ci G y_MM_rule1 (d + 7) [vr a, vi i, vi j, vi tr, vi 0] M2 (fun x M3 => x = T2 ∧ ∃ T3, T2 < T3 ∧ T3 ≤ T2 + (j - i) ∧ rlR 0 M2 a g N T2 K T3 tr M3 ∧ (mI M3 a 16 = 0 → ∀ n, n < T2 → pm M3 g n = pm M2 g n) ∧ (((rf9 (wk M a) (nt M (a + 7)) (smx M a) nms 0 tr i j).1 ≠ 0 ∧ fpw M3 a (rf9 (wk M a) (nt M (a + 7)) (smx M a) nms 0 tr i j)) ∨ ((rf9 (wk M a) (nt M (a + 7)) (smx M a) nms 0 tr i j).1 = 0 ∧ mI M3 a 16 = 0 ∧ RSq M3 a g K nms ∧ Rtw E.2 M3 g R W T3 E.1 (T2 : Int) tr i j))) := by
  obtain ⟨L2, I2, ⟨g2, g6, g12⟩, z30, D2⟩ := c2
  have hg := L2.2.2.2.2.2.1
  have sx2 := I2.sx w0 hg
  refine (x_MM_rule1 (d := d) (co := 0) (tr := tr) (ur_n (M := M2) (a := a) (g := g) (N := N) (K := K) (co := 0)) ⟨by decide, by decide⟩ htr L2 hT (by rw [sx2.1]; exact eo) hj).mono (fun x M3 q3 => ?_)
  obtain ⟨ex, T3, t1, t2, Rl, qx⟩ := q3
  have ef : rfq M2 a (Ern M2 a g K 0) tr i j = rf9 (wk M a) (nt M (a + 7)) (smx M a) nms 0 tr i j := by
    unfold rfq rf9
    rw [sx2.1, sx2.2.1, rs.en (Or.inl rfl), sx2.sm]
  rw [ef] at qx
  refine ⟨ex, T3, t1, t2, Rl, fun z => ?_, ?_⟩
  · rcases qx with q | ⟨q, -⟩ | ⟨-, -, -, q4⟩
    · exact absurd z2 q
    · exact absurd z q
    · exact q4
  rcases qx with q | ⟨q, qf⟩ | ⟨q, q1, q2, q4⟩
  · exact absurd z2 q
  · exact Or.inl ⟨by rw [← qf.1]; exact q, qf⟩
  · obtain ⟨I3, G3, -⟩ := rlR.ge (R := R) (W := W) (C := C) (Z := Z2) L2 Rl
    refine Or.inr ⟨q1, q, rs.ge L2.2.2.1 g6 g12 (D2 z2).1.1 (G3 q q4) (I3.sx L2.2.1.1.1 hg) ((lst3.rl hg Rl).q K), ?_⟩
    refine rl_rtw (gm := gm) L2 g6 g12 (D2 z2) Rl q q4 (by rw [eγ, sx2.tx9]) rs (by rw [sx2.1]; exact eo) hj ?_ q2
    rw [sx2.1, sx2.2.1, sx2.sm]
    unfold rf9 at q1
    exact (fst9_z q1).1
/-- a list of sets grows: the names stay -/
theorem RSq.add {p : Nat} {v : Int} (rs : RSq M2 a g K nms) (h : Lc M2 a g N T2 K) (g6 : mI M2 g 6 = R) (g12 : mI M2 g 12 = W) (hR : R ≤ 60) (hp : p = g + 30 ∨ p = g + 32 ∨ p = g + 34) (hZ : ((0 : Nat) : Int) ≤ ln M2 p) (t : adQ M2 p v M3) : RSq M3 a g K nms ∧ lst3 M2 a M3 := by
  have hg := h.2.2.2.2.2.1
  have w2 := h.2.1.1.1
  obtain ⟨L3, m, gI, aI, G3⟩ := gadd (R := R) (W := W) (C := 0) (Z := 0) h hp hZ t
  have l3 : lst3 M2 a M3 := lst3.of m (fun i hi z => by omega)
  have I3 : iF M2 a g M3 := iF.mk w2 m (fun q hq => by
    refine ⟨?_, by omega⟩
    rw [hq]
    rcases hp with z | z | z <;> rw [z]
    · exact n30 hg
    · exact n32 hg
    · exact n34 hg) (fun _ z => z.elim) (fun i _ _ _ => by rw [aI])
  exact ⟨rs.ge h.2.2.1 g6 g12 hR G3 (I3.sx w2 hg) (l3.q K), l3⟩
/-- a set in memory, in pure words; a set has been read, exactly -/
def RSs (γ : gW9) (M : mM) (g R W T : Nat) (Er : Nat → Nat) (z : Nat) (q : Nat × Nat × Nat × Nat) : Prop := nt M (g + 30) z = ((q.1 : Nat) : Int) ∧ nt M (g + 32) z = γ.2.1 q.2.2.2 ∧ q.1 < W ∧ Rtw γ M g R W T Er (nt M (g + 34) z) (tn M g (100 + (q.1 : Int))) q.2.1 q.2.2.1
def siX (M : mM) (a g N K R W C : Nat) (E : Eg9) (tg : Int) (p c T2 Z2 Tm : Nat) (nms : List nm9) (v : Nat) (F : Int × Int) (M2 : mM) (x : Int) (M3 : mM) : Prop := siQ M a g N K R W C E tg c T2 Z2 Tm M2 x M3 ∧ ((F.1 ≠ 0 ∧ fpw M3 a F) ∨ (F.1 = 0 ∧ mI M3 a 16 = 0 ∧ RSq M3 a g K nms ∧ ln M3 (g + 30) = (Z2 + 1 : Nat) ∧ nt M3 (g + 30) Z2 = v ∧ (∀ i : Nat, i < Z2 → nt M3 (g + 30) i = nt M2 (g + 30) i) ∧ (∀ q, q < K → nt M3 (a + 89) q = nt M2 (a + 89) q) ∧ ∀ T3, Lc M3 a g N T3 K → RSs E.2 M3 g R W T3 E.1 Z2 (v, p + 4, c, p)))
theorem x_si61 {gm : gm9} {p c v Tm Z0 : Nat} {F : Int × Int} {Q : Int → mM → Prop} (hQ : ∀ (x : Int) (M3 : mM), i32 x ∧ mOk M3 ∧ siX M a g N K R W C E tg p c T2 Z2 Tm nms v F M2 x M3 → Q x M3) (eγ : E.2 = txg M a N nms gm) (w0 : Wd M a) (hc : cI M a g N K R W C E tg T2 Z2 M2) (rs : RSq M2 a g K nms) (z2 : mI M2 a 16 = 0) (hv : v < W) (he : Eo (wk M a) 6 (p + 4) c) (hcN : c < N) (hT2 : T2 ≤ p) (hZ2 : Z2 ≤ 16384) (hTm : c - (p + 4) ≤ Tm) (hF1 : (∃ i : Nat, Z0 ≤ i ∧ i < Z2 ∧ nt M2 (g + 30) i = v) → F = (4, nt M (a + 7) (p + 1))) (hF2 : (∀ i : Nat, Z0 ≤ i → i < Z2 → nt M2 (g + 30) i ≠ v) → F = rf9 (wk M a) (nt M (a + 7)) (smx M a) nms 0 (mI M2 (g + 18) v) (p + 4) c) : ∀ (n i : Nat), i + n = Z2 → Z0 ≤ i → (∀ j : Nat, Z0 ≤ j → j < i → nt M2 (g + 30) j ≠ v) → h_MM_setItem_61 G (d + 7) a p c v i M2 Q := by
  obtain ⟨L2, I2, ⟨g2, g6, g12⟩, ⟨z30, z32, z34⟩, D2⟩ := id hc
  have hN := L2.2.1.1.2.2
  have hg := L2.2.2.2.2.2.1
  have w2 := L2.2.1.1.1
  have hD := D2 z2
  have hB := hD.1
  have hlt := he.pr.1
  have sx2 := I2.sx w0 hg
  have z30' : mI M2 (g + 30) 1 = (Z2 : Int) := z30
  have ip : i32 (p : Int) := i32s (by omega) (by omega)
  have ic : i32 (c : Int) := i32s (by omega) (by omega)
  have ic1 : i32 ((c + 1 : Nat) : Int) := i32s (by omega) (by omega)
  have iv : i32 (v : Int) := i32s (by omega) (by omega)
  have b01 := (hD.2.2.2.1 v hv).2.2.2.2.2
  have v12 : ((0 : Int) ≤ v ∧ (v : Int) < ((12 : Nat) : Int)) := by omega
  have hT3 : T2 + (c - (p + 4)) ≤ 30000 := by omega
  have hZ3 : (Z2 : Int) ≤ 32768 := by omega
  have p1N : p + 1 < N := by omega
  have pN : p < N := by omega
  have iT : i32 (T2 : Int) := i32s (by omega) (by omega)
  intro n
  induction n with
  | zero =>
    intro i hi hi0 hno
    have ei : i = Z2 := by omega
    subst ei
    have eF := hF2 hno
    refine k_MM_setItem_61 L2.1 ip ic iv (i32s (by omega) (by omega)) ?_
    rw [show mR M2 a 10 = g from L2.2.2.2.2.1, show mR M2 g 27 = g + 30 from (w2.gp hg).2.2.1.2.2.2.2.2.2.2.2.2.2.2.2.1, show mR M2 g 13 = g + 18 from (w2.gp hg).2.2.1.1, z30', Int.toNat_natCast, show (p : Int) + 4 = ((p + 4 : Nat) : Int) by omega]
    refine ⟨w2.1.1, (w2.gp hg).1, (w2.nu (n30 hg)).1, fun _ => ⟨(w2.gp hg).2.2.2.2.1.1.1, by rw [(w2.gp hg).2.2.2.2.1.1.2]; exact v12, ?_⟩, fun q => absurd (Int.le_refl _) q⟩
    refine (x_crule (d := d) eγ hc rs z2 w0 b01 hT3 he hcN).mono (fun x M3 q3 => ?_)
    obtain ⟨ex, T3, t1, t2, Rl, hp, qx⟩ := q3
    rw [← eF] at qx
    subst ex
    have L3 := Rl.2.1
    have w3 := L3.2.1.1.1
    have g3 : mI M3 g = mI M2 g := Rl.2.2.2.1
    obtain ⟨-, G3, y30, y32, y34⟩ := rlR.ge (R := R) (W := W) (C := C + 1) (Z := i) L2 Rl
    rw [show mR M3 a 10 = g from L3.2.2.2.2.1, show mR M3 g 27 = g + 30 from (w3.gp hg).2.2.1.2.2.2.2.2.2.2.2.2.2.2.2.1]
    refine ⟨iT, L3.1, w3.1.1, (w3.gp hg).1, (w3.nu (n30 hg)).1, (s_MN_add iv L3.1 (w3.nu (n30 hg)) (by rw [y30, z30]; exact hZ3)).mono (fun M4 a4 => ?_)⟩
    obtain ⟨L4, m4, g4, i4, G4⟩ := gadd (R := R) (W := W) (C := C + 1) (Z := i) L3 (Or.inl rfl) (by rw [y30, z30]; exact Int.le_refl _) a4
    have w4 := L4.2.1.1.1
    have e32 : ln M4 (g + 32) = (i : Int) := by rw [(m4.lst (n32 hg) (by omega)).1, y32, z32]
    rw [show mR M4 a 10 = g from L4.2.2.2.2.1, show mR M4 g 28 = g + 32 from (w4.gp hg).2.2.1.2.2.2.2.2.2.2.2.2.2.2.2.2.1]
    refine ⟨L4.1, w4.1.1, (w4.gp hg).1, (s_MM_place0 (d := d + 6) L4.1 L4.2.1 pN).mono (fun y M5 h5 => ?_)⟩
    obtain ⟨e5, hy⟩ := h5
    subst e5
    have hy32 : i32 y := by rw [hy]; exact (L4.1 _ _).1
    refine ⟨hy32, L4.1, (w4.nu (n32 hg)).1, (s_MN_add hy32 L4.1 (w4.nu (n32 hg)) (by rw [e32]; exact hZ3)).mono (fun M6 a6 => ?_)⟩
    obtain ⟨L6, m6, g6', i6, G6⟩ := gadd (R := R) (W := W) (C := C + 1) (Z := i) L4 (Or.inr (Or.inl rfl)) (by rw [e32]; exact Int.le_refl _) a6
    have w6 := L6.2.1.1.1
    have e34 : ln M6 (g + 34) = (i : Int) := by rw [(m6.lst (n34 hg) (by omega)).1, (m4.lst (n34 hg) (by omega)).1, y34, z34]
    rw [show mR M6 a 10 = g from L6.2.2.2.2.1, show mR M6 g 29 = g + 34 from (w6.gp hg).2.2.1.2.2.2.2.2.2.2.2.2.2.2.2.2.2]
    refine ⟨L6.1, w6.1.1, (w6.gp hg).1, (w6.nu (n34 hg)).1, (s_MN_add iT L6.1 (w6.nu (n34 hg)) (by rw [e34]; exact hZ3)).mono (fun M7 a7 => ?_)⟩
    have key := si_add (c := c) (Tm := Tm) hc z2 hv t1 (by omega) Rl hp a4 a6 a7
    obtain ⟨L7, m7, g7, i7, G7⟩ := gadd (R := R) (W := W) (C := C + 1) (Z := i) L6 (Or.inr (Or.inr rfl)) (by rw [e34]; exact Int.le_refl _) a7
    have aI : mI M7 a = mI M3 a := by rw [i7, i6, i4]
    rw [show (c : Int) + 1 = ((c + 1 : Nat) : Int) by omega]
    refine ⟨a7.1, hQ _ _ ⟨ic1, a7.1, key, ?_⟩⟩
    rcases qx with ⟨u1, u2⟩ | ⟨u1, u2, u3, u9⟩
    · refine Or.inl ⟨u1, ?_⟩
      unfold fpw
      rw [aI]
      exact u2
    · have r3 : mI M3 g 6 = R := by rw [g3]; exact g6
      have r3' : mI M3 g 12 = W := by rw [g3]; exact g12
      obtain ⟨rs4, l4⟩ := u3.add L3 r3 r3' hB.1 (Or.inl rfl) (by rw [y30, z30]; omega) a4
      obtain ⟨rs6, l6⟩ := rs4.add L4 (by rw [g4]; exact r3) (by rw [g4]; exact r3') hB.1 (Or.inr (Or.inl rfl)) (by rw [e32]; omega) a6
      obtain ⟨rs7, l7⟩ := rs6.add L6 (by rw [g6', g4]; exact r3) (by rw [g6', g4]; exact r3') hB.1 (Or.inr (Or.inr rfl)) (by rw [e34]; omega) a7
      have l37 := ((lst3.rl hg Rl).trans l4).trans (l6.trans l7)
      refine Or.inr ⟨u1, by rw [aI]; exact u2, rs7, ?_, ?_, fun j hj => ?_, fun q hq => (l37.q K q hq).2.2, fun T9 L9 => ?_⟩
      · rw [(m7.lst (n30 hg) (by omega)).1, (m6.lst (n30 hg) (by omega)).1, a4.2.2.2.1, y30, z30]; omega
      · rw [(m7.lst (n30 hg) (by omega)).2.1, (m6.lst (n30 hg) (by omega)).2.1]
        have := a4.2.2.2.2.2.1
        rw [y30, z30, Int.toNat_natCast] at this
        exact this
      · rw [(m7.lst (n30 hg) (by omega)).2.1, (m6.lst (n30 hg) (by omega)).2.1, a4.2.2.2.2.1 j (by rw [y30, z30]; omega)]
        exact ((G3 u2 (hp u2)).2.2.2.2 j hj).1
      · have eT : T9 = T3 := by
          have q1 := L9.2.2.2.1 (g + 1) (by omega)
          have q2 := L7.2.2.2.1 (g + 1) (by omega)
          omega
        subst eT
        have G37 := (G4.trans G6).trans G7
        have t30 : nt M7 (g + 30) i = (v : Int) := by
          rw [(m7.lst (n30 hg) (by omega)).2.1, (m6.lst (n30 hg) (by omega)).2.1]
          have := a4.2.2.2.2.2.1
          rw [y30, z30, Int.toNat_natCast] at this
          exact this
        have t32 : nt M7 (g + 32) i = y := by
          rw [(m7.lst (n32 hg) (by omega)).2.1]
          have := a6.2.2.2.2.2.1
          rw [e32, Int.toNat_natCast] at this
          exact this
        have t34 : nt M7 (g + 34) i = (T2 : Int) := by
          have := a7.2.2.2.2.2.1
          rw [e34, Int.toNat_natCast] at this
          exact this
        have p7 : nt M5 (a + 7) p = nt M (a + 7) p := by
          rw [(m4.lst n7 (by omega)).2.1, (((rlR.ge (R := R) (W := W) (C := C) (Z := i) L2 Rl).1).sx w2 hg).2.1, sx2.2.1]
        refine ⟨t30, ?_, hv, ?_⟩
        · rw [t32, hy, p7, eγ]
          rfl
        · have e18 : tn M7 g (100 + (v : Int)) = mI M2 (g + 18) v := by
            have k1 := ((G3 u2 (hp u2)).trans (G37.down (Nat.le_refl _) (Nat.le_refl _) (Nat.le_refl _) (Nat.le_refl _) (Nat.le_of_lt t1))).1.tv (v := 100 + (v : Int)) (by omega) (by omega)
            rw [k1]
            unfold tn
            rw [if_pos (show (100 : Int) ≤ 100 + (v : Int) by omega), show (100 + (v : Int) - 100).toNat = v by omega]
            rcases b01 with y | y <;> rw [y] <;> rfl
          show Rtw E.2 M7 g R W T9 E.1 (nt M7 (g + 34) i) (tn M7 g (100 + (v : Int))) (p + 4) c
          rw [t34, e18]
          exact u9.gn G37.1 hB.1
  | succ n ih =>
    intro i hi hi0 hno
    have nx := fun h => ih (i + 1) (by omega) (by omega) h
    refine k_MM_setItem_61 L2.1 ip ic iv (i32s (by omega) (by omega)) ?_
    rw [show mR M2 a 10 = g from L2.2.2.2.2.1, show mR M2 g 27 = g + 30 from (w2.gp hg).2.2.1.2.2.2.2.2.2.2.2.2.2.2.2.1, z30', show (p : Int) + 1 = ((p + 1 : Nat) : Int) by omega]
    refine ⟨w2.1.1, (w2.gp hg).1, (w2.nu (n30 hg)).1, fun q => absurd q (by omega), fun _ => (s_MN_at L2.1 (w2.nu (n30 hg)) (by rw [z30]; omega)).mono (fun z M4 h4 => ?_)⟩
    obtain ⟨e4, hz⟩ := h4
    subst e4
    refine ⟨by rw [hz]; exact (L2.1 _ _).1, L2.1, fun q => ⟨w2.1.1, (s_MM_place0 (d := d + 6) L2.1 L2.2.1 p1N).mono (fun y M5 h5 => ?_)⟩, fun q => ?_⟩
    · obtain ⟨e5, hy⟩ := h5
      subst e5
      have hy32 : i32 y := by rw [hy]; exact (L2.1 _ _).1
      refine ⟨hy32, L2.1, w2.1.1, (s_MM_stop ⟨by decide, by decide⟩ hy32 L2.1 w2).mono (fun M6 h6 => ⟨h6.1.1, hQ _ _ ⟨ic, h6.1.1, si_stop hc (by decide) h6, Or.inl ?_⟩⟩)⟩
      rw [hF1 ⟨i, hi0, by omega, by rw [← hz]; exact q⟩]
      exact ⟨by simp, h6.2.1, by rw [h6.2.2.1, hy, sx2.2.1]⟩
    · have nx := nx (fun j j1 j2 => by
        by_cases c : j = i
        · subst c; rw [← hz]; exact q
        · exact hno j j1 (by omega))
      rw [show ((i + 1 : Nat) : Int) = (i : Int) + 1 by omega] at nx
      exact nx
end STX
end
section
/-! The reference's sets of a branch, exactly. -/
section SNX
variable {G : mG} {d a g R W C T Z T2 T3 Z2 Z0 N K : Nat} {M M2 M3 : mM} {E : Eg9} {tg : Int} {nms : List nm9} {seen : List Nat}
theorem smx_rf (x : Nat) : smx M a x x := ⟨rfl, fun _ _ => rfl⟩
/-- which vars the branch has set -/
def SNq (M2 : mM) (a g K : Nat) (nms : List nm9) (Z0 Z2 : Nat) (seen : List Nat) : Prop := ∀ (q : Nat) (e : nm9), q < K → nms[q]? = some e → e.2.1 = 3 → (e.1 ∈ seen ↔ ∃ i : Nat, Z0 ≤ i ∧ i < Z2 ∧ nt M2 (g + 30) i = nt M2 (a + 89) q)
theorem SNq.nil : SNq M2 a g K nms Z2 Z2 [] := fun q e _ _ _ => ⟨fun z => absurd z (by simp), fun ⟨i, h1, h2, _⟩ => by omega⟩
theorem SNq.cons {q : Nat} {e : nm9} (sn : SNq M2 a g K nms Z0 Z2 seen) (rs : RSq M2 a g K nms) (hZ : Z0 ≤ Z2) (hq : q < K) (he : nms[q]? = some e) (h3 : e.2.1 = 3) (h30 : nt M3 (g + 30) Z2 = nt M2 (a + 89) q) (hi : ∀ i : Nat, i < Z2 → nt M3 (g + 30) i = nt M2 (g + 30) i) (h89 : ∀ q, q < K → nt M3 (a + 89) q = nt M2 (a + 89) q) : SNq M3 a g K nms Z0 (Z2 + 1) (e.1 :: seen) := by
  intro q' e' hq' he' h3'
  obtain ⟨x1, f1, f2, f3, -⟩ := rs.2.1 q hq
  obtain ⟨x2, k1, k2, k3, -⟩ := rs.2.1 q' hq'
  have ex1 : x1 = e := by rw [he] at f1; exact (Option.some.inj f1).symm
  have ex2 : x2 = e' := by rw [he'] at k1; exact (Option.some.inj k1).symm
  subst ex1 ex2
  have s3 : nt M2 (a + 87) q = 3 := by rw [f3, h3]; rfl
  have s3' : nt M2 (a + 87) q' = 3 := by rw [k3, h3']; rfl
  have same : q' = q ∨ nt M2 (a + 89) q' ≠ nt M2 (a + 89) q := by
    rcases Nat.lt_trichotomy q' q with z | z | z
    · exact Or.inr (rs.2.2.2 q' q z hq s3' s3)
    · exact Or.inl z
    · exact Or.inr (fun y => rs.2.2.2 q q' z hq' s3 s3' y.symm)
  have word : x2.1 = x1.1 → q' = q := fun y => by
    have e85 : nt M2 (a + 85) q' = nt M2 (a + 85) q := by rw [k2, f2, y]
    rcases Nat.lt_trichotomy q' q with z | z | z
    · have := rs.2.2.1 q' q z hq
      rw [e85] at this
      exact absurd (smx_rf _) this
    · exact z
    · have := rs.2.2.1 q q' z hq'
      rw [e85] at this
      exact absurd (smx_rf _) this
  rw [h89 q' hq', List.mem_cons]
  constructor
  · rintro (y | y)
    · have := word y
      subst this
      exact ⟨Z2, hZ, by omega, h30⟩
    · obtain ⟨i, i1, i2, i3⟩ := (sn q' x2 hq' he' h3').1 y
      exact ⟨i, i1, by omega, by rw [hi i i2]; exact i3⟩
  · rintro ⟨i, i1, i2, i3⟩
    by_cases c : i = Z2
    · subst c
      rcases same with z | z
      · subst z
        rw [he] at he'
        exact Or.inl (by rw [Option.some.inj he'])
      · exact absurd (i3.symm.trans h30) z
    · exact Or.inr ((sn q' x2 hq' he' h3').2 ⟨i, i1, by omega, by rw [← hi i (by omega)]; exact i3⟩)
/-- a set item has been read, exactly -/
def seX (M : mM) (a g N K R W C : Nat) (E : Eg9) (tg : Int) (p c T2 Z0 Z2 Tm : Nat) (nms : List nm9) (seen : List Nat) (M2 : mM) (x : Int) (M3 : mM) : Prop := siQ M a g N K R W C E tg c T2 Z2 Tm M2 x M3 ∧ (((stf (wk M a) (nt M (a + 7)) (smx M a) nms p c seen).1 ≠ 0 ∧ fpw M3 a (stf (wk M a) (nt M (a + 7)) (smx M a) nms p c seen)) ∨ ((stf (wk M a) (nt M (a + 7)) (smx M a) nms p c seen).1 = 0 ∧ mI M3 a 16 = 0 ∧ RSq M3 a g K nms ∧ ln M3 (g + 30) = (Z2 + 1 : Nat) ∧ (∃ e, fnd9 (smx M a) nms (p + 1) = some e ∧ SNq M3 a g K nms Z0 (Z2 + 1) (e.1 :: seen)) ∧ ∀ T3, Lc M3 a g N T3 K → RSs E.2 M3 g R W T3 E.1 Z2 (vix9 (smx M a) nms (p + 1), p + 4, c, p)))
theorem x_MM_setItem {gm : gm9} {p c Tm : Nat} (eγ : E.2 = txg M a N nms gm) (wM : Wd M a) (hc : cI M a g N K R W C E tg T2 Z2 M2) (rs : RSq M2 a g K nms) (sn : SNq M2 a g K nms Z0 Z2 seen) (z2 : mI M2 a 16 = 0) (w0 : wk M a p = 36) (w1 : wk M a (p + 1) = 1) (w2' : wk M a (p + 2) = 38) (w3 : wk M a (p + 3) = 23) (he : Eo (wk M a) 6 (p + 4) c) (w4 : wk M a c = 37) (hcN : c < N) (hT2 : T2 ≤ p) (hZ2 : Z2 ≤ 16384) (hZ0 : Z0 ≤ Z2) (hTm : c - (p + 4) ≤ Tm) : Ci G y_MM_setItem (d + 8) [vr a, vi p, vi Z0] M2 (fun x M3 => i32 x ∧ mOk M3 ∧ seX M a g N K R W C E tg p c T2 Z0 Z2 Tm nms seen M2 x M3) := by
  obtain ⟨L2, I2, ⟨g2, g6, g12⟩, ⟨z30, z32, z34⟩, D2⟩ := id hc
  have hN := L2.2.1.1.2.2
  have w2 := L2.2.1.1.1
  have hg := L2.2.2.2.2.2.1
  have sx2 := I2.sx wM hg
  have hlt := he.pr.1
  have hB := (D2 z2).1
  have hnm := L2.2.2.1
  have hK := hnm.2.2.2.1
  have l87 := hnm.2.1
  have l89 := hnm.2.2.1
  obtain ⟨-, s1, s2⟩ := Sg.set w0 w1 w2' w3 he w4
  have p1N : p + 1 < N := by omega
  have ic : i32 (c : Int) := i32s (by omega) (by omega)
  refine k_MM_setItem L2.1 (i32s (by omega) (by omega)) (i32s (by omega) (by omega)) ⟨w2.1.1, L2.co (d := d + 5) (by omega) hcN (by rw [sx2.1]; exact s1) (by rw [sx2.1]; exact s2) ⟨ic, L2.1, w2.1.1, ?_⟩⟩
  rw [show (p : Int) + 1 = ((p + 1 : Nat) : Int) by omega]
  have flt : stf (wk M a) (nt M (a + 7)) (smx M a) nms p c seen = (2, nt M (a + 7) (p + 1)) → Ci G y_MM_place0 (d + 7) [vr a, vi ((p + 1 : Nat) : Int)] M2 (fun x13 M12 => i32 x13 ∧ mOk M12 ∧ (mK M12 a = 14 ∧ Cv G y_MM_stop (d + 7) [vr a, vi 2, vi x13] M12 (fun M16 => mOk M16 ∧ (i32 (c : Int) ∧ mOk M16 ∧ seX M a g N K R W C E tg p c T2 Z0 Z2 Tm nms seen M2 c M16)))) := fun ef => by
    refine (s_MM_place0 (d := d + 6) L2.1 L2.2.1 p1N).mono (fun y M5 h5 => ?_)
    obtain ⟨e5, hy⟩ := h5
    subst e5
    have hy32 : i32 y := by rw [hy]; exact (L2.1 _ _).1
    refine ⟨hy32, L2.1, w2.1.1, (s_MM_stop ⟨by decide, by decide⟩ hy32 L2.1 w2).mono (fun M6 h6 => ⟨h6.1.1, ic, h6.1.1, si_stop hc (by decide) h6, Or.inl ?_⟩)⟩
    rw [ef]
    exact ⟨by simp, h6.2.1, by rw [h6.2.2.1, hy, sx2.2.1]⟩
  refine L2.fdx (d := d + 4) p1N (fun r r0 r1 rf => ⟨i32s (by omega) (by omega), L2.1, fun q => ⟨w2.1.1, flt ?_⟩, fun q => ⟨w2.1.1, ?_⟩⟩)
  · have hnone := (rs.kw rf).1 (by omega)
    rw [sx2.sm] at hnone
    unfold stf
    rw [hnone]
  rcases rs.fnd (p + 1) with ⟨y1, -⟩ | ⟨n, e, y1, hnK, y3, y4⟩
  · rw [← fdn_un rf] at y1; omega
  have hn : r = (n : Int) := by rw [fdn_un rf]; exact y1
  subst hn
  rw [sx2.sm] at y4
  obtain ⟨e', f1, f2, f3, f4, f5, -⟩ := rs.2.1 n hnK
  have ee : e' = e := by rw [y3] at f1; exact (Option.some.inj f1).symm
  subst ee
  obtain ⟨-, hk, -⟩ := hnm.2.2.2.2 n hnK
  rw [show mR M2 a 14 = a + 87 from w2.1.2.2.2.2.1.2.1]
  refine ⟨(w2.nu n87).1, L2.rd n87 (by rw [l87]; omega) (fun s hs is => ⟨is, L2.1, fun q3 => ⟨w2.1.1, ?_⟩, fun q3 => ⟨w2.1.1, flt ?_⟩⟩)⟩
  rotate_left
  · unfold stf
    rw [y4]
    have : e'.2.1 ≠ 3 := fun z => q3 (by rw [hs, f3, z]; rfl)
    simp only []
    rw [if_pos this]
  rw [show mR M2 a 15 = a + 89 from w2.1.2.2.2.2.1.2.2.1]
  refine ⟨(w2.nu n89).1, L2.rd n89 (by rw [l89]; omega) (fun x hx ix => ⟨ix, L2.1, ?_⟩)⟩
  have s3 : nt M2 (a + 87) n = 3 := by rw [← hs]; exact q3
  have e3 : e'.2.1 = 3 := by rw [f3] at s3; omega
  rw [← hs, ← hx, g12] at hk
  obtain ⟨v, hv, hvW⟩ : ∃ v : Nat, x = (v : Int) ∧ v < W := ⟨x.toNat, by omega, by omega⟩
  subst hv
  have kd : e'.2.2.1 = mI M2 (g + 18) v := by
    rw [f5, if_pos s3, ← hx]
    have b01 := ((D2 z2).2.2.2.1 v hvW).2.2.2.2.2
    unfold tn
    rw [if_pos (show (100 : Int) ≤ 100 + (v : Int) by omega), show (100 + (v : Int) - 100).toNat = v by omega]
    rcases b01 with y | y <;> rw [y] <;> rfl
  have hsn := sn n e' hnK y3 e3
  rw [← hx] at hsn
  have ef : stf (wk M a) (nt M (a + 7)) (smx M a) nms p c seen = if e'.1 ∈ seen then (4, nt M (a + 7) (p + 1)) else rf9 (wk M a) (nt M (a + 7)) (smx M a) nms 0 e'.2.2.1 (p + 4) c := by
    unfold stf
    rw [y4]
    simp only []
    rw [if_neg (fun z => z e3)]
  have hvx : v = vix9 (smx M a) nms (p + 1) := by
    have := rs.vix y1 hnK y3 e3
    rw [← hx, sx2.sm] at this
    omega
  refine x_si61 (F := stf (wk M a) (nt M (a + 7)) (smx M a) nms p c seen) (Z0 := Z0) (fun x M3 h3 => ?_) eγ wM hc rs z2 hvW he hcN hT2 hZ2 hTm (fun z => ?_) (fun z => ?_) (Z2 - Z0) Z0 (by omega) (Nat.le_refl _) (fun j _ _ => by omega)
  · obtain ⟨u1, u2, u3, u4⟩ := h3
    refine ⟨u1, u2, u3, ?_⟩
    rcases u4 with u4 | ⟨k1, k2, k3, k4, k5, k6, k7, k8⟩
    · exact Or.inl u4
    · exact Or.inr ⟨k1, k2, k3, k4, ⟨e', y4, sn.cons rs hZ0 hnK y3 e3 (by rw [k5]; exact hx) k6 k7⟩, by rw [← hvx]; exact k8⟩
  · rw [ef, if_pos (hsn.2 z)]
  · rw [ef, if_neg (fun y => by
      obtain ⟨i, i1, i2, i3⟩ := hsn.1 y
      exact z i i1 i2 i3), kd]
/-- one step of the sets -/
theorem sef_s {w pl : Nat → Int} {sm : Nat → Nat → Prop} {f k c : Nat} (hc : cpq w (k + 4) N = c) : sef w pl sm N nms (f + 1) k seen = if (stf w pl sm nms k c seen).1 ≠ 0 then (stf w pl sm nms k c seen, k) else match fnd9 sm nms (k + 1) with
  | none => ((0, 0), k)
  | some e => if w (c + 1) = 29 then sef w pl sm N nms f (c + 2) (e.1 :: seen) else ((0, 0), c + 1) := by
  rw [sef, hc]
  unfold stf
  cases h : fnd9 sm nms (k + 1) with
  | none => simp
  | some e =>
    simp only []
    by_cases c1 : e.2.1 ≠ 3
    · rw [if_pos c1, if_pos c1, if_pos (by simp)]
    · rw [if_neg c1, if_neg c1]
      by_cases c2 : e.1 ∈ seen
      · rw [if_pos c2, if_pos c2, if_pos (by simp)]
      · rw [if_neg c2, if_neg c2]
end SNX
end
section
/-! The reference's branches, exactly. -/
/-- one branch: its fault, and where it ends -/
noncomputable def bsf (w pl : Nat → Int) (sm : Nat → Nat → Prop) (N : Nat) (nms : List nm9) (p q : Nat) : (Int × Int) × Nat := if (rf9 w pl sm nms 0 0 p q).1 ≠ 0 then (rf9 w pl sm nms 0 0 p q, 0) else if w (q + 1) = 10 then ((0, 0), q + 2) else sef w pl sm N nms N (q + 1) []
noncomputable def brS (w pl : Nat → Int) (sm : Nat → Nat → Prop) (N : Nat) (nms : List nm9) (b p q : Nat) : (Int × Int) × Nat := if b = 8 then ((5, pl p), 0) else bsf w pl sm N nms p q
/-- a branch in pure words -/
noncomputable def brw (w pl : Nat → Int) (sm : Nat → Nat → Prop) (N : Nat) (nms : List nm9) (p q : Nat) : br9 := (pl p, (p, q), if w (q + 1) = 10 then [] else sel9 w sm N nms N (q + 1))
/-- one branch more -/
def cmA (cm : cm9) (br : br9) : cm9 := (cm.1, cm.2.1, cm.2.2.1, cm.2.2.2 ++ [br])
/-- a branch that is being read -/
def RBp (γ : gW9) (M : mM) (g R W T : Nat) (Er : Nat → Nat) (Z0 Z x : Nat) (br : br9) : Prop := mI M (g + 27) x = br.1 ∧ Rtw γ M g R W T Er (mI M (g + 26) x) 0 br.2.1.1 br.2.1.2 ∧ Z = Z0 + br.2.2.length ∧ ∀ (i : Nat) (q : Nat × Nat × Nat × Nat), br.2.2[i]? = some q → RSs γ M g R W T Er (Z0 + i) q
section RBX
variable {a g R W C T2 T3 Z2 Z0 N K b x z : Nat} {M M2 M3 M4 M5 M6 : mM} {Er : Nat → Nat} {γ : gW9} {q : Nat × Nat × Nat × Nat} {br : br9} {cm : cm9} {tg : Int} {E : Eg9}
/-- the sets' lists are the same below Z -/
def lsZ (M : mM) (g Z : Nat) (M' : mM) : Prop := ∀ z, z < Z → nt M' (g + 30) z = nt M (g + 30) z ∧ nt M' (g + 34) z = nt M (g + 34) z ∧ nt M' (g + 32) z = nt M (g + 32) z
theorem lsZ.trans (h : lsZ M g Z2 M2) (k : lsZ M2 g Z2 M3) : lsZ M g Z2 M3 := fun z hz => ⟨(k z hz).1.trans (h z hz).1, (k z hz).2.1.trans (h z hz).2.1, (k z hz).2.2.trans (h z hz).2.2⟩
theorem lsZ.st {i j : Nat} {v : Int} (L2 : Lc M2 a g N T2 K) (hv : i32 v) (hi : 22 ≤ i ∧ i ≤ 29) (f1 : frO (13 + i)) (f2 : frO (49 + i)) (e : M3 = mUI M2 (g + i) j v) : lsZ M2 g Z2 M3 := by
  obtain ⟨-, -, -, m3, -, -⟩ := gsti L2 hv (by omega) f1 f2 (fun z => by omega) e
  have hg := L2.2.2.2.2.2.1
  exact fun z _ => ⟨(m3.lst (n30 hg) (fun z => z)).2.1 z, (m3.lst (n34 hg) (fun z => z)).2.1 z, (m3.lst (n32 hg) (fun z => z)).2.1 z⟩
theorem RSs.cg (h : RSs γ M2 g R W T2 Er z q) (k : Gn M2 g R W T2 M3) (hR : R ≤ 60) (hz : z < Z2) (hl : lsZ M2 g Z2 M3) : RSs γ M3 g R W T2 Er z q := by
  obtain ⟨q1, q2, q3, q4⟩ := h
  obtain ⟨l1, l2, l3⟩ := hl z hz
  unfold RSs
  rw [l1, l2, l3, k.tv (by omega) (by omega)]
  exact ⟨q1, q2, q3, q4.gn k hR⟩
theorem RSs.up (h : RSs γ M2 g R W T2 Er z q) (hT : T2 ≤ T3) : RSs γ M2 g R W T3 Er z q := ⟨h.1, h.2.1, h.2.2.1, h.2.2.2.up (Nat.le_refl _) (Nat.le_refl _) hT (fun _ _ => rfl)⟩
theorem RBw.cg (h : RBw γ M2 g R W T2 Er Z2 x br) (k : Gn M2 g R W T2 M3) (hR : R ≤ 60) (hl : lsZ M2 g Z2 M3) (hc : mI M3 (g + 26) x = mI M2 (g + 26) x ∧ mI M3 (g + 27) x = mI M2 (g + 27) x ∧ mI M3 (g + 28) x = mI M2 (g + 28) x ∧ mI M3 (g + 29) x = mI M2 (g + 29) x) : RBw γ M3 g R W T2 Er Z2 x br := by
  obtain ⟨h1, h2, h3, fs, h4, h5, h6⟩ := h
  obtain ⟨e1, e2, e3, e4⟩ := hc
  unfold RBw
  rw [e1, e2, e3, e4]
  exact ⟨h1, h2.gn k hR, h3, fs, h4, h5, fun i q hq => RSs.cg (h6 i q hq) k hR (by have := (List.getElem?_eq_some_iff.mp hq).1; omega) hl⟩
theorem RBp.cg (h : RBp γ M2 g R W T2 Er Z0 Z2 x br) (k : Gn M2 g R W T2 M3) (hR : R ≤ 60) (hl : lsZ M2 g Z2 M3) (hc : mI M3 (g + 26) x = mI M2 (g + 26) x ∧ mI M3 (g + 27) x = mI M2 (g + 27) x) (hT : T2 ≤ T3) : RBp γ M3 g R W T3 Er Z0 Z2 x br := by
  obtain ⟨h1, h2, h3, h4⟩ := h
  unfold RBp
  rw [hc.1, hc.2]
  exact ⟨h1, (h2.gn k hR).up (Nat.le_refl _) (Nat.le_refl _) hT (fun _ _ => rfl), h3, fun i q hq => (RSs.cg (h4 i q hq) k hR (by have := (List.getElem?_eq_some_iff.mp hq).1; omega) hl).up hT⟩
theorem RBp.add {p0 : Int} {ij : Nat × Nat} {ss : List (Nat × Nat × Nat × Nat)} (h : RBp γ M3 g R W T3 Er Z0 Z2 x (p0, ij, ss)) (hq : RSs γ M3 g R W T3 Er Z2 q) : RBp γ M3 g R W T3 Er Z0 (Z2 + 1) x (p0, ij, ss ++ [q]) := by
  obtain ⟨h1, h2, h3, h4⟩ := h
  have h3 : Z2 = Z0 + ss.length := h3
  refine ⟨h1, h2, by show Z2 + 1 = Z0 + (ss ++ [q]).length; rw [List.length_append, h3]; rfl, fun i q' hq' => ?_⟩
  have hq' : (ss ++ [q])[i]? = some q' := hq'
  by_cases c : i < ss.length
  · rw [List.getElem?_append_left c] at hq'
    exact h4 i q' hq'
  · have hl := (List.getElem?_eq_some_iff.mp hq').1
    rw [List.length_append] at hl
    have ei : i = ss.length := by simp at hl; omega
    subst ei
    rw [List.getElem?_append_right (by omega), Nat.sub_self] at hq'
    have : q = q' := Option.some.inj hq'
    rw [← this, ← h3]
    exact hq
theorem RBp.fin (h : RBp γ M3 g R W T3 Er Z0 Z2 x br) (h28 : mI M3 (g + 28) x = (Z0 : Int)) (h29 : mI M3 (g + 29) x = (Z2 : Int) - Z0) : RBw γ M3 g R W T3 Er Z2 x br := by
  obtain ⟨h1, h2, h3, h4⟩ := h
  exact ⟨h1, h2, by rw [h29, h3]; omega, Z0, h28, by omega, h4⟩
theorem RCw.cg (h : RCw γ M2 g R W T2 Er Z2 C cm) (k : Gn M2 g R W T2 M3) (hR : R ≤ 60) (hl : lsZ M2 g Z2 M3) (c22 : mI M3 (g + 22) C = mI M2 (g + 22) C) (c23 : mI M3 (g + 23) C = mI M2 (g + 23) C) (c24 : mI M3 (g + 24) C = mI M2 (g + 24) C) (c25 : mI M3 (g + 25) C = mI M2 (g + 25) C) (cb : ∀ b' : Nat, b' < cm.2.2.2.length → mI M3 (g + 26) (8 * C + b') = mI M2 (g + 26) (8 * C + b') ∧ mI M3 (g + 27) (8 * C + b') = mI M2 (g + 27) (8 * C + b') ∧ mI M3 (g + 28) (8 * C + b') = mI M2 (g + 28) (8 * C + b') ∧ mI M3 (g + 29) (8 * C + b') = mI M2 (g + 29) (8 * C + b')) : RCw γ M3 g R W T2 Er Z2 C cm := by
  obtain ⟨h1, h2, h3, h4, h5⟩ := h
  unfold RCw
  rw [c22, c23, c24, c25]
  exact ⟨h1, h2, h3.gn k hR, h4, fun b' y hb' => (h5 b' y hb').cg k hR hl (cb b' (List.getElem?_eq_some_iff.mp hb').1)⟩
theorem RCw.app (h : RCw γ M2 g R W T2 Er Z2 C cm) (k : Gn M2 g R W T2 M3) (hR : R ≤ 60) (hl : lsZ M2 g Z2 M3) (c22 : mI M3 (g + 22) C = mI M2 (g + 22) C) (c23 : mI M3 (g + 23) C = mI M2 (g + 23) C) (c24 : mI M3 (g + 24) C = mI M2 (g + 24) C) (hb : cm.2.2.2.length = b) (hb8 : b < 8) (c25 : mI M3 (g + 25) C = (b : Int) + 1) (cb : ∀ b' : Nat, b' < b → mI M3 (g + 26) (8 * C + b') = mI M2 (g + 26) (8 * C + b') ∧ mI M3 (g + 27) (8 * C + b') = mI M2 (g + 27) (8 * C + b') ∧ mI M3 (g + 28) (8 * C + b') = mI M2 (g + 28) (8 * C + b') ∧ mI M3 (g + 29) (8 * C + b') = mI M2 (g + 29) (8 * C + b')) (hn : RBw γ M3 g R W T2 Er Z2 (8 * C + b) br) : RCw γ M3 g R W T2 Er Z2 C (cmA cm br) := by
  obtain ⟨h1, h2, h3, h4, h5⟩ := h
  have ln : (cm.2.2.2 ++ [br]).length = b + 1 := by rw [List.length_append, hb]; rfl
  unfold RCw
  rw [c22, c23, c24, c25]
  refine ⟨h1, h2, h3.gn k hR, ⟨by show (b : Int) + 1 = (((cm.2.2.2 ++ [br]).length : Nat) : Int); rw [ln]; omega, by show (cm.2.2.2 ++ [br]).length ≤ 8; rw [ln]; omega⟩, fun b' y hb' => ?_⟩
  have hb' : (cm.2.2.2 ++ [br])[b']? = some y := hb'
  by_cases c : b' < b
  · rw [List.getElem?_append_left (by omega)] at hb'
    exact (h5 b' y hb').cg k hR hl (cb b' c)
  · have hl := (List.getElem?_eq_some_iff.mp hb').1
    have ei : b' = b := by omega
    subst ei
    rw [List.getElem?_append_right (by omega), hb, Nat.sub_self] at hb'
    have : br = y := Option.some.inj hb'
    rw [← this]
    exact hn
theorem RCw.len (h : RCw γ M2 g R W T2 Er Z2 C cm) (hb : mI M2 (g + 25) C = (b : Int)) : cm.2.2.2.length = b := by
  have := h.2.2.2.1.1
  omega
/-- the game's sizes are told by its lists -/
theorem cI.un {Z3 : Nat} (h : cI M a g N K R W C E tg T2 Z2 M3) (k : cI M a g N K R W C E tg T3 Z3 M3) : T3 = T2 ∧ Z3 = Z2 := by
  have q1 := h.1.2.2.2.1 (g + 1) (by omega)
  have q2 := k.1.2.2.2.1 (g + 1) (by omega)
  have q3 := h.2.2.2.1.1
  have q4 := k.2.2.2.1.1
  omega
/-- the branch's end, in pure words -/
theorem br_endw (hC : C < 60) (hb : b < 8) (h : bI M a g N K R W C E tg b Z0 T2 Z2 M2) (z2 : mI M2 a 16 = 0) (hZ : Z2 ≤ 16385) (hw : RCw E.2 M2 g R W T2 E.1 Z2 C cm) (hB : RBp E.2 M2 g R W T2 E.1 Z0 Z2 (8 * C + b) br) (e3 : M3 = mUI M2 (g + 29) (8 * C + b) ((Z2 : Int) - Z0)) (e4 : M4 = mUI M3 (g + 25) C ((b : Int) + 1)) : ∀ T3 Z3, cI M a g N K R W C E tg T3 Z3 M4 → RCw E.2 M4 g R W T3 E.1 Z3 C (cmA cm br) := by
  obtain ⟨c2, q28, hZ0, q25, hc⟩ := h
  have L2 := c2.1
  have l3 := lsZ.st (Z2 := Z2) (i := 29) L2 (i32s (by omega) (by omega)) (by omega) (by decide) (by decide) e3
  obtain ⟨c3, f3, a3, G3⟩ := c2.st (i := 29) (i32s (by omega) (by omega)) (by omega) (by omega) (by decide) (by decide) e3
  have l4 := lsZ.st (Z2 := Z2) (i := 25) c3.1 (i32s (by omega) (by omega)) (by omega) (by decide) (by decide) e4
  obtain ⟨c4, f4, a4, G4⟩ := c3.st (i := 25) (i32s (by omega) (by omega)) (by omega) (by omega) (by decide) (by decide) e4
  have G24 := G3.trans G4
  have hR := (c2.2.2.2.2 z2).1.1
  have hl := l3.trans l4
  have cell : ∀ i x, i ≠ 25 → i ≠ 29 → mI M4 (g + i) x = mI M2 (g + i) x := fun i x h1 h2 => by rw [f4, if_neg (fun z => by omega), f3, if_neg (fun z => by omega)]
  intro T3 Z3 k
  obtain ⟨e1, e2⟩ := c4.un k
  subst e1 e2
  have r25 : mI M4 (g + 25) C = (b : Int) + 1 := by rw [f4, if_pos ⟨rfl, rfl⟩]
  have r29 : mI M4 (g + 29) (8 * C + b) = (Z3 : Int) - Z0 := by rw [f4, if_neg (fun z => by omega), f3, if_pos ⟨rfl, rfl⟩]
  have hlen := hw.len q25
  refine hw.app G24 hR hl (cell 22 C (by omega) (by omega)) (cell 23 C (by omega) (by omega)) (cell 24 C (by omega) (by omega)) hlen hb r25 (fun b' hb' => ⟨cell 26 _ (by omega) (by omega), cell 27 _ (by omega) (by omega), cell 28 _ (by omega) (by omega), ?_⟩) (RBp.fin ?_ (by rw [cell 28 _ (by omega) (by omega)]; exact q28) r29)
  · rw [f4, if_neg (fun z => by omega), f3, if_neg (fun z => by omega)]
  · exact hB.cg G24 hR hl ⟨cell 26 _ (by omega) (by omega), cell 27 _ (by omega) (by omega)⟩ (Nat.le_refl _)
/-- after a set -/
theorem br_siw {p0 : Int} {ij : Nat × Nat} {ss : List (Nat × Nat × Nat × Nat)} (hR : R ≤ 60) (hw : RCw E.2 M2 g R W T2 E.1 Z2 C cm) (hB : RBp E.2 M2 g R W T2 E.1 Z0 Z2 (8 * C + b) (p0, ij, ss)) (hb : b < 8) (hT : T2 ≤ T3) (G3 : Ge M2 g R W (C + 1) Z2 T2 M3) (hq : RSs E.2 M3 g R W T3 E.1 Z2 q) : RCw E.2 M3 g R W T3 E.1 (Z2 + 1) C cm ∧ RBp E.2 M3 g R W T3 E.1 Z0 (Z2 + 1) (8 * C + b) (p0, ij, ss ++ [q]) := by
  refine ⟨?_, RBp.add (hB.cg G3.1 hR (fun z hz => G3.2.2.2.2 z hz) ?_ hT) hq⟩
  · obtain ⟨h1, h2, h3, h4, h5⟩ := hw
    obtain ⟨e1, e2, e3⟩ := G3.2.2.2.1 C (by omega)
    obtain ⟨-, -, -, -, e4, e5⟩ := e3 0 (by omega)
    refine RCw.up (T := T2) (Z := Z2) ?_ (Nat.le_refl _) (Nat.le_refl _) hT (Nat.le_succ _) (fun _ _ => rfl)
    refine RCw.cg ⟨h1, h2, h3, h4, h5⟩ G3.1 hR (fun z hz => G3.2.2.2.2 z hz) e4 e5 e1 e2 (fun b' hb' => ?_)
    obtain ⟨k1, k2, k3, k4, -⟩ := e3 b' (by omega)
    exact ⟨k1, k4, k2, k3⟩
  · obtain ⟨k1, k2, k3, k4, -⟩ := (G3.2.2.2.1 C (by omega)).2.2 b hb
    exact ⟨k1, k4⟩
/-- a branch begins -/
theorem br_putw {i j : Nat} {pl : Int} (h : cI M a g N K R W C E tg T2 Z2 M2) (z2 : mI M2 a 16 = 0) (hb : mI M2 (g + 25) C = (b : Int)) (hb8 : b < 8) (hZ : Z2 ≤ 16385) (hT2 : T2 ≤ 16385) (t1 : T2 ≤ T3) (ip : i32 pl) (Rl : rlR 0 M2 a g N T2 K T3 0 M3) (hp : mI M3 a 16 = 0 → ∀ n, n < T2 → pm M3 g n = pm M2 g n) (z3 : mI M3 a 16 = 0) (hw : RCw E.2 M2 g R W T2 E.1 Z2 C cm) (hr : Rtw E.2 M3 g R W T3 E.1 (T2 : Int) 0 i j) (e4 : M4 = mUI M3 (g + 26) (8 * C + b) (T2 : Int)) (e5 : M5 = mUI M4 (g + 27) (8 * C + b) pl) (e6 : M6 = mUI M5 (g + 28) (8 * C + b) (Z2 : Int)) : RCw E.2 M6 g R W T3 E.1 Z2 C cm ∧ RBp E.2 M6 g R W T3 E.1 Z2 Z2 (8 * C + b) (pl, (i, j), []) := by
  obtain ⟨c3, G3⟩ := h.rl z2 t1 Rl hp
  have G3 := G3 z3
  have D2 := h.2.2.2.2 z2
  have hR := D2.1.1
  have l4 := lsZ.st (Z2 := Z2) (i := 26) c3.1 (i32s (by omega) (by omega)) (by omega) (by decide) (by decide) e4
  obtain ⟨c4, f4, a4, G4⟩ := c3.st (i := 26) (i32s (by omega) (by omega)) (by omega) (by omega) (by decide) (by decide) e4
  have l5 := lsZ.st (Z2 := Z2) (i := 27) c4.1 ip (by omega) (by decide) (by decide) e5
  obtain ⟨c5, f5, a5, G5⟩ := c4.st (i := 27) ip (by omega) (by omega) (by decide) (by decide) e5
  have l6 := lsZ.st (Z2 := Z2) (i := 28) c5.1 (i32s (by omega) (by omega)) (by omega) (by decide) (by decide) e6
  obtain ⟨c6, f6, a6, G6⟩ := c5.st (i := 28) (i32s (by omega) (by omega)) (by omega) (by omega) (by decide) (by decide) e6
  have G36 := (G4.trans G5).trans G6
  have l36 := (l4.trans l5).trans l6
  have hlen := hw.len hb
  have hw3 : RCw E.2 M3 g R W T3 E.1 Z2 C cm := by
    obtain ⟨e1, e2, e3⟩ := G3.2.2.2.1 C (by omega)
    obtain ⟨-, -, -, -, q4, q5⟩ := e3 0 (by omega)
    refine RCw.up (T := T2) (Z := Z2) ?_ (Nat.le_refl _) (Nat.le_refl _) t1 (Nat.le_refl _) (fun _ _ => rfl)
    refine hw.cg G3.1 hR (fun z hz => G3.2.2.2.2 z hz) q4 q5 e1 e2 (fun b' hb' => ?_)
    obtain ⟨k1, k2, k3, k4, -⟩ := e3 b' (by omega)
    exact ⟨k1, k4, k2, k3⟩
  have cell : ∀ i x, (i < 26 ∨ i = 29 ∨ x ≠ 8 * C + b) → mI M6 (g + i) x = mI M3 (g + i) x := fun i x hi => by rw [f6, if_neg (fun z => by omega), f5, if_neg (fun z => by omega), f4, if_neg (fun z => by omega)]
  have v26 : mI M6 (g + 26) (8 * C + b) = (T2 : Int) := by rw [f6, if_neg (fun z => by omega), f5, if_neg (fun z => by omega), f4, if_pos ⟨rfl, rfl⟩]
  have v27 : mI M6 (g + 27) (8 * C + b) = pl := by rw [f6, if_neg (fun z => by omega), f5, if_pos ⟨rfl, rfl⟩]
  refine ⟨hw3.cg G36 hR l36 (cell 22 C (by omega)) (cell 23 C (by omega)) (cell 24 C (by omega)) (cell 25 C (by omega)) (fun b' hb' => ⟨cell 26 _ (by omega), cell 27 _ (by omega), cell 28 _ (by omega), cell 29 _ (by omega)⟩), v27, ?_, rfl, fun i q hq => absurd (show ([] : List (Nat × Nat × Nat × Nat))[i]? = some q from hq) (by simp)⟩
  rw [v26]
  exact hr.gn G36 hR
end RBX
section BRX
variable {G : mG} {d a g R W C T2 T3 Z2 N K : Nat} {M M2 M3 : mM} {E : Eg9} {tg : Int} {nms : List nm9}
theorem RSq.st {i j : Nat} {v : Int} (rs : RSq M2 a g K nms) (L2 : Lc M2 a g N T2 K) (hv : i32 v) (hi : 22 ≤ i ∧ i ≤ 29) (f1 : frO (13 + i)) (f2 : frO (49 + i)) (e : M3 = mUI M2 (g + i) j v) : RSq M3 a g K nms := by
  obtain ⟨L3, I3, -, m3, f3, l3⟩ := gsti L2 hv (by omega) f1 f2 (fun z => by omega) e
  refine rs.eq ((lst3.of m3 (fun _ _ z => z)).q K) ?_ ⟨by rw [l3], by rw [l3]⟩ (I3.sx L2.2.1.1.1 L2.2.2.2.2.2.1)
  funext u
  unfold tn
  rw [show mI M3 (g + 18) = mI M2 (g + 18) from funext (fun x => by rw [f3, if_neg (fun z => by omega)]), show mI M3 (g + 14) = mI M2 (g + 14) from funext (fun x => by rw [f3, if_neg (fun z => by omega)])]
/-- a branch has been read, exactly -/
def brX (M : mM) (a g N K R W C : Nat) (E : Eg9) (tg : Int) (s b : Nat) (nms : List nm9) (S : (Int × Int) × Nat) (cm' : cm9) (x : Int) (M3 : mM) : Prop := brQ M a g N K R W C E tg s x M3 ∧ ((S.1.1 ≠ 0 ∧ fpw M3 a S.1) ∨ (S.1.1 = 0 ∧ S.2 = s ∧ mI M3 a 16 = 0 ∧ mI M3 (g + 25) C = (b : Int) + 1 ∧ RSq M3 a g K nms ∧ ∀ T3 Z3, cI M a g N K R W C E tg T3 Z3 M3 → RCw E.2 M3 g R W T3 E.1 Z3 C cm'))
theorem x_br_end {cm : cm9} {br : br9} {b Z0 s k : Nat} {l8 : Int} {Q : Int → mM → Prop} (hC : C < 60) (hb : b < 8) (h : bI M a g N K R W C E tg b Z0 T2 Z2 M2) (hk : k ≤ N) (hs : mI M2 a 16 = 0 → k = s ∧ T2 ≤ s ∧ Z2 ≤ s) (hZ : Z2 ≤ 16385) (i8 : i32 l8) (h8 : l8 = 0 ∨ ¬ (mI M2 a 16 = 0)) (hB : mI M2 a 16 = 0 → RCw E.2 M2 g R W T2 E.1 Z2 C cm ∧ RBp E.2 M2 g R W T2 E.1 Z0 Z2 (8 * C + b) br) (hQ : ∀ M4, i32 (k : Int) → mOk M4 → brQ M a g N K R W C E tg s k M4 → mI M4 a = mI M2 a → mI M4 (g + 25) C = (b : Int) + 1 → (RSq M2 a g K nms → RSq M4 a g K nms) → (mI M2 a 16 = 0 → ∀ T3 Z3, cI M a g N K R W C E tg T3 Z3 M4 → RCw E.2 M4 g R W T3 E.1 Z3 C (cmA cm br)) → Q k M4) : h_MM_branch0_128 G (d + 8) a C b (8 * C + b : Nat) k l8 M2 Q := by
  have L2 := h.1.1
  have hN := L2.2.1.1.2.2
  have hg := L2.2.2.2.2.2.1
  have w2 := L2.2.1.1.1
  have z30 : mI M2 (g + 30) 1 = (Z2 : Int) := h.1.2.2.2.1.1
  have hZ0 := h.2.2.1
  have b480 : ((0 : Int) ≤ ((8 * C + b : Nat) : Int) ∧ ((8 * C + b : Nat) : Int) < ((480 : Nat) : Int)) := by omega
  have b60 : ((0 : Int) ≤ (C : Int) ∧ (C : Int) < ((60 : Nat) : Int)) := by omega
  refine k_MM_branch0_128 L2.1 (i32s (by omega) (by omega)) (i32s (by omega) (by omega)) (i32s (by omega) (by omega)) (i32s (by omega) (by omega)) i8 ⟨fun _ => w2.1.1, fun _ => ⟨w2.1.1, ?_⟩, fun q => absurd h8 q⟩
  rw [show mR M2 a 10 = g from L2.2.2.2.2.1, show mR M2 g 27 = g + 30 from (w2.gp hg).2.2.1.2.2.2.2.2.2.2.2.2.2.2.2.1, show mR M2 g 25 = g + 28 from (w2.gp hg).2.2.1.2.2.2.2.2.2.2.2.2.2.1, show mR M2 g 26 = g + 29 from (w2.gp hg).2.2.1.2.2.2.2.2.2.2.2.2.2.2.1, z30, Int.toNat_natCast, h.2.1]
  refine ⟨(w2.gp hg).1, (w2.nu (n30 hg)).1, (w2.gp hg).2.2.2.2.2.2.2.2.2.2.2.1.1, by rw [(w2.gp hg).2.2.2.2.2.2.2.2.2.2.2.1.2]; exact b480, (w2.gp hg).2.2.2.2.2.2.2.2.2.2.2.2.1, by rw [(w2.gp hg).2.2.2.2.2.2.2.2.2.2.2.2.2]; exact b480, i32s (by omega) (by omega), fun M3 e3 => ?_⟩
  obtain ⟨c3, f3, a3, G3⟩ := h.1.st (i := 29) (i32s (by omega) (by omega)) (by omega) (by omega) (by decide) (by decide) e3
  have L3 := c3.1
  have w3 := L3.2.1.1.1
  rw [show mR M3 a 10 = g from L3.2.2.2.2.1, show mR M3 g 22 = g + 25 from (w3.gp hg).2.2.1.2.2.2.2.2.2.2.1, Int.toNat_natCast]
  refine ⟨(w3.gp hg).1, (w3.gp hg).2.2.2.2.2.2.2.2.1.1, by rw [(w3.gp hg).2.2.2.2.2.2.2.2.1.2]; exact b60, i32s (by omega) (by omega), fun M4 e4 => ?_⟩
  have key := br_end (x := (k : Int)) hC hb h (by omega) (fun z => ⟨by have := hs z; omega, (hs z).2⟩) hZ e3 e4
  obtain ⟨c4, f4, a4, G4⟩ := c3.st (i := 25) (v := (b : Int) + 1) (i32s (by omega) (by omega)) (by omega) (by omega) (by decide) (by decide) e4
  exact hQ M4 (i32s (by omega) (by omega)) key.1 key.2 (a4.trans a3) (by rw [f4, if_pos ⟨rfl, rfl⟩]) (fun rs => (rs.st (i := 29) L2 (i32s (by omega) (by omega)) (by omega) (by decide) (by decide) e3).st (i := 25) L3 (i32s (by omega) (by omega)) (by omega) (by decide) (by decide) e4) (fun z => br_endw hC hb h z hZ (hB z).1 (hB z).2 e3 e4)
theorem x_br_sets {gm : gm9} {cm : cm9} {p0 : Int} {ij : Nat × Nat} {b Z0 s : Nat} (eγ : E.2 = txg M a N nms gm) (wM : Wd M a) (hC : C < 60) (hb : b < 8) (hsN : s < N) (hg : g = a + 13 ∨ g = a + 49) : ∀ (f f' p T2 Z2 : Nat) (M2 : mM) (seen : List Nat) (ss : List (Nat × Nat × Nat × Nat)), RCw E.2 M2 g R W T2 E.1 Z2 C cm → RBp E.2 M2 g R W T2 E.1 Z0 Z2 (8 * C + b) (p0, ij, ss) → s ≤ p + f' → bI M a g N K R W C E tg b Z0 T2 Z2 M2 → RSq M2 a g K nms → SNq M2 a g K nms Z0 Z2 seen → mI M2 a 16 = 0 → Se (wk M a) f p s → T2 ≤ p → Z2 ≤ p → h_MM_branch0_128 G (d + 8) a C b (8 * C + b : Nat) p 1 M2 (fun x M3 => i32 x ∧ mOk M3 ∧ brX M a g N K R W C E tg s b nms (sef (wk M a) (nt M (a + 7)) (smx M a) N nms f' p seen) (cmA cm (p0, ij, ss ++ sel9 (wk M a) (smx M a) N nms f' p)) x M3) := by
  intro f
  induction f with
  | zero => intro f' p T2 Z2 M2 seen ss _ _ _ _ _ _ _ hs; exact hs.elim
  | succ f ih =>
    intro f' p T2 Z2 M2 seen ss hw hB hf' h rs sn z2 hse hT2 hZ2
    have sgs := hse.sg.1
    obtain ⟨w0, w1, w2', w3, c, he, w4, hnx⟩ := hse
    have L2 := h.1.1
    have hN := L2.2.1.1.2.2
    have w2 := L2.2.1.1.1
    have hlt := he.pr.1
    have hcs : c + 1 ≤ s := by
      rcases hnx with ⟨y, -⟩ | ⟨-, y⟩
      · omega
      · have := y.sg.1; omega
    have wkE := h.1.2.1.wk hg
    have b480 : ((0 : Int) ≤ ((8 * C + b : Nat) : Int) ∧ ((8 * C + b : Nat) : Int) < ((480 : Nat) : Int)) := by omega
    have cN : c < N := by omega
    have c1N : c + 1 < N := by omega
    have tm : c - (p + 4) ≤ c - (p + 4) := Nat.le_refl _
    have hZ16 : Z2 ≤ 16384 := by omega
    have hZ0 := h.2.2.1
    obtain ⟨f', rfl⟩ : ∃ f2, f' = f2 + 1 := ⟨f' - 1, by omega⟩
    have eS := sef_s (pl := nt M (a + 7)) (sm := smx M a) (nms := nms) (seen := seen) (f := f') (cpq_at he w4 cN)
    generalize sef (wk M a) (nt M (a + 7)) (smx M a) N nms (f' + 1) p seen = S at eS ⊢
    have eL : sel9 (wk M a) (smx M a) N nms (f' + 1) p = (vix9 (smx M a) nms (p + 1), p + 4, c, p) :: (if wk M a (c + 1) = 29 then sel9 (wk M a) (smx M a) N nms f' (c + 2) else []) := by rw [sel9, cpq_at he w4 cN]
    generalize sel9 (wk M a) (smx M a) N nms (f' + 1) p = SL at eL ⊢
    refine k_MM_branch0_128 L2.1 (i32s (by omega) (by omega)) (i32s (by omega) (by omega)) (i32s (by omega) (by omega)) (i32s (by omega) (by omega)) ⟨by decide, by decide⟩ ⟨fun _ => w2.1.1, fun q => ?_, fun _ => ⟨w2.1.1, ?_⟩⟩
    · rcases q with q | q
      · exact absurd q (by decide)
      · exact absurd z2 q
    rw [show mR M2 a 10 = g from L2.2.2.2.2.1, show mR M2 g 25 = g + 28 from (w2.gp hg).2.2.1.2.2.2.2.2.2.2.2.2.2.1, Int.toNat_natCast, h.2.1]
    refine ⟨(w2.gp hg).1, (w2.gp hg).2.2.2.2.2.2.2.2.2.2.2.1.1, by rw [(w2.gp hg).2.2.2.2.2.2.2.2.2.2.2.1.2]; exact b480, ?_⟩
    refine (x_MM_setItem (d := d) eγ wM h.1 rs sn z2 w0 w1 w2' w3 he w4 cN hT2 hZ16 hZ0 tm).mono (fun x M3 t3 => ?_)
    obtain ⟨ix, o3, ⟨hx, m3, T3, Z3, c3, ⟨t1, t2, t3', t4⟩, k3⟩, sx⟩ := t3
    have B3 := h.si (c := c) (Tm := 0) z2 m3 c3 t1 t3' (fun z => (k3 z).2) hb
    have L3 := c3.1
    have w3 := L3.2.1.1.1
    have wkE3 := c3.2.1.wk hg
    have hT3 : T3 ≤ c + 1 := by omega
    have hZ3 : Z3 ≤ c + 1 := by omega
    refine ⟨ix, o3, w3.1.1, ?_⟩
    obtain ⟨y, hy, hyN⟩ : ∃ y : Nat, x = (y : Int) ∧ y + 1 ≤ N := by
      rcases hx with z | z
      · exact ⟨c, z, by omega⟩
      · exact ⟨c + 1, z, by omega⟩
    have k3' : mI M3 a 16 = 0 → y = c + 1 := fun z => by have := (k3 z).1; omega
    have hG3 : mI M3 a 16 = 0 → Ge M2 g R W (C + 1) Z2 T2 M3 := fun z => (k3 z).2
    have hT23 : T2 ≤ T3 := t1
    clear hx k3 t1 t2 t3' t4 sgs
    subst hy
    refine L3.wd (d := d + 7) (by omega) (fun u hu iu => ⟨iu, L3.1, fun v hv v' hv' => ?_⟩)
    rw [wkE3] at hu
    by_cases z3 : mI M3 a 16 = 0
    · have ey := k3' z3
      subst ey
      obtain ⟨u1, -, u3, u4, ⟨e, u5, u6⟩, u9⟩ : (stf (wk M a) (nt M (a + 7)) (smx M a) nms p c seen).1 = 0 ∧ mI M3 a 16 = 0 ∧ RSq M3 a g K nms ∧ ln M3 (g + 30) = (Z2 + 1 : Nat) ∧ (∃ e, fnd9 (smx M a) nms (p + 1) = some e ∧ SNq M3 a g K nms Z0 (Z2 + 1) (e.1 :: seen)) ∧ ∀ T3, Lc M3 a g N T3 K → RSs E.2 M3 g R W T3 E.1 Z2 (vix9 (smx M a) nms (p + 1), p + 4, c, p) := by
        rcases sx with ⟨y1, y2⟩ | y
        · exact absurd (y2.1.symm.trans z3) y1
        · exact y
      have eZ : Z3 = Z2 + 1 := by have := c3.2.2.2.1.1; omega
      subst eZ
      obtain ⟨hw3, hB3⟩ := br_siw (h.1.2.2.2.2 z2).1.1 hw hB hb hT23 (hG3 z3) (u9 T3 L3)
      rw [if_neg (fun z => z u1), u5] at eS
      simp only [] at eS
      rcases hnx with ⟨e1, e2⟩ | ⟨e1, e2⟩
      · rw [if_neg (fun q => e2 (hu.symm.trans q))] at hv
        subst hv
        rw [if_pos rfl] at hv'
        subst hv'
        rw [if_neg e2] at eS eL
        subst eL
        refine x_br_end (nms := nms) hC hb B3 (by omega) (fun _ => by omega) (by omega) ⟨by decide, by decide⟩ (Or.inl rfl) (fun _ => ⟨hw3, hB3⟩) (fun M4 i4 o4 bq aI r25 rsq rcw => ⟨i4, o4, bq, Or.inr ⟨by rw [eS], by rw [eS]; exact e1.symm, by rw [aI]; exact z3, r25, rsq u3, rcw z3⟩⟩)
      · rw [if_pos (hu.trans e1)] at hv
        subst hv
        rw [if_neg (by decide)] at hv'
        subst hv'
        rw [show ((c + 1 : Nat) : Int) + 1 = ((c + 2 : Nat) : Int) by omega]
        rw [if_pos e1] at eS eL
        subst eL
        have key := ih f' (c + 2) T3 (Z2 + 1) M3 (e.1 :: seen) _ hw3 hB3 (by omega) B3 u3 u6 z3 e2 (by omega) (by omega)
        rw [List.append_assoc] at key
        rw [eS]
        exact key
    · have v01 : v = 0 ∨ v = 1 := by split at hv <;> omega
      obtain ⟨u1, u2⟩ : (stf (wk M a) (nt M (a + 7)) (smx M a) nms p c seen).1 ≠ 0 ∧ fpw M3 a (stf (wk M a) (nt M (a + 7)) (smx M a) nms p c seen) := by
        rcases sx with y | y
        · exact y
        · exact absurd y.2.1 z3
      rw [if_pos u1] at eS
      obtain ⟨k', hk', hkN⟩ : ∃ k' : Nat, v' = (k' : Int) ∧ k' ≤ N := by
        by_cases q : v = 0
        · rw [if_pos q] at hv'; exact ⟨y, hv', by omega⟩
        · rw [if_neg q] at hv'; exact ⟨y + 1, by omega, by omega⟩
      subst hk'
      refine x_br_end (nms := nms) (cm := cm) (br := (p0, ij, ss)) hC hb B3 hkN (fun q => absurd q z3) (by omega) (i32s (by omega) (by omega)) (Or.inr z3) (fun z => absurd z z3) (fun M4 i4 o4 bq aI r25 rsq _ => ⟨i4, o4, bq, Or.inl ?_⟩)
      rw [eS]
      exact ⟨u1, by rw [aI]; exact u2.1, by rw [aI]; exact u2.2⟩
theorem x_MM_branch0 {gm : gm9} {cm : cm9} {p q s e b : Nat} (eγ : E.2 = txg M a N nms gm) (hw : RCw E.2 M2 g R W T2 E.1 Z2 C cm) (wM : Wd M a) (h : cI M a g N K R W C E tg T2 Z2 M2) (rs : RSq M2 a g K nms) (z2 : mI M2 a 16 = 0) (hcc : Cc M2 g R W T2 E.1 Z2 C) (hb : mI M2 (g + 25) C = (b : Int)) (hC : C < 60) (he5 : Eo (wk M a) 5 p q) (w33 : wk M a q = 33) (hss : Ss (wk M a) (q + 1) s) (hsN : s < N) (heN : e < N) (hT2 : T2 ≤ p) (hZ2 : Z2 ≤ p) : Ci G y_MM_branch0 (d + 9) [vr a, vi C, vi p, vi e] M2 (fun x M3 => i32 x ∧ mOk M3 ∧ brX M a g N K R W C E tg s b nms (brS (wk M a) (nt M (a + 7)) (smx M a) N nms b p q) (cmA cm (brw (wk M a) (nt M (a + 7)) (smx M a) N nms p q)) x M3) := by
  have L2 := h.1
  have hN := L2.2.1.1.2.2
  have hg := L2.2.2.2.2.2.1
  have w2 := L2.2.1.1.1
  have hlt := he5.pr.1
  have hqs := hss.sg.1
  have wkE := h.2.1.wk hg
  have sx2 := h.2.1.sx wM hg
  have hb8 : b ≤ 8 := by have := hcc.2.2.1; omega
  have b60 : ((0 : Int) ≤ (C : Int) ∧ (C : Int) < ((60 : Nat) : Int)) := by omega
  have ie : i32 (e : Int) := i32s (by omega) (by omega)
  have pN : p < N := by omega
  have qN : q < N := by omega
  have q1N : q + 1 < N := by
    rcases hss with ⟨-, y⟩ | ⟨-, f, y⟩
    · omega
    · cases f with
      | zero => exact y.elim
      | succ f =>
        obtain ⟨-, -, -, -, c, y1, -, y2⟩ := y
        have := y1.pr.1
        rcases y2 with ⟨y2, -⟩ | ⟨-, y2⟩
        · omega
        · have := y2.sg.1; omega
  refine k_MM_branch0 L2.1 (i32s (by omega) (by omega)) (i32s (by omega) (by omega)) ie ?_
  rw [show mR M2 a 10 = g from L2.2.2.2.2.1, show mR M2 g 22 = g + 25 from (w2.gp hg).2.2.1.2.2.2.2.2.2.2.1, Int.toNat_natCast, hb]
  refine ⟨w2.1.1, (w2.gp hg).1, (w2.gp hg).2.2.2.2.2.2.2.2.1.1, by rw [(w2.gp hg).2.2.2.2.2.2.2.2.1.2]; exact b60, fun q8 => ?_, fun q8 => ?_⟩
  · refine (s_MM_place0 (d := d + 7) L2.1 L2.2.1 pN).mono (fun y M5 h5 => ?_)
    obtain ⟨e5, hy⟩ := h5
    subst e5
    have hy32 : i32 y := by rw [hy]; exact (L2.1 _ _).1
    refine ⟨hy32, L2.1, w2.1.1, (s_MM_stop ⟨by decide, by decide⟩ hy32 L2.1 w2).mono (fun M6 h6 => ⟨h6.1.1, ie, h6.1.1, ⟨by omega, ?_⟩, Or.inl ?_⟩)⟩
    rotate_left
    · have b8 : b = 8 := by omega
      unfold brS
      rw [if_pos b8]
      exact ⟨by simp, h6.2.1, by rw [h6.2.2.1, hy, sx2.2.1]⟩
    obtain ⟨-, -, T3, Z3, c3, -, -⟩ := si_stop (c := 0) (Tm := 0) h (by decide) h6
    exact ⟨T3, Z3, c3, fun z => by rw [h6.2.1] at z; exact absurd z (by decide)⟩
  · have hb7 : b < 8 := by omega
    have eB : brS (wk M a) (nt M (a + 7)) (smx M a) N nms b p q = bsf (wk M a) (nt M (a + 7)) (smx M a) N nms p q := if_neg (by omega)
    rw [eB]
    have eS : bsf (wk M a) (nt M (a + 7)) (smx M a) N nms p q = if (rf9 (wk M a) (nt M (a + 7)) (smx M a) nms 0 0 p q).1 ≠ 0 then (rf9 (wk M a) (nt M (a + 7)) (smx M a) nms 0 0 p q, 0) else if wk M a (q + 1) = 10 then ((0, 0), q + 2) else sef (wk M a) (nt M (a + 7)) (smx M a) N nms N (q + 1) [] := rfl
    generalize bsf (wk M a) (nt M (a + 7)) (smx M a) N nms p q = S at eS ⊢
    have e8 : 8 * (C : Int) + (b : Int) = ((8 * C + b : Nat) : Int) := by omega
    have b480 : ((0 : Int) ≤ ((8 * C + b : Nat) : Int) ∧ ((8 * C + b : Nat) : Int) < ((480 : Nat) : Int)) := by omega
    rw [e8]
    refine L2.ub (d := d + 6) (by omega) (by rw [wkE]; exact he5.pr.2.2.2.2.1) qN (by rw [wkE]; exact w33) (Or.inr (Or.inr rfl)) ⟨i32s (by omega) (by omega), L2.1, w2.1.1, ?_⟩
    rw [show mR M2 a 10 = g from L2.2.2.2.2.1, show mR M2 g 23 = g + 26 from (w2.gp hg).2.2.1.2.2.2.2.2.2.2.2.1]
    refine ⟨(w2.gp hg).1, (x_crule (d := d + 1) eγ h rs z2 wM (Or.inl rfl) (by omega) (he5.six (by omega)) qN).mono (fun x M3 q3 => ?_)⟩
    obtain ⟨ex, T3, t1, t2, Rl, hp, qx⟩ := q3
    generalize rf9 (wk M a) (nt M (a + 7)) (smx M a) nms 0 0 p q = F at eS qx
    subst ex
    have iT : i32 (T2 : Int) := i32s (by omega) (by omega)
    have hZ16 : Z2 ≤ 16385 := by omega
    have hT16 : T2 ≤ 16385 := by omega
    have hTs : T3 ≤ q := by omega
    have hZs : Z2 ≤ q := by omega
    have iq2 : i32 ((q : Int) + 1 + 1) := i32s (by omega) (by omega)
    have hqi : 0 ≤ (q : Int) + 1 + 1 ∧ (q : Int) + 1 + 1 ≤ N := by omega
    have ib1 : i32 ((b : Int) + 1) := i32s (by omega) (by omega)
    have b60' := b60
    have t1' := Nat.le_of_lt t1
    have iZ0 : i32 ((Z2 : Int) - Z2) := i32s (by omega) (by omega)
    obtain ⟨c3, -⟩ := h.rl z2 t1' Rl hp
    have L3 := c3.1
    have w3 := L3.2.1.1.1
    clear hqs hlt t2 t1 hN
    refine ⟨iT, L3.1, (w3.gp hg).2.2.2.2.2.2.2.2.2.1.1, by rw [(w3.gp hg).2.2.2.2.2.2.2.2.2.1.2]; exact b480, fun M4 e4 => ?_⟩
    rw [Int.toNat_natCast] at e4
    have P := fun (M5 M6 : mM) (pl : Int) (ip : i32 pl) e5 e6 => br_put (M5 := M5) (M6 := M6) h z2 hcc hb hb7 hZ16 hT16 t1' ip Rl hp e4 e5 e6
    have c4 := (P _ _ 0 ⟨by decide, by decide⟩ rfl rfl).2.1.1
    have L4 := c4.1
    have w4 := L4.2.1.1.1
    rw [show mR M4 a 10 = g from L4.2.2.2.2.1, show mR M4 g 24 = g + 27 from (w4.gp hg).2.2.1.2.2.2.2.2.2.2.2.2.1]
    refine ⟨w4.1.1, (w4.gp hg).1, (s_MM_place0 (d := d + 7) L4.1 L4.2.1 pN).mono (fun y M5 h5 => ?_)⟩
    obtain ⟨e5, hy⟩ := h5
    subst e5
    have hy32 : i32 y := by rw [hy]; exact (L4.1 _ _).1
    refine ⟨hy32, L4.1, (w4.gp hg).2.2.2.2.2.2.2.2.2.2.1.1, by rw [(w4.gp hg).2.2.2.2.2.2.2.2.2.2.1.2]; exact b480, fun M6 e6 => ?_⟩
    rw [Int.toNat_natCast] at e6
    have c6 := (P M6 _ y hy32 e6 rfl).2.1.2
    have L6 := c6.1
    have w6 := L6.2.1.1.1
    have z30 : mI M6 (g + 30) 1 = (Z2 : Int) := c6.2.2.2.1.1
    rw [show mR M6 a 10 = g from L6.2.2.2.2.1, show mR M6 g 27 = g + 30 from (w6.gp hg).2.2.1.2.2.2.2.2.2.2.2.2.2.2.2.1, show mR M6 g 25 = g + 28 from (w6.gp hg).2.2.1.2.2.2.2.2.2.2.2.2.2.1, z30]
    refine ⟨w6.1.1, (w6.gp hg).1, (w6.nu (n30 hg)).1, (w6.gp hg).2.2.2.2.2.2.2.2.2.2.2.1.1, by rw [(w6.gp hg).2.2.2.2.2.2.2.2.2.2.2.1.2]; exact b480, fun M7 e7 => ?_⟩
    rw [Int.toNat_natCast] at e7
    obtain ⟨B7, -, a7⟩ := P M6 M7 y hy32 e6 e7
    have hyp : y = nt M (a + 7) p := by rw [hy, (c4.2.1.sx wM hg).2.1]
    have W7 : mI M3 a 16 = 0 → Rtw E.2 M3 g R W T3 E.1 (T2 : Int) 0 p q → RCw E.2 M7 g R W T3 E.1 Z2 C cm ∧ RBp E.2 M7 g R W T3 E.1 Z2 Z2 (8 * C + b) (nt M (a + 7) p, (p, q), []) := fun z hr => by
      rw [← hyp]
      exact br_putw h z2 hb hb7 hZ16 hT16 t1' hy32 Rl hp z hw hr e4 e6 e7
    have rs7 : RSq M3 a g K nms → RSq M7 a g K nms := fun r3 => ((r3.st (i := 26) L3 iT (by omega) (by decide) (by decide) e4).st (i := 27) L4 hy32 (by omega) (by decide) (by decide) e6).st (i := 28) L6 (i32s (by omega) (by omega)) (by omega) (by decide) (by decide) e7
    have L7 := B7.1.1
    have w7 := L7.2.1.1.1
    have wkE7 := B7.1.2.1.wk hg
    rw [show (q : Int) + 1 = ((q + 1 : Nat) : Int) by omega]
    refine L7.wd (d := d + 7) q1N (fun u hu iu => ⟨iu, L7.1, fun q10 => ⟨w7.1.1, ?_⟩, fun q10 => ?_⟩)
    · rw [wkE7] at hu
      have es : s = q + 2 := by
        rcases hss with ⟨-, y⟩ | ⟨y, -⟩
        · omega
        · exact absurd (hu.symm.trans q10) y
      have z30' : mI M7 (g + 30) 1 = (Z2 : Int) := B7.1.2.2.2.1.1
      rw [show mR M7 a 10 = g from L7.2.2.2.2.1, show mR M7 g 27 = g + 30 from (w7.gp hg).2.2.1.2.2.2.2.2.2.2.2.2.2.2.2.1, show mR M7 g 25 = g + 28 from (w7.gp hg).2.2.1.2.2.2.2.2.2.2.2.2.2.1, show mR M7 g 26 = g + 29 from (w7.gp hg).2.2.1.2.2.2.2.2.2.2.2.2.2.2.1, z30', Int.toNat_natCast, B7.2.1]
      refine ⟨(w7.gp hg).1, (w7.nu (n30 hg)).1, (w7.gp hg).2.2.2.2.2.2.2.2.2.2.2.1.1, by rw [(w7.gp hg).2.2.2.2.2.2.2.2.2.2.2.1.2]; exact b480, (w7.gp hg).2.2.2.2.2.2.2.2.2.2.2.2.1, by rw [(w7.gp hg).2.2.2.2.2.2.2.2.2.2.2.2.2]; exact b480, iZ0, fun M8 e8 => ?_⟩
      obtain ⟨c8, f8, a8, G8⟩ := B7.1.st (i := 29) iZ0 (by omega) (by omega) (by decide) (by decide) e8
      have L8 := c8.1
      have w8 := L8.2.1.1.1
      rw [show mR M8 a 10 = g from L8.2.2.2.2.1, show mR M8 g 22 = g + 25 from (w8.gp hg).2.2.1.2.2.2.2.2.2.2.1]
      refine ⟨(w8.gp hg).1, (w8.gp hg).2.2.2.2.2.2.2.2.1.1, by rw [(w8.gp hg).2.2.2.2.2.2.2.2.1.2]; exact b60', ib1, fun M9 e9 => ?_⟩
      rw [show ((q + 1 : Nat) : Int) + 1 = (q : Int) + 1 + 1 by omega]
      have key := br_end (x := (q : Int) + 1 + 1) (s := s) hC hb7 B7 hqi (fun _ => by omega) hZ16 e8 e9
      obtain ⟨c9, f9, a9, G9⟩ := c8.st (i := 25) ib1 (by omega) (by omega) (by decide) (by decide) e9
      have aI : mI M9 a = mI M3 a := by rw [a9, a8, a7]
      refine ⟨iq2, key.1, key.2, ?_⟩
      rcases qx with ⟨u1, u2⟩ | ⟨u1, u2, u3, u9⟩
      · rw [if_pos u1] at eS
        rw [eS]
        exact Or.inl ⟨u1, by rw [aI]; exact u2.1, by rw [aI]; exact u2.2⟩
      · rw [if_neg (fun z => z u1), if_pos (hu.symm.trans q10)] at eS
        rw [eS]
        obtain ⟨w7a, w7b⟩ := W7 u2 u9
        have eb : brw (wk M a) (nt M (a + 7)) (smx M a) N nms p q = (nt M (a + 7) p, (p, q), []) := by
          unfold brw
          rw [if_pos (hu.symm.trans q10)]
        rw [eb]
        exact Or.inr ⟨rfl, es.symm, by rw [aI]; exact u2, by rw [f9, if_pos ⟨rfl, rfl⟩], ((rs7 u3).st (i := 29) L7 iZ0 (by omega) (by decide) (by decide) e8).st (i := 25) L8 ib1 (by omega) (by decide) (by decide) e9, br_endw hC hb7 B7 (by rw [a7]; exact u2) hZ16 w7a w7b e8 e9⟩
    · rw [wkE7] at hu
      obtain ⟨f, se⟩ : ∃ f, Se (wk M a) f (q + 1) s := by
        rcases hss with ⟨y, -⟩ | ⟨-, y⟩
        · exact absurd (hu.trans y) q10
        · exact y
      have n10 : ¬ wk M a (q + 1) = 10 := fun z => q10 (hu.trans z)
      by_cases z7 : mI M7 a 16 = 0
      · rcases qx with ⟨u1, u2⟩ | ⟨u1, u2, u3, u9⟩
        · rw [a7, u2.1] at z7; exact absurd z7 u1
        · rw [if_neg (fun z => z u1), if_neg n10] at eS
          rw [eS]
          obtain ⟨w7a, w7b⟩ := W7 u2 u9
          have eb : brw (wk M a) (nt M (a + 7)) (smx M a) N nms p q = (nt M (a + 7) p, (p, q), [] ++ sel9 (wk M a) (smx M a) N nms N (q + 1)) := by
            unfold brw
            rw [if_neg n10]
            rfl
          rw [eb]
          exact x_br_sets eγ wM hC hb7 hsN hg f N (q + 1) T3 Z2 M7 [] [] w7a w7b (by omega) B7 (rs7 u3) SNq.nil z7 se (by omega) (by omega)
      · rcases qx with ⟨u1, u2⟩ | ⟨u1, u2, u3⟩
        · rw [if_pos u1] at eS
          refine x_br_end (nms := nms) (cm := cm) (br := (0, (0, 0), [])) hC hb7 B7 (by omega) (fun y => absurd y z7) hZ16 ⟨by decide, by decide⟩ (Or.inr z7) (fun z => absurd z z7) (fun M9 i9 o9 bq aI r25 rsq _ => ⟨i9, o9, bq, Or.inl ?_⟩)
          rw [eS]
          exact ⟨u1, by rw [aI, a7]; exact u2.1, by rw [aI, a7]; exact u2.2⟩
        · rw [a7] at z7; exact absurd u2 z7
end BRX
end
section
/-! The reference's commands, exactly. -/
section CXP
variable {w pl : Nat → Int} {sm : Nat → Nat → Prop} {N k e j p q b f mc : Nat} {nms : List nm9} {s : st9}
theorem brf_s (hq : clq w (p - 1) N = q) (hpe : ¬ e ≤ p) : brf w pl sm N nms e (f + 1) p b = if (brS w pl sm N nms b p q).1.1 ≠ 0 then (brS w pl sm N nms b p q).1 else brf w pl sm N nms e f ((brS w pl sm N nms b p q).2 + 1) (b + 1) := by
  rw [brf, if_neg hpe, hq]
  unfold brS
  by_cases c : b = 8
  · rw [if_pos c, if_pos c, if_pos (by simp)]
  · rw [if_neg c, if_neg c]
    unfold bsf
    by_cases c1 : (rf9 w pl sm nms 0 0 p q).1 ≠ 0
    · rw [if_pos c1, if_pos c1, if_pos c1]
    · rw [if_neg c1, if_neg c1]
      by_cases c2 : w (q + 1) = 10
      · rw [if_pos c2, if_pos c2, if_neg (by simp)]
      · rw [if_neg c2, if_neg c2]
theorem brf_e (hpe : e ≤ p) : brf w pl sm N nms e f p b = (0, 0) := by
  cases f with
  | zero => rfl
  | succ f => rw [brf, if_pos hpe]
theorem brs_s (hq : clq w (p - 1) N = q) (hpe : ¬ e ≤ p) (h0 : (brS w pl sm N nms b p q).1.1 = 0) : brs9 w pl sm N nms e (f + 1) p = brw w pl sm N nms p q :: brs9 w pl sm N nms e f ((brS w pl sm N nms b p q).2 + 1) := by
  rw [brs9, if_neg hpe, hq]
  unfold brS at h0 ⊢
  by_cases c : b = 8
  · rw [if_pos c] at h0
    exact absurd h0 (by simp)
  · rw [if_neg c] at h0 ⊢
    unfold bsf at h0 ⊢
    by_cases c1 : (rf9 w pl sm nms 0 0 p q).1 ≠ 0
    · rw [if_pos c1] at h0
      exact absurd h0 c1
    · rw [if_neg c1]
      unfold brw
      by_cases c2 : w (q + 1) = 10
      · rw [if_pos c2, if_pos c2, if_pos c2]
      · rw [if_neg c2, if_neg c2, if_neg c2]
theorem itc_many (h : s.2.1.2.2.1 = mc) : (itc w pl sm N mc k e s).2.2 = (5, pl k) := by
  unfold itc
  simp only []
  rw [if_pos h]
theorem itc_f (h : s.2.1.2.2.1 ≠ mc) (hr : nxq w 17 N (k + 1) = j) (h3 : (fst9 (rf9 w pl sm s.1 0 1 (k + 1) j) (brf w pl sm N s.1 e N (j + 1) 0)).1 ≠ 0) : (itc w pl sm N mc k e s).2.2 = fst9 (rf9 w pl sm s.1 0 1 (k + 1) j) (brf w pl sm N s.1 e N (j + 1) 0) := by
  unfold itc
  simp only [hr]
  rw [if_neg h, if_pos h3]
theorem itc_ok (h : s.2.1.2.2.1 ≠ mc) (hr : nxq w 17 N (k + 1) = j) (h3 : (fst9 (rf9 w pl sm s.1 0 1 (k + 1) j) (brf w pl sm N s.1 e N (j + 1) 0)).1 = 0) : itc w pl sm N mc k e s = (s.1, (s.2.1.1, s.2.1.2.1, s.2.1.2.2.1 + 1, s.2.1.2.2.2), (0, 0)) := by
  unfold itc
  simp only [hr]
  rw [if_neg h, if_neg (fun z => z h3)]
end CXP
section CXA
variable {G : mG} {d a g R W C T Z T2 Z2 N K : Nat} {M M2 M3 : mM} {E : Eg9} {tg : Int} {s s' : st9}
/-- a cell of the game's own is set: the names stay -/
theorem RSq.own {i : Nat} {v : Int} {nms : List nm9} (rs : RSq M2 a g K nms) (L2 : Lc M2 a g N T2 K) (hv : i32 v) (e : M3 = mUI M2 g i v) : RSq M3 a g K nms := by
  have hg := L2.2.2.2.2.2.1
  have w2 := L2.2.1.1.1
  have a0 := goff0 hg
  obtain ⟨m1, f1, l1⟩ := mv_cell hv L2.1 w2 (show a ≤ g by omega) ⟨a0.1, a0.2.1, a0.2.2.1⟩ e
  have no : ∀ q : Nat, False → q ∈ nums a := fun _ z => z.elim
  have aI1 := (m1.fld w2 no (by omega)).1
  have sx1 : SXq M2 a M3 := (iF.mk (g := g) w2 m1 (fun _ z => z.elim) (fun x z => Or.inr (Or.inl (by omega))) (fun i _ _ _ => by rw [aI1])).sx w2 hg
  refine rs.eq ((lst3.of m1 (fun _ _ z => z)).q K) ?_ ⟨by rw [l1], by rw [l1]⟩ sx1
  funext u
  unfold tn
  rw [show mI M3 (g + 18) = mI M2 (g + 18) from funext (fun x => by rw [f1, if_neg (fun z => by omega)]), show mI M3 (g + 14) = mI M2 (g + 14) from funext (fun x => by rw [f1, if_neg (fun z => by omega)])]
theorem x_ci_end0 {gm : gm9} {cm : cm9} {e : Nat} (eγ : E.2 = txg M a N s.1 gm) (h0 : Df M a g N T K R W C Z E tg) (hC : C < 60) (h : cI M a g N K R W C E tg T2 Z2 M2) (hc : mI M2 a 16 = 0 → Cc M2 g R W T2 E.1 Z2 C ∧ T2 ≤ e ∧ Z2 ≤ e ∧ RCw E.2 M2 g R W T2 E.1 Z2 C cm) (rs : mI M2 a 16 = 0 → RSq M2 a g K s.1) (flt : mI M2 a 16 ≠ 0 → s'.2.2.1 ≠ 0 ∧ fpw M2 a s'.2.2) (good : mI M2 a 16 = 0 → s' = (s.1, (W, R, C + 1, if tg = -1 then 0 else 1), (0, 0))) (e3 : M3 = mUI M2 g 18 ((C : Int) + 1)) : mOk M3 ∧ itX M a g N e s' (gm.1, gm.2.1, gm.2.2 ++ [cm]) M3 := by
  obtain ⟨hL, ⟨g6, g12, g18, g17⟩, -, hK, hD⟩ := h0
  have wM := hL.2.1.1.1
  obtain ⟨L2, I2, ⟨g2, q6, q12⟩, ⟨z30, z32, z34⟩, D2⟩ := h
  have hg := L2.2.2.2.2.2.1
  have hB := L2.2.2.2.2.2.2.1
  have w2 := L2.2.1.1.1
  have a0 := goff0 hg
  obtain ⟨m1, f1, l1⟩ := mv_cell (v := (C : Int) + 1) (i32s (by omega) (by omega)) L2.1 w2 (show a ≤ g by omega) ⟨a0.1, a0.2.1, a0.2.2.1⟩ e3
  have no : ∀ q : Nat, False → q ∈ nums a := fun _ z => z.elim
  have aI1 := (m1.fld w2 no (by omega)).1
  have n18 : ∀ i, i ≠ 18 → mI M3 g i = mI M2 g i := fun i hi => by rw [f1, if_neg (fun z => hi z.2)]
  have x18 : mI M3 g 18 = (C : Int) + 1 := by rw [f1, if_pos ⟨rfl, rfl⟩]
  have L3 : Lc M3 a g N T2 K := L2.mv m1 no (fun _ z => z.elim) (by rw [n18 6 (by omega)]; omega) (by rw [n18 12 (by omega)]; omega) (by rw [n18 6 (by omega), n18 12 (by omega)]; omega) (fun r _ => by rw [f1, if_neg (fun z => by omega)])
  have ss : ∀ {q}, q ∈ nums a → sameN M2 M3 q := fun hq => m1.lst hq (fun z => z)
  have I3 : iF M a g M3 := I2.trans (iF.mk w2 m1 (fun _ z => z.elim) (fun x z => Or.inr (Or.inl (by omega))) (fun i _ _ _ => by rw [aI1]))
  refine ⟨m1.1, I3, ?_⟩
  by_cases z : mI M3 a 16 = 0
  · have z2 : mI M2 a 16 = 0 := by rw [← aI1]; exact z
    obtain ⟨c1, c2, c3, c9⟩ := hc z2
    have G3 : Ge M2 g R W (C + 1) Z2 T2 M3 := ge_mv w2 hg m1 no (fun z => z) (fun z => z) (fun z => z) (fun i i1 i2 (z : g + i = g) => by omega) (fun n _ => ⟨(ss (tL_in (q := g + 1) hg (tLk1 g))).2.1 n, (ss (tL_in (q := g + 7) hg (tLk7 g))).2.1 n, (ss (tL_in (q := g + 9) hg (tLk9 g))).2.1 n, (ss (tL_in (q := g + 11) hg (tLk11 g))).2.1 n, (ss (tL_in (q := g + 3) hg (tLk3 g))).2.1 n⟩)
    have u1 := good z2
    exact Or.inr ⟨by rw [u1], z, T2, K, R, W, C + 1, Z2, (E.1, gWs E.2 E.2.2.2.2.2.2.1 (E.2.2.2.2.2.2.2.1, E.2.2.2.2.2.2.2.2.1, E.2.2.2.2.2.2.2.2.2 ++ [cm])), tg, ⟨L3, ⟨by rw [n18 6 (by omega)]; exact q6, by rw [n18 12 (by omega)]; exact q12, by rw [x18]; omega, by rw [n18 17 (by omega), g2]; exact g17⟩, ⟨by rw [(ss (n30 hg)).1]; exact z30, by rw [(ss (n32 hg)).1]; exact z32, by rw [(ss (n34 hg)).1]; exact z34⟩, hK, ((D2 z2).cu (E' := (E.1, gWs E.2 E.2.2.2.2.2.2.1 (E.2.2.2.2.2.2.2.1, E.2.2.2.2.2.2.2.2.1, E.2.2.2.2.2.2.2.2.2 ++ [cm]))) hC rfl ((D2 z2).2.2.2.2.2.2.2.cu c9) c1).ge G3⟩, ⟨c2, c3⟩, by rw [u1]; exact (rs z2).own L2 (i32s (by omega) (by omega)) e3, by rw [u1], by rw [u1, (I3.sx wM hg).tx9]; show gWs E.2 _ _ = _; rw [eγ]; rfl⟩
  · obtain ⟨u1, u2⟩ := flt (by rw [← aI1]; exact z)
    exact Or.inl ⟨u1, by rw [aI1]; exact u2.1, by rw [aI1]; exact u2.2⟩
theorem x_ci_end {gm : gm9} {cm : cm9} {e : Nat} {p : Int} (eγ : E.2 = txg M a N s.1 gm) (h0 : Df M a g N T K R W C Z E tg) (hC : C < 60) (h : cI M a g N K R W C E tg T2 Z2 M2) (heN : e < N) (hc : mI M2 a 16 = 0 → Cc M2 g R W T2 E.1 Z2 C ∧ T2 ≤ e + 1 ∧ Z2 ≤ e + 1 ∧ RCw E.2 M2 g R W T2 E.1 Z2 C cm) (rs : mI M2 a 16 = 0 → RSq M2 a g K s.1) (flt : mI M2 a 16 ≠ 0 → s'.2.2.1 ≠ 0 ∧ fpw M2 a s'.2.2) (good : mI M2 a 16 = 0 → s' = (s.1, (W, R, C + 1, if tg = -1 then 0 else 1), (0, 0))) (ip : i32 p) (hp : ¬ (mI M2 a 16 = 0) ∨ (e : Int) ≤ p) : h_MM_commandItem_116 G (d + 9) a e C p M2 (fun M' => mOk M' ∧ itX M a g N (e + 1) s' (gm.1, gm.2.1, gm.2.2 ++ [cm]) M') := by
  have L2 := h.1
  have hN := L2.2.1.1.2.2
  have hg := L2.2.2.2.2.2.1
  have w2 := L2.2.1.1.1
  refine k_MM_commandItem_116 L2.1 (i32s (by omega) (by omega)) (i32s (by omega) (by omega)) ip ⟨w2.1.1, fun _ => ?_, fun q => absurd hp q⟩
  rw [show mR M2 a 10 = g from L2.2.2.2.2.1]
  exact ⟨(w2.gp hg).1, i32s (by omega) (by omega), fun M3 e3 => x_ci_end0 eγ h0 hC h hc rs flt good e3⟩
theorem x_ci_run {gm : gm9} {e : Nat} (eγ : E.2 = txg M a N s.1 gm) (h0 : Df M a g N T K R W C Z E tg) (hC : C < 60) (heN : e < N) (hg : g = a + 13 ∨ g = a + 49) : ∀ (f f' p b T2 Z2 : Nat) (M2 : mM) (cm : cm9), RCw E.2 M2 g R W T2 E.1 Z2 C cm → 1 ≤ p → e < p + f' → cI M a g N K R W C E tg T2 Z2 M2 → RSq M2 a g K s.1 → mI M2 a 16 = 0 → Cc M2 g R W T2 E.1 Z2 C → mI M2 (g + 25) C = (b : Int) → Br (wk M a) f p e → T2 ≤ p → Z2 ≤ p → ((brf (wk M a) (nt M (a + 7)) (smx M a) N s.1 e f' p b).1 ≠ 0 → s'.2.2 = brf (wk M a) (nt M (a + 7)) (smx M a) N s.1 e f' p b) → ((brf (wk M a) (nt M (a + 7)) (smx M a) N s.1 e f' p b).1 = 0 → s' = (s.1, (W, R, C + 1, if tg = -1 then 0 else 1), (0, 0))) → h_MM_commandItem_116 G (d + 9) a e C p M2 (fun M' => mOk M' ∧ itX M a g N (e + 1) s' (gm.1, gm.2.1, gm.2.2 ++ [(cm.1, cm.2.1, cm.2.2.1, cm.2.2.2 ++ brs9 (wk M a) (nt M (a + 7)) (smx M a) N s.1 e f' p)]) M') := by
  have wM := h0.1.2.1.1.1
  intro f
  induction f with
  | zero => intro f' p b T2 Z2 M2 cm _ _ _ _ _ _ _ _ hb; exact hb.elim
  | succ f ih =>
    intro f' p b T2 Z2 M2 cm hw hp1 hf' h rs z2 hcc hb hbr hT hZ fr gd
    have L2 := h.1
    have hN := L2.2.1.1.2.2
    have w2 := L2.2.1.1.1
    obtain ⟨q, s9, h1, h2, h3, h4⟩ := hbr
    have p1 := h1.pr.1
    have p3 := h3.sg.1
    have hse : s9 ≤ e := by
      rcases h4 with ⟨y, -⟩ | ⟨-, y⟩
      · omega
      · have := y.sg.1; omega
    obtain ⟨f', rfl⟩ : ∃ f2, f' = f2 + 1 := ⟨f' - 1, by omega⟩
    have eq : clq (wk M a) (p - 1) N = q := clq_eo (by rw [show p - 1 + 1 = p by omega]; exact h1.six (by omega)) h2 (by omega)
    rw [brf_s eq (by omega)] at fr gd
    have eB := fun z => brs_s (pl := nt M (a + 7)) (sm := smx M a) (nms := s.1) (b := b) (f := f') (e := e) eq (show ¬ e ≤ p by omega) z
    generalize brs9 (wk M a) (nt M (a + 7)) (smx M a) N s.1 e (f' + 1) p = BL at eB ⊢
    refine k_MM_commandItem_116 L2.1 (i32s (by omega) (by omega)) (i32s (by omega) (by omega)) (i32s (by omega) (by omega)) ⟨w2.1.1, fun q => ?_, fun _ => ?_⟩
    · rcases q with q | q
      · exact absurd z2 q
      · omega
    refine (x_MM_branch0 (d := d) eγ hw wM h rs z2 hcc hb hC h1 h2 h3 (by omega) heN hT hZ).mono (fun x M3 t3 => ?_)
    obtain ⟨ix, o3, ⟨hx, T3, Z3, c3, k3⟩, sx⟩ := t3
    refine ⟨ix, o3, ?_⟩
    generalize brS (wk M a) (nt M (a + 7)) (smx M a) N s.1 b p q = S at fr gd sx eB
    rcases sx with ⟨u1, u2⟩ | ⟨u1, u2, u3, u4, u5, u9⟩
    · have z3 : mI M3 a 16 ≠ 0 := by rw [u2.1]; exact u1
      rw [if_pos u1] at fr
      have fr := fr u1
      exact x_ci_end (s := s) eγ h0 hC c3 heN (fun y => absurd y z3) (fun y => absurd y z3) (fun _ => by rw [fr]; exact ⟨u1, u2⟩) (fun y => absurd y z3) (i32s (by omega) (by omega)) (Or.inl z3)
    · obtain ⟨ex, t1, t2, cc⟩ := k3 u3
      subst ex
      rw [if_neg (fun z => z u1), u2] at fr gd
      rw [show (s9 : Int) + 1 = ((s9 + 1 : Nat) : Int) by omega]
      have w9 := u9 T3 Z3 c3
      have eB := eB u1
      rw [u2] at eB
      subst eB
      rcases h4 with ⟨y, -⟩ | ⟨-, y⟩
      · rw [brs_e (by omega)]
        exact x_ci_end eγ h0 hC c3 heN (fun _ => ⟨cc, by omega, by omega, w9⟩) (fun _ => u5) (fun z => absurd u3 z) (fun _ => gd (by rw [brf_e (by omega)])) (i32s (by omega) (by omega)) (Or.inr (by omega))
      · have key := ih f' (s9 + 1) (b + 1) T3 Z3 M3 _ w9 (by omega) (by omega) c3 u5 u3 cc (by rw [u4]; omega) y (by omega) (by omega) fr gd
        have el : (cmA cm (brw (wk M a) (nt M (a + 7)) (smx M a) N s.1 p q)).2.2.2 ++ brs9 (wk M a) (nt M (a + 7)) (smx M a) N s.1 e f' (s9 + 1) = cm.2.2.2 ++ brw (wk M a) (nt M (a + 7)) (smx M a) N s.1 p q :: brs9 (wk M a) (nt M (a + 7)) (smx M a) N s.1 e f' (s9 + 1) := by
          show (cm.2.2.2 ++ [_]) ++ _ = _
          rw [List.append_assoc]
          rfl
        rw [el] at key
        exact key
theorem x_MM_commandItem {gm : gm9} {k e j f : Nat} (eγ : E.2 = txg M a N s.1 gm) (h78 : wk M a k = 7 ∨ wk M a k = 8) (h : Df M a g N T K R W C Z E tg) (hS : RSq M a g K s.1) (hst : s.2.1 = (W, R, C, if tg = -1 then 0 else 1)) (h16 : mI M a 16 = 0) (he6 : Eo (wk M a) 6 (k + 1) j) (w17 : wk M a j = 17) (hbr : Br (wk M a) f (j + 1) e) (heN : e < N) (hT : T ≤ k) (hZ : Z ≤ k) : Cv G y_MM_commandItem (d + 10) [vr a, vi k, vi e] M (fun M' => mOk M' ∧ itX M a g N (e + 1) (itc (wk M a) (nt M (a + 7)) (smx M a) N 60 k e s) (gm.1, gm.2.1, gm.2.2 ++ [cmd9 (wk M a) (nt M (a + 7)) (smx M a) N s.1 k e]) M') := by
  generalize es : itc (wk M a) (nt M (a + 7)) (smx M a) N 60 k e s = s'
  have hL := h.1
  have hN := hL.2.1.1.2.2
  have hg := hL.2.2.2.2.2.1
  have w := hL.2.1.1.1
  have g18 := h.2.1.2.2.1
  have hBd := h.2.2.2.2.1
  have hlt := he6.pr.1
  have hbs := hbr.sg.1
  have ie : i32 (e : Int) := i32s (by omega) (by omega)
  have ik : i32 (k : Int) := i32s (by omega) (by omega)
  have kN : k < N := by omega
  have jN : j < N := by omega
  refine k_MM_commandItem hL.1 ik ie ⟨w.1.1, ?_⟩
  rw [show mR M a 10 = g from hL.2.2.2.2.1, g18, show (k : Int) + 1 = ((k + 1 : Nat) : Int) by omega]
  refine ⟨(w.gp hg).1, fun q => x_st_it (d := d + 8) (c := 5) (by decide) ⟨by decide, by decide⟩ hL kN (by rw [← es]; exact itc_many (by rw [hst]; show C = 60; omega)), fun q => ?_⟩
  have hC : C < 60 := by omega
  have n60 : s.2.1.2.2.1 ≠ 60 := by rw [hst]; show C ≠ 60; omega
  have har : nxq (wk M a) 17 N (k + 1) = j := nxq_at (by omega) (by omega) w17 (fun m m1 m2 => by
    have := rwd_all he6 m1 m2
    unfold rwd at this
    omega)
  have e1 := fun z => (itc_f (mc := 60) n60 har z).symm.trans (by rw [es])
  have e2 := fun z => es.symm.trans (itc_ok (mc := 60) n60 har z)
  rw [hst] at e2
  have b60 : ((0 : Int) ≤ (C : Int) ∧ (C : Int) < ((60 : Nat) : Int)) := by omega
  have hT3 : T + (j - (k + 1)) ≤ 30000 := by omega
  refine hL.ub (d := d + 7) (by omega) he6.pr.2.2.2.2.1 jN w17 (Or.inr (Or.inl rfl)) ⟨i32s (by omega) (by omega), hL.1, w.1.1, ?_⟩
  rw [show mR M a 10 = g from hL.2.2.2.2.1, show mR M g 19 = g + 22 from (w.gp hg).2.2.1.2.2.2.2.1]
  refine ⟨(w.gp hg).1, hL.wd (d := d + 8) kN (fun x hx ix => ⟨ix, hL.1, fun v hv => ⟨(w.gp hg).2.2.2.2.2.1.1, by rw [(w.gp hg).2.2.2.2.2.1.2]; exact b60, fun M2 e2' => ?_⟩⟩)⟩
  rw [Int.toNat_natCast] at e2' ⊢
  have iv : i32 v := by rw [hv]; split <;> exact ⟨by decide, by decide⟩
  obtain ⟨c2, f2, a2, G2⟩ := h.ci.st (i := 22) iv (by omega) (by omega) (by decide) (by decide) e2'
  have L2 := c2.1
  have w2 := L2.2.1.1.1
  rw [show mR M2 a 10 = g from L2.2.2.2.2.1, show mR M2 g 20 = g + 23 from (w2.gp hg).2.2.1.2.2.2.2.2.1]
  refine ⟨w2.1.1, (w2.gp hg).1, (s_MM_place0 (d := d + 8) L2.1 L2.2.1 kN).mono (fun y M3 h3 => ?_)⟩
  obtain ⟨e3, hy⟩ := h3
  subst e3
  have hy32 : i32 y := by rw [hy]; exact (L2.1 _ _).1
  refine ⟨hy32, L2.1, (w2.gp hg).2.2.2.2.2.2.1.1, by rw [(w2.gp hg).2.2.2.2.2.2.1.2]; exact b60, fun M4 e4 => ?_⟩
  obtain ⟨c4, f4, a4, G4⟩ := c2.st (i := 23) hy32 (by omega) (by omega) (by decide) (by decide) e4
  have L4 := c4.1
  have w4 := L4.2.1.1.1
  have wkE := c4.2.1.wk hg
  have z4 : mI M4 a 16 = 0 := by rw [a4, a2]; exact h16
  have rs4 : RSq M4 a g K s.1 := (hS.st (i := 22) hL iv (by omega) (by decide) (by decide) e2').st (i := 23) L2 hy32 (by omega) (by decide) (by decide) e4
  rw [show mR M4 a 10 = g from L4.2.2.2.2.1, show mR M4 g 21 = g + 24 from (w4.gp hg).2.2.1.2.2.2.2.2.2.1]
  refine ⟨w4.1.1, (w4.gp hg).1, (x_crule (d := d + 2) eγ c4 rs4 z4 w (Or.inr rfl) hT3 he6 jN).mono (fun x5 M5 q5 => ?_)⟩
  obtain ⟨ex, T5, t1, t2, Rl, hp, qx⟩ := q5
  subst ex
  obtain ⟨c5, G5⟩ := c4.rl z4 (Nat.le_of_lt t1) Rl hp
  have L5 := c5.1
  have w5 := L5.2.1.1.1
  have iT : i32 (T : Int) := i32s (by omega) (by omega)
  refine ⟨iT, L5.1, (w5.gp hg).2.2.2.2.2.2.2.1.1, by rw [(w5.gp hg).2.2.2.2.2.2.2.1.2]; exact b60, fun M6 e6 => ?_⟩
  obtain ⟨c6, f6, a6, G6⟩ := c5.st (i := 24) iT (by omega) (by omega) (by decide) (by decide) e6
  have L6 := c6.1
  have w6 := L6.2.1.1.1
  rw [show mR M6 a 10 = g from L6.2.2.2.2.1, show mR M6 g 22 = g + 25 from (w6.gp hg).2.2.1.2.2.2.2.2.2.2.1]
  refine ⟨w6.1.1, (w6.gp hg).1, (w6.gp hg).2.2.2.2.2.2.2.2.1.1, by rw [(w6.gp hg).2.2.2.2.2.2.2.2.1.2]; exact b60, fun M7 e7 => ?_⟩
  obtain ⟨c7, f7, a7, G7⟩ := c6.st (i := 25) ⟨by decide, by decide⟩ (by omega) (by omega) (by decide) (by decide) e7
  have aI7 : mI M7 a = mI M5 a := by rw [a7, a6]
  have a75 : mI M7 a 16 = mI M5 a 16 := by rw [a7, a6]
  have rs7 : RSq M5 a g K s.1 → RSq M7 a g K s.1 := fun r5 => (r5.st (i := 24) L5 iT (by omega) (by decide) (by decide) e6).st (i := 25) L6 ⟨by decide, by decide⟩ (by omega) (by decide) (by decide) e7
  rw [show (j : Int) + 1 = ((j + 1 : Nat) : Int) by omega]
  by_cases z7 : mI M7 a 16 = 0
  · have z5 : mI M5 a 16 = 0 := by rw [← a75]; exact z7
    have r24 : mI M7 (g + 24) C = (T : Int) := by rw [f7, if_neg (fun z => by omega), f6, if_pos ⟨rfl, rfl⟩]
    have r25 : mI M7 (g + 25) C = 0 := by rw [f7, if_pos ⟨rfl, rfl⟩]
    have D4 := c4.2.2.2.2 z4
    have rt := ((rl_rt L4 c4.2.2.1.2.1 c4.2.2.1.2.2 D4 Rl z5 (hp z5)).gn G6 D4.1.1).gn G7 D4.1.1
    obtain ⟨u1, -, u3, u9⟩ : (rf9 (wk M a) (nt M (a + 7)) (smx M a) s.1 0 1 (k + 1) j).1 = 0 ∧ mI M5 a 16 = 0 ∧ RSq M5 a g K s.1 ∧ Rtw E.2 M5 g R W T5 E.1 (T : Int) 1 (k + 1) j := by
      rcases qx with ⟨y1, y2⟩ | y
      · rw [y2.1] at z5; exact absurd z5 y1
      · exact y
    rw [fst9_r u1] at e1 e2
    have hin : ∀ q, rlP a g q → q ∈ nums a := fun q hq => rlP_in hg hq
    have cell : ∀ i, i ≤ 29 → frO (13 + i) → frO (49 + i) → mI M5 (g + i) = mI M4 (g + i) := fun i i1 o1 o2 => (Rl.1.cellL w4 hin (goffx hg o1 o2) (by omega)).1
    have r22 : mI M7 (g + 22) C = v := by rw [f7, if_neg (fun z => by omega), f6, if_neg (fun z => by omega), cell 22 (by omega) (by decide) (by decide), f4, if_neg (fun z => by omega), f2, if_pos ⟨rfl, rfl⟩]
    have r23 : mI M7 (g + 23) C = nt M (a + 7) k := by rw [f7, if_neg (fun z => by omega), f6, if_neg (fun z => by omega), cell 23 (by omega) (by decide) (by decide), f4, if_pos ⟨rfl, rfl⟩, hy, (c2.2.1.sx w hg).2.1]
    have w0 : RCw E.2 M7 g R W T5 E.1 Z C ((if wk M a k = 7 then 1 else 2), nt M (a + 7) k, (k + 1, j), []) := by
      unfold RCw
      rw [r22, r23, r24, r25]
      refine ⟨?_, rfl, (u9.gn G6 D4.1.1).gn G7 D4.1.1, ⟨rfl, by show (0 : Nat) ≤ 8; omega⟩, fun b x hb => absurd (show ([] : List br9)[b]? = some x from hb) (by simp)⟩
      rcases h78 with y7 | y7
      · refine Or.inl ⟨if_pos y7, ?_⟩
        rw [hv, if_neg (by omega)]
      · refine Or.inr ⟨if_neg (by omega), ?_⟩
        rw [hv, if_pos (by omega)]
        decide
    have ec : cmd9 (wk M a) (nt M (a + 7)) (smx M a) N s.1 k e = ((if wk M a k = 7 then 1 else 2), nt M (a + 7) k, (k + 1, j), [] ++ brs9 (wk M a) (nt M (a + 7)) (smx M a) N s.1 e N (j + 1)) := by
      unfold cmd9
      rw [har]
      rfl
    rw [ec]
    refine x_ci_run eγ h hC heN hg f N (j + 1) 0 T5 Z M7 _ w0 (by omega) (by omega) c7 (rs7 u3) z7 ?_ r25 hbr (by omega) (by omega) (fun z => (e1 z).symm) e2
    unfold Cc
    rw [r24, r25]
    exact ⟨rt, by decide, by decide, fun b hb => absurd hb (by omega)⟩
  · refine x_ci_end (s := s) eγ h hC c7 heN (fun y => absurd y z7) (fun y => absurd y z7) (fun _ => ?_) (fun y => absurd y z7) (i32s (by omega) (by omega)) (Or.inl z7)
    rcases qx with ⟨y1, y2⟩ | ⟨-, y, -, -⟩
    · rw [fst9_l y1] at e1
      rw [← e1 y1]
      exact ⟨y1, by rw [aI7]; exact y2.1, by rw [aI7]; exact y2.2⟩
    · rw [a75] at z7; exact absurd y z7
end CXA
end
section
/-! The reference's items, exactly. -/
section IXP
variable {w pl nq : Nat → Int} {sm : Nat → Nat → Prop} {N k e mc f : Nat} {s : st9}
theorem its_x (h : s.2.2.1 ≠ 0) : its9 w pl nq sm N mc f k s = s := by
  cases f with
  | zero => rfl
  | succ f => rw [its9, if_pos h]
theorem its_end (h : s.2.2.1 = 0) (hw : w k = 0) : its9 w pl nq sm N mc (f + 1) k s = if s.2.1.2.2.2 = 0 then (s.1, s.2.1, (10, pl k)) else s := by
  rw [its9, if_neg (fun z => z h), if_pos hw]
theorem its_s (h : s.2.2.1 = 0) (hw : w k ≠ 0) (he : nxq w 34 N k = e) : its9 w pl nq sm N mc (f + 1) k s = its9 w pl nq sm N mc f (e + 1) (if w k = 3 ∨ w k = 6 then itr w pl nq sm k e s else if w k = 4 then itv w pl nq sm N k e s else if w k = 11 then itt w pl sm k e s else itc w pl sm N mc k e s) := by
  rw [its9, if_neg (fun z => z h), if_neg hw, he]
  unfold ite9
  simp only [he]
theorem igs_end {g9 : gm9} (h : s.2.2.1 = 0) (hw : w k = 0) : igs9 w pl nq sm N mc (f + 1) k s g9 = g9 := by
  rw [igs9, if_neg (fun z => z h), if_pos hw]
theorem igs_s {g9 : gm9} {s9 : st9} (h : s.2.2.1 = 0) (hw : w k ≠ 0) (he : nxq w 34 N k = e) (hs : (if w k = 3 ∨ w k = 6 then itr w pl nq sm k e s else if w k = 4 then itv w pl nq sm N k e s else if w k = 11 then itt w pl sm k e s else itc w pl sm N mc k e s) = s9) (h0 : s9.2.2.1 = 0) : igs9 w pl nq sm N mc (f + 1) k s g9 = igs9 w pl nq sm N mc f (e + 1) s9 (igm9 w pl nq sm N s.1 k g9) := by
  have es : ite9 w pl nq sm N mc k s = s9 := by
    unfold ite9
    simp only [he]
    exact hs
  rw [igs9, if_neg (fun z => z h), if_neg hw, he, es, if_neg (fun z => z h0)]
theorem itt_2 (h : s.2.1.2.2.2 ≠ 0) : (itt w pl sm k e s).2.2 = (4, pl k) := by
  unfold itt
  simp only []
  rw [if_pos h]
theorem itt_f (h : s.2.1.2.2.2 = 0) (h3 : (rf9 w pl sm s.1 0 1 (k + 1) e).1 ≠ 0) : (itt w pl sm k e s).2.2 = rf9 w pl sm s.1 0 1 (k + 1) e := by
  unfold itt
  simp only []
  rw [if_neg (fun z => z h), if_pos h3]
theorem itt_ok (h : s.2.1.2.2.2 = 0) (h3 : (rf9 w pl sm s.1 0 1 (k + 1) e).1 = 0) : itt w pl sm k e s = (s.1, (s.2.1.1, s.2.1.2.1, s.2.1.2.2.1, 1), (0, 0)) := by
  unfold itt
  simp only []
  rw [if_neg (fun z => z h), if_neg (fun z => z h3)]
end IXP
section IXA
variable {G : mG} {d a g R W C T Z T2 T3 N K : Nat} {M M2 M3 : mM} {E : Eg9} {tg : Int} {s s' sF : st9} {gF : gm9}
/-- all items have been read, exactly -/
def itmX (M : mM) (a g N : Nat) (sF : st9) (gF : gm9) (M' : mM) : Prop := iF M a g M' ∧ ((sF.2.2.1 ≠ 0 ∧ fpw M' a sF.2.2) ∨ (sF.2.2.1 = 0 ∧ mI M' a 16 = 0 ∧ ∃ (T K R W C Z : Nat) (E : Eg9) (tg : Int), Df M' a g N T K R W C Z E tg ∧ T < N ∧ Z < N ∧ 0 ≤ tg ∧ RSq M' a g K sF.1 ∧ sF.2.1 = (W, R, C, 1) ∧ E.2 = txg M' a N sF.1 gF))
theorem x_it_x {k : Int} (ik : i32 k) (w2 : Wd M2 a) (o2 : mOk M2) (hI : iF M a g M2) (z : mI M2 a 16 ≠ 0) (fl : sF.2.2.1 ≠ 0 ∧ fpw M2 a sF.2.2) : h_MM_items0_38 G (d + 10) a k M2 (fun M' => mOk M' ∧ itmX M a g N sF gF M') :=
  k_MM_items0_38 o2 ik ⟨w2.1.1, fun y => absurd y z, fun _ => ⟨fun y => absurd y z, fun _ => k_MM_items0_218 o2 ⟨o2, hI, Or.inl fl⟩, fun y => absurd (Or.inl z) y⟩⟩
theorem x_it_run (wM : Wd M a) (hN : N ≤ 16385) (hg : g = a + 13 ∨ g = a + 49) : ∀ (f f' k : Nat) (M2 : mM) (s : st9) (gm : gm9), N ≤ k + f' → Ac (wk M a) N f [50] k → iF M a g M2 → mI M2 a 16 = 0 → s.2.2.1 = 0 → DfS M2 a g N k s gm → sF = its9 (wk M a) (nt M (a + 7)) (nuq M a) (smx M a) N 60 f' k s → (sF.2.2.1 = 0 → gF = igs9 (wk M a) (nt M (a + 7)) (nuq M a) (smx M a) N 60 f' k s gm) → h_MM_items0_38 G (d + 10) a k M2 (fun M' => mOk M' ∧ itmX M a g N sF gF M') := by
  intro f
  induction f using Nat.strongRecOn with
  | ind f ih =>
    intro f' k M2 s gm hf' hac hI z2 hs0 hDf eF eG
    obtain ⟨T, K, R, W, C, Z, E, tg, h, ⟨hT, hZ⟩, hS, hst, eγ⟩ := hDf
    have sx2 := hI.sx wM hg
    have tgz : tg = -1 ∨ 0 ≤ tg := by
      rcases h.2.2.2.2.2.2.2.2.2.2.1 with y | ⟨n', -, -, -, y, -⟩
      · exact Or.inl y
      · exact Or.inr (by omega)
    have hL := h.1
    have w2 := hL.2.1.1.1
    have wkE := hI.wk hg
    have hkN := ac_le hac
    have h17 := h.2.1.2.2.2
    have ik : i32 (k : Int) := i32s (by omega) (by omega)
    -- after an item
    have nxt : ∀ (e g' f2 : Nat) (M3 : mM) (s' : st9) (g9 : gm9), N ≤ e + 1 + f2 → g' < f → e < N → Ac (wk M a) N g' [50] (e + 1) → sF = its9 (wk M a) (nt M (a + 7)) (nuq M a) (smx M a) N 60 f2 (e + 1) s' → (s'.2.2.1 = 0 → sF.2.2.1 = 0 → gF = igs9 (wk M a) (nt M (a + 7)) (nuq M a) (smx M a) N 60 f2 (e + 1) s' g9) → itX M2 a g N (e + 1) s' g9 M3 → h_MM_items0_183 G (d + 10) a e M3 (fun M' => mOk M' ∧ itmX M a g N sF gF M') := fun e g' f2 M3 s' g9 hf2 hg' he hac' eF eG hq => by
      obtain ⟨I3, hq⟩ := hq
      have I03 := hI.trans I3
      refine k_MM_items0_183 I3.1.1 (i32s (by omega) (by omega)) ?_
      rw [show (e : Int) + 1 = ((e + 1 : Nat) : Int) by omega]
      rcases hq with ⟨y, yf⟩ | ⟨y0, y1, y2⟩
      · rw [its_x y] at eF
        exact x_it_x (i32s (by omega) (by omega)) I3.1.2.1 I3.1.1 I03 (by rw [yf.1]; exact y) (by rw [eF]; exact ⟨y, yf⟩)
      · exact ih g' hg' f2 (e + 1) M3 s' g9 hf2 hac' I03 y1 y0 y2 eF (eG y0)
    rcases ac_item hac with ⟨c0, c1⟩ | ⟨c0, e, g', hg', hit, hac'⟩
    · have kN : k < N := by omega
      obtain ⟨f', rfl⟩ : ∃ f2, f' = f2 + 1 := ⟨f' - 1, by omega⟩
      rw [its_end hs0 c0, hst] at eF
      simp only [] at eF
      refine k_MM_items0_38 hL.1 ik ⟨w2.1.1, fun _ => hL.wd (d := d + 9) kN (fun x hx ix => ⟨ix, hL.1, fun _ => ⟨w2.1.1, ?_⟩, fun q => absurd (hx.trans (by rw [wkE]; exact c0)) q⟩), fun y => absurd z2 y⟩
      rw [show mR M2 a 10 = g from hL.2.2.2.2.1, h17]
      refine ⟨fun _ => (w2.gp hg).1, fun q => k_MM_items0_218 hL.1 ⟨hL.1, hI, Or.inr ?_⟩, fun q => ?_⟩
      · have tg0 : 0 ≤ tg := by
          rcases q with q | q
          · exact absurd z2 q
          · exact q
        have n1 : ¬ tg = -1 := by omega
        rw [if_neg n1, if_neg (by decide)] at eF
        have eG := eG (by rw [eF]; exact hs0)
        rw [igs_end hs0 c0] at eG
        rw [eF]
        exact ⟨hs0, z2, T, K, R, W, C, Z, E, tg, h, by omega, by omega, tg0, hS, by rw [hst, if_neg n1], by rw [eG]; exact eγ⟩
      · have t1 : tg = -1 := by
          rcases tgz with y | y
          · exact y
          · exact absurd (Or.inr y) q
        rw [if_pos t1, if_pos rfl] at eF
        refine (s_MM_place0 (d := d + 9) hL.1 hL.2.1 kN).mono (fun y M5 h5 => ?_)
        obtain ⟨e5, hy⟩ := h5
        subst e5
        have hy32 : i32 y := by rw [hy]; exact (hL.1 _ _).1
        refine ⟨hy32, hL.1, w2.1.1, (s_MM_stop ⟨by decide, by decide⟩ hy32 hL.1 w2).mono (fun M6 h6 => ⟨h6.1.1, k_MM_items0_218 h6.1.1 ⟨h6.1.1, hI.trans (iF.mk w2 h6.1 (fun _ z => z.elim) (fun x z => Or.inl z) (fun i i1 i2 _ => h6.2.2.2 i i1 i2)), Or.inl (by rw [eF]; exact ⟨by simp, h6.2.1, by rw [h6.2.2.1, hy, sx2.2.1]⟩)⟩⟩)⟩
    · have he1 := ac_le hac'
      have hke := hit.2.1
      have kN : k < N := by omega
      have eN : e < N := by omega
      refine k_MM_items0_38 hL.1 ik ⟨w2.1.1, fun _ => hL.wd (d := d + 9) kN (fun x hx ix => ⟨ix, hL.1, fun q => ?_, fun _ => ⟨w2.1.1, ?_⟩⟩), fun y => absurd z2 y⟩
      · rw [wkE] at hx
        exact absurd (hx.symm.trans q) c0
      have hit2 : It (wk M2 a) k e := by rw [wkE]; exact hit
      obtain ⟨f', rfl⟩ : ∃ f2, f' = f2 + 1 := ⟨f' - 1, by omega⟩
      have en : nxq (wk M a) 34 N k = e := nxq_at (by omega) (by omega) hit.1 (fun m m1 m2 => hit.sg.2.2.2 m m1 m2)
      rw [its_s hs0 c0 en] at eF
      have en1 : nxq (wk M a) 34 N (k + 1) = e := nxq_at (by omega) (by omega) hit.1 (fun m m1 m2 => hit.sg.2.2.2 m (by omega) m2)
      have eG := fun (s9 : st9) hs h0 hF => (eG hF).trans (igs_s (g9 := gm) (s9 := s9) (f := f') hs0 c0 en hs h0)
      have hf2 : N ≤ e + 1 + f' := by omega
      refine hL.ue (d := d + 8) hit2 eN ⟨i32s (by omega) (by omega), hL.1, w2.1.1, hL.wd (d := d + 9) kN (fun x2 hx2 ix2 => ⟨ix2, hL.1, ?_⟩)⟩
      obtain ⟨-, -, hsh⟩ := hit2
      have go : ∀ (s' : st9) (g9 : gm9), sF = its9 (wk M a) (nt M (a + 7)) (nuq M a) (smx M a) N 60 f' (e + 1) s' → (s'.2.2.1 = 0 → sF.2.2.1 = 0 → gF = igs9 (wk M a) (nt M (a + 7)) (nuq M a) (smx M a) N 60 f' (e + 1) s' g9) → ∀ M3, mOk M3 ∧ itX M2 a g N (e + 1) s' g9 M3 → mOk M3 ∧ h_MM_items0_183 G (d + 10) a e M3 (fun M' => mOk M' ∧ itmX M a g N sF gF M') := fun s' g9 eF eG M3 t => ⟨t.1, nxt e g' f' M3 s' g9 hf2 hg' eN hac' eF eG t.2⟩
      have hx3 : wk M2 a k = wk M a k := by rw [wkE]
      refine ⟨fun q1 => ⟨w2.1.1, ?_⟩, fun q1 => ⟨fun q2 => ⟨w2.1.1, ?_⟩, fun q2 => ⟨fun q3 => ⟨w2.1.1, ?_⟩, fun q3 => ⟨w2.1.1, ?_⟩⟩⟩⟩
      · rcases hsh with ⟨y0, -, -, y1⟩ | ⟨y0, -⟩ | ⟨y0, -⟩ | ⟨y0, -⟩
        · rw [wkE] at y0
          rw [if_pos y0] at eF
          have eG := eG _ (if_pos y0)
          have eg : igm9 (wk M a) (nt M (a + 7)) (nuq M a) (smx M a) N s.1 k gm = gm := if_pos y0
          rw [eg] at eG
          refine (x_MM_ruleItem (d := d + 3) eγ (by rw [wkE]; exact en1) h hS hst z2 (by rw [wkE]; exact y0) y1 eN hT hZ).mono (go _ gm ?_ ?_)
          · rw [sx2.1, sx2.2.1, sx2.nu, sx2.sm]; exact eF
          · rw [sx2.1, sx2.2.1, sx2.nu, sx2.sm]; exact eG
        · omega
        · omega
        · omega
      · rcases hsh with ⟨y0, -⟩ | ⟨y0, -, -, i, y1, y2⟩ | ⟨y0, -⟩ | ⟨y0, -⟩
        · omega
        · rw [wkE] at y0
          have n36 : ¬ (wk M a k = 3 ∨ wk M a k = 6) := by omega
          rw [if_neg n36, if_pos y0] at eF
          have eG := eG _ ((if_neg n36).trans (if_pos y0))
          have eg : igm9 (wk M a) (nt M (a + 7)) (nuq M a) (smx M a) N s.1 k gm = (gm.1 ++ [var9 (wk M a) (nt M (a + 7)) (nuq M a) (smx M a) N s.1 k e], gm.2) := by
            unfold igm9
            rw [if_neg n36, if_pos y0, en]
          rw [eg] at eG
          refine (x_MM_varItem (d := d + 2) eγ h hS hst z2 eN hT hZ y1 y2).mono (go _ _ ?_ ?_)
          · rw [sx2.1, sx2.2.1, sx2.nu, sx2.sm]; exact eF
          · rw [sx2.1, sx2.2.1, sx2.nu, sx2.sm]; exact eG
        · omega
        · omega
      · have n36 : ¬ (wk M a k = 3 ∨ wk M a k = 6) := by omega
        have n4 : ¬ wk M a k = 4 := by omega
        have y11 : wk M a k = 11 := by omega
        rw [if_neg n36, if_neg n4, if_pos y11] at eF
        have eG := eG _ ((if_neg n36).trans ((if_neg n4).trans (if_pos y11)))
        have eg : igm9 (wk M a) (nt M (a + 7)) (nuq M a) (smx M a) N s.1 k gm = (gm.1, some (k + 1, e), gm.2.2) := by
          unfold igm9
          rw [if_neg n36, if_neg n4, if_pos y11, en]
        rw [eg] at eG
        have eo : Eo (wk M2 a) 6 (k + 1) e := by
          rcases hsh with ⟨y0, -⟩ | ⟨y0, -⟩ | ⟨y0, -⟩ | ⟨-, y⟩
          · omega
          · omega
          · omega
          · exact y
        rw [show mR M2 a 10 = g from hL.2.2.2.2.1, h17, show (k : Int) + 1 = ((k + 1 : Nat) : Int) by omega]
        refine ⟨(w2.gp hg).1, fun q4 => ?_, fun q4 => ?_⟩
        · have t1' : tg = -1 := by clear hsh eG eF; omega
          have st0 : s.2.1.2.2.2 = 0 := by rw [hst]; show (if tg = -1 then 0 else 1) = 0; rw [if_pos t1']
          refine (x_crule (d := d + 3) eγ h.ci hS z2 w2 (Or.inr rfl) (by omega) eo eN).mono (fun x5 M5 q5 => ?_)
          obtain ⟨ex, T5, t1, t2, Rl, hp, qx⟩ := q5
          subst ex
          rw [sx2.1, sx2.2.1, sx2.sm] at qx
          have L5 := Rl.2.1
          have w5 := L5.2.1.1.1
          refine ⟨i32s (by omega) (by omega), L5.1, (w5.gp hg).1, fun M6 e6 => ?_⟩
          obtain ⟨I6, a6, o6, D6⟩ := h.tgt (ij := (k + 1, e)) t1 Rl hp (fun z => by
            rcases qx with ⟨u1, u2⟩ | ⟨-, -, -, u9⟩
            · exact absurd (u2.1.symm.trans z) u1
            · exact u9) (by omega) e6
          refine nxt e g' f' M6 _ _ hf2 hg' eN hac' eF eG ⟨I6, ?_⟩
          rcases qx with ⟨u1, u2⟩ | ⟨u1, u2, u3, u9⟩
          · rw [itt_f st0 u1]
            exact Or.inl ⟨u1, by rw [a6]; exact u2.1, by rw [a6]; exact u2.2⟩
          · rw [itt_ok st0 u1]
            refine Or.inr ⟨rfl, by rw [a6]; exact u2, T5, K, R, W, C, Z, _, _, D6 u2, ⟨by omega, by omega⟩, u3.own L5 (i32s (by omega) (by omega)) e6, ?_, ?_⟩
            · show (s.2.1.1, s.2.1.2.1, s.2.1.2.2.1, 1) = _
              rw [hst, if_neg (show ¬ ((T : Int) = -1) by omega)]
            · rw [(I6.sx w2 hg).tx9]
              show gWs E.2 _ _ = _
              rw [eγ]
              rfl
        · have st1 : s.2.1.2.2.2 ≠ 0 := by rw [hst]; show (if tg = -1 then 0 else 1) ≠ 0; rw [if_neg (by clear hsh eG eF; omega)]; decide
          refine (s_MM_place0 (d := d + 9) hL.1 hL.2.1 kN).mono (fun y M5 h5 => ?_)
          obtain ⟨e5, hy⟩ := h5
          subst e5
          have hy32 : i32 y := by rw [hy]; exact (hL.1 _ _).1
          refine ⟨hy32, hL.1, w2.1.1, (s_MM_stop ⟨by decide, by decide⟩ hy32 hL.1 w2).mono (fun M6 h6 => ⟨h6.1.1, nxt e g' f' M6 _ _ hf2 hg' eN hac' eF eG ⟨(st_it (g := g) (N := N) (k := e + 1) w2 (by decide) h6).1, Or.inl ?_⟩⟩)⟩
          rw [itt_2 st1]
          exact ⟨by simp, h6.2.1, by rw [h6.2.2.1, hy, sx2.2.1]⟩
      · rcases hsh with ⟨y0, -⟩ | ⟨y0, -⟩ | ⟨y78, j, f9, y1, y2, y3⟩ | ⟨y0, -⟩
        · omega
        · omega
        · have n36 : ¬ (wk M a k = 3 ∨ wk M a k = 6) := by omega
          have n4 : ¬ wk M a k = 4 := by omega
          have n11 : ¬ wk M a k = 11 := by omega
          rw [if_neg n36, if_neg n4, if_neg n11] at eF
          have eG := eG _ ((if_neg n36).trans ((if_neg n4).trans (if_neg n11)))
          have eg : igm9 (wk M a) (nt M (a + 7)) (nuq M a) (smx M a) N s.1 k gm = (gm.1, gm.2.1, gm.2.2 ++ [cmd9 (wk M a) (nt M (a + 7)) (smx M a) N s.1 k e]) := by
            unfold igm9
            rw [if_neg n36, if_neg n4, if_neg n11, en]
          rw [eg] at eG
          refine (x_MM_commandItem (d := d) eγ y78 h hS hst z2 y1 y2 y3 eN hT hZ).mono (go _ _ ?_ ?_)
          · rw [sx2.1, sx2.2.1, sx2.sm]; exact eF
          · rw [sx2.1, sx2.2.1, sx2.sm]; exact eG
        · omega
end IXA
end
section
/-! The reference's items, exactly: from an empty game. -/
section IXB
variable {G : mG} {d a g N : Nat} {M M2 M3 : mM}
/-- no names, nothing counted, no fault -/
def s09 : st9 := ([], (0, 0, 0, 0), (0, 0))
/-- no vars, no target, no commands -/
def g09 : gm9 := ([], none, [])
theorem x_MM_items0 {f : Nat} (hO : mOk M) (hx : Wx M a N) (h10 : mR M a 10 = g) (hg : g = a + 13 ∨ g = a + 49) (hac : Ac (wk M a) N f [50] 0) : Cv G y_MM_items0 (d + 11) [vr a] M (fun M' => mOk M' ∧ itmX M a g N (its9 (wk M a) (nt M (a + 7)) (nuq M a) (smx M a) N 60 N 0 s09) (igs9 (wk M a) (nt M (a + 7)) (nuq M a) (smx M a) N 60 N 0 s09 g09) M') := by
  have w := hx.1.1
  have hN := hx.1.2.2
  have r13 : ∀ {M3 : mM}, Wd M3 a → mR M3 a 13 = a + 85 := fun w => w.1.2.2.2.2.1.1
  have r14 : ∀ {M3 : mM}, Wd M3 a → mR M3 a 14 = a + 87 := fun w => w.1.2.2.2.2.1.2.1
  have r15 : ∀ {M3 : mM}, Wd M3 a → mR M3 a 15 = a + 89 := fun w => w.1.2.2.2.2.1.2.2.1
  refine k_MM_items0 hO ?_
  rw [h10]
  refine ⟨w.1.1, (w.gp hg).1, (s_MG_clear (d := d + 9) hO w hg).mono (fun M1 t1 => ?_)⟩
  obtain ⟨o1, m1, c1, c6, c12, c17, c18⟩ := t1
  have w1 := m1.2.1
  have hin1 : ∀ q, gL9 g q → q ∈ nums a := fun q hq => gL9_in hg hq
  have aI1 := (m1.fld w hin1 (by omega)).1
  have g9 : ∀ {q}, gL9 g q → itP a g q := fun {q} hq => ⟨gL9_in hg hq, by have : q = g + 1 ∨ q = g + 3 ∨ q = g + 5 ∨ q = g + 7 ∨ q = g + 9 ∨ q = g + 11 ∨ q = g + 30 ∨ q = g + 32 ∨ q = g + 34 := hq; omega⟩
  have I1 : iF M a g M1 := iF.mk w m1 (fun q hq => g9 hq) (fun x z => Or.inr (Or.inl (by omega))) (fun i _ _ _ => by rw [aI1])
  have nset : ∀ {p : Nat} {Mx My : mM}, p = a + 85 ∨ p = a + 87 ∨ p = a + 89 → iF M a g Mx → mI Mx g = mI M1 g → (∀ q, gL9 g q → ln Mx q = 0) → My = mUI Mx p 1 0 → iF M a g My ∧ mI My g = mI M1 g ∧ (∀ q, gL9 g q → ln My q = 0) ∧ ln My p = 0 ∧ (∀ q, q ∈ nums a → q ≠ p → ln My q = ln Mx q) := fun {p Mx My} hp hI hgI hz he => by
    have wx := hI.1.2.1
    have pn : p ∈ nums a := by rcases hp with y | y | y <;> rw [y]; exact n85; exact n87; exact n89
    have b : 0 ≤ ln Mx p := (wx.nu pn).2.2.2.1.1
    obtain ⟨m3, l3, -, -⟩ := mv_set hI.1.1 wx pn (v := 0) (by omega) b he
    have hin : ∀ q, q = p → q ∈ nums a := fun q hq => by rw [hq]; exact pn
    refine ⟨hI.trans (iF.mk wx m3 (fun q hq => ⟨hin q hq, by omega⟩) (fun _ z => z.elim) (fun i _ _ _ => by rw [(m3.fld wx hin (fun z => z)).1])), (m3.gI wx hg hin (fun z => z)).trans hgI, fun q hq => ?_, l3, fun q hq hne => (m3.lst hq hne).1⟩
    have hq' : q = g + 1 ∨ q = g + 3 ∨ q = g + 5 ∨ q = g + 7 ∨ q = g + 9 ∨ q = g + 11 ∨ q = g + 30 ∨ q = g + 32 ∨ q = g + 34 := hq
    rw [(m3.lst (gL9_in hg hq) (by omega)).1]
    exact hz q hq
  rw [r13 w1]
  refine ⟨o1, w1.1.1, (w1.nu n85).1, fun M2 e2 => ?_⟩
  obtain ⟨I2, g2, z2, l2, u2⟩ := nset (Or.inl rfl) I1 rfl c1 e2
  have w2 := I2.1.2.1
  rw [r14 w2]
  refine ⟨(w2.nu n87).1, fun M3 e3 => ?_⟩
  obtain ⟨I3, g3, z3, l3, u3⟩ := nset (Or.inr (Or.inl rfl)) I2 g2 z2 e3
  have w3 := I3.1.2.1
  rw [r15 w3]
  refine ⟨(w3.nu n89).1, fun M4 e4 M5 e5 => ?_⟩
  obtain ⟨I4, g4, z4, l4, u4⟩ := nset (Or.inr (Or.inr rfl)) I3 g3 z3 e4
  have w4 := I4.1.2.1
  obtain ⟨m5, f5⟩ := mv_fld (v := 0) ⟨by decide, by decide⟩ I4.1.1 w4 e5
  have no : ∀ q : Nat, False → q ∈ nums a := fun _ z => z.elim
  have g5 : mI M5 g = mI M1 g := (m5.gI w4 hg no (by omega)).trans g4
  have I5 : iF M a g M5 := I4.trans (iF.mk w4 m5 (fun _ z => z.elim) (fun x z => Or.inl z) (fun i i1 _ _ => by rw [f5, if_neg i1]))
  have s5 : ∀ {q}, q ∈ nums a → ln M5 q = ln M4 q := fun hq => (m5.lst hq (fun z => z)).1
  have k85 : ln M5 (a + 85) = 0 := by rw [s5 n85, u4 _ n85 (by omega), u3 _ n85 (by omega), l2]
  have k87 : ln M5 (a + 87) = 0 := by rw [s5 n87, u4 _ n87 (by omega), l3]
  have k89 : ln M5 (a + 89) = 0 := by rw [s5 n89, l4]
  have hin5 : ∀ q, itP a g q → q ∈ nums a := fun q hq => hq.1
  have t2 : ¬ itP a g (mR M a 2) := fun z => by
    have := z.2
    rcases w.1.2.1 with y | y <;> rw [y.2] at this <;> omega
  have x5 : Wx M5 a N := hx.mv I5.1 hin5 (fun z => by have := z.2; omega) (fun z => by have := z.2; omega) (fun z => by have := z.2; omega) t2
  have h105 : mR M5 a 10 = g := by rw [I5.1.rfl_a w hin5]; exact h10
  have L5 : Lc M5 a g N 0 0 := ⟨I5.1.1, x5, ⟨k85, k87, k89, by omega, fun k hk => absurd hk (by omega)⟩, fun q hq => by rw [s5 (tL_in hg hq), z4 q (by have : q = g + 1 ∨ q = g + 3 ∨ q = g + 5 ∨ q = g + 7 ∨ q = g + 9 ∨ q = g + 11 := hq; omega)]; rfl, h105, hg, by rw [g5, c6, c12]; omega, by omega⟩
  have R5 : RGq (txg M5 a N [] g09) M5 g 0 0 0 0 0 (fun _ => 0) (-1) := ⟨⟨rfl, rfl⟩, fun l1 e l2 he _ => absurd (show ([] : List nm9) = l1 ++ e :: l2 from he) (by simp), ⟨rfl, fun v x hv => absurd (show ([] : List (Int × Int × Int))[v]? = some x from hv) (by simp)⟩, Or.inl ⟨rfl, rfl⟩, rfl, fun c cm hc => absurd (show ([] : List cm9)[c]? = some cm from hc) (by simp)⟩
  have D5 : Df M5 a g N 0 0 0 0 0 0 ((fun _ => 0), txg M5 a N [] g09) (-1) := ⟨L5, ⟨by rw [g5, c6]; rfl, by rw [g5, c12]; rfl, by rw [g5, c18]; rfl, by rw [g5, c17]⟩, ⟨by rw [s5 (n30 hg), z4 _ (by omega)]; rfl, by rw [s5 (n32 hg), z4 _ (by omega)]; rfl, by rw [s5 (n34 hg), z4 _ (by omega)]; rfl⟩, rfl, ⟨⟨by omega, by omega, by omega⟩, fun r hr => absurd hr (by omega), fun r hr => absurd hr (by omega), fun r hr => absurd hr (by omega), fun r hr => absurd hr (by omega), fun r hr => absurd hr (by omega), Or.inl rfl, R5⟩⟩
  exact x_it_run w hN hg f N 0 M5 s09 g09 (by omega) hac I5 (by rw [f5, if_pos rfl]) rfl ⟨0, 0, 0, 0, 0, 0, ((fun _ => 0), txg M5 a N [] g09), -1, D5, ⟨Nat.le_refl _, Nat.le_refl _⟩, ⟨rfl, fun q hq => absurd hq (by omega), fun p q _ hq => absurd hq (by omega), fun p q _ hq => absurd hq (by omega)⟩, rfl, rfl⟩ rfl (fun _ => rfl)
end IXB
end
