/-! The reference's sets, exactly. -/
/-- the fault of one set -/
noncomputable def stf (w pl : Nat → Int) (sm : Nat → Nat → Prop) (nms : List nm9) (p c : Nat) (seen : List Nat) : Int × Int := match fnd9 sm nms (p + 1) with
  | none => (2, pl (p + 1))
  | some e => if e.2.1 ≠ 3 then (2, pl (p + 1)) else if e.1 ∈ seen then (4, pl (p + 1)) else rf9 w pl sm nms 0 e.2.2.1 (p + 4) c
section SVX
variable {sm : Nat → Nat → Prop} {k j : Nat} {nms : List nm9} {e : nm9}
theorem twt8 {P9 : nm9 → Bool} : ∀ (l : List nm9) (j : Nat) (e : nm9), l[j]? = some e → P9 e = false → (∀ (j' : Nat) (e' : nm9), j' < j → l[j']? = some e' → P9 e' = true) → l.takeWhile P9 = l.take j
  | [], j, e, h, _, _ => absurd h (by simp)
  | a :: l, 0, e, h, h1, _ => by
    have : a = e := Option.some.inj h
    subst this
    rw [List.takeWhile_cons, h1]
    rfl
  | a :: l, j + 1, e, h, h1, h2 => by
    have ha := h2 0 a (by omega) rfl
    rw [List.takeWhile_cons, ha, List.take_succ_cons]
    show a :: l.takeWhile P9 = _
    rw [twt8 l j e h h1 (fun j' e' hj z => h2 (j' + 1) e' (by omega) z)]
theorem vix_a8 (h : nms[j]? = some e) (h1 : sm e.1 k) (h2 : ∀ (j' : Nat) (e' : nm9), j' < j → nms[j']? = some e' → ¬ sm e'.1 k) : vix9 sm nms k = vcn (nms.take j) := by
  unfold vix9
  rw [twt8 nms j e h (by simpa using h1) (fun j' e' hj z => by simpa using h2 j' e' hj z)]
end SVX
section STX
variable {G : mG} {d a g R W C T Z T2 T3 Z2 N K : Nat} {M M2 M3 : mM} {E : Eg9} {tg : Int} {nms : List nm9}
/-- which var a name is -/
theorem RSq.vix {k n : Nat} {e : nm9} (rs : RSq M2 a g K nms) (hf : fdn M2 a K k = (n : Int)) (hn : n < K) (he : nms[n]? = some e) (h3 : e.2.1 = 3) : nt M2 (a + 89) n = ((vix9 (smx M2 a) nms k : Nat) : Int) := by
  obtain ⟨e0, z1, z2, z3, z4, z5, z6, z7⟩ := rs.2.1 n hn
  have ee : e0 = e := Option.some.inj (z1.symm.trans he)
  subst ee
  rcases fdn_x (M := M2) (a := a) (K := K) k with ⟨f1, -⟩ | ⟨q, f1, f2, f3, f4⟩
  · rw [hf] at f1; omega
  · have eq : q = n := by rw [hf] at f1; omega
    subst eq
    have h1 : smx M2 a e0.1 k := by
      rw [z2, Int.toNat_natCast] at f3
      exact f3
    rw [z7, if_pos h3, vix_a8 he h1 (fun j' e' hj hj' => ?_)]
    intro y
    obtain ⟨e1, y1, y2, -⟩ := rs.2.1 j' (by omega)
    have e1e : e1 = e' := Option.some.inj (y1.symm.trans hj')
    subst e1e
    have := rs.2.2.1 j' q hj hn
    rw [y2, z2, Int.toNat_natCast, Int.toNat_natCast] at this
    exact this (y.trans h1.symm)
/-- the root of a rule and its words -/
theorem rl_rtw {i j : Nat} {t : Int} {gm : gm9} (hL : Lc M2 a g N T2 K) (g6 : mI M2 g 6 = R) (g12 : mI M2 g 12 = W) (hD : Dg M2 g R W C Z T2 E tg) (h : rlR 0 M2 a g N T2 K T3 t M3) (z : mI M3 a 16 = 0) (hp : ∀ n, n < T2 → pm M3 g n = pm M2 g n) (eγ : E.2 = txg M2 a N nms gm) (rs : RSq M2 a g K nms) (eo : Eo (wk M2 a) 6 i j) (hj : j < N) (hfl : (fl (wk M2 a) (E9 (smx M2 a) nms 0) (nt M2 (a + 7)) 0 i j).1 = 0) (tm : Tmr M2 M3 a g (rvn M2 a K) i j T2 T3) : Rtw E.2 M3 g R W T3 E.1 T2 t i j := by
  have hR := hD.1.1
  have G3 := (rlR.ge (R := R) (W := W) (C := 0) (Z := 0) hL h).2.1 z hp
  rcases h.2.2.2.2.2 with y | ⟨-, ⟨f, ty⟩, -⟩
  · exact absurd z y
  · rw [eγ]
    refine ⟨nms, [], T2, R, f, T3, nrq M2 a (rvn M2 a K), (List.append_nil _).symm, ⟨rfl, Nat.le_refl _, fun r hr q => ?_, ty.mono (fun v hv => ?_), Nat.le_refl _⟩, ⟨eo, hj, hfl⟩, rs.nvo, tm⟩
    · rw [(G3.1.2.1 r hr).1] at q
      obtain ⟨n, f', -, q2, -⟩ := hD.2.2.1 r hr q
      exact q2
    · unfold nmr at hv
      rw [g6, g12] at hv
      rcases hv with ⟨h1, h2, h3, h4⟩ | ⟨-, h1, h2, h3⟩
      · have gt := G3.1.tr (r := v.toNat) hR (by omega)
        rw [show ((v.toNat : Nat) : Int) = v by omega] at gt
        exact ⟨Or.inl ⟨h1, h2, Or.inl trivial⟩, gt⟩
      · exact ⟨Or.inr ⟨trivial, h1, h2⟩, G3.1.tv h1 h2⟩
/-- a rule inside a command -/
theorem x_crule {gm : gm9} {i j : Nat} {tr : Int} (eγ : E.2 = txg M a N nms gm) (c2 : cI M a g N K R W C E tg T2 Z2 M2) (rs : RSq M2 a g K nms) (z2 : mI M2 a 16 = 0) (w0 : Wd M a) (htr : tr = 0 ∨ tr = 1) (hT : T2 + (j - i) ≤ 30000) (eo : Eo (wk M a) 6 i j) (hj : j < N) : Ci G y_MM_rule1 (d + 7) [vr a, vi i, vi j, vi tr, vi 0] M2 (fun x M3 => x = T2 ∧ ∃ T3, T2 < T3 ∧ T3 ≤ T2 + (j - i) ∧ rlR 0 M2 a g N T2 K T3 tr M3 ∧ (mI M3 a 16 = 0 → ∀ n, n < T2 → pm M3 g n = pm M2 g n) ∧ (((rf9 (wk M a) (nt M (a + 7)) (smx M a) nms 0 tr i j).1 ≠ 0 ∧ fpw M3 a (rf9 (wk M a) (nt M (a + 7)) (smx M a) nms 0 tr i j)) ∨ ((rf9 (wk M a) (nt M (a + 7)) (smx M a) nms 0 tr i j).1 = 0 ∧ mI M3 a 16 = 0 ∧ RSq M3 a g K nms ∧ Rtw E.2 M3 g R W T3 E.1 (T2 : Int) tr i j))) := by
  obtain ⟨L2, I2, ⟨g2, g6, g12⟩, z30, D2⟩ := c2
  have hg := L2.2.2.2.2.2.1
  have sx2 := I2.sx w0 hg
  refine (x_MM_rule1 (d := d) (co := 0) (tr := tr) (ur_n (M := M2) (a := a) (g := g) (N := N) (K := K) (co := 0)) ⟨by decide, by decide⟩ htr L2 hT (by rw [sx2.1]; exact eo) hj).mono (fun x M3 q3 => ?_)
  obtain ⟨ex, T3, t1, t2, Rl, qx⟩ := q3
  have ef : rfq M2 a (Ern M2 a g K 0) tr i j = rf9 (wk M a) (nt M (a + 7)) (smx M a) nms 0 tr i j := by
    unfold rfq rf9
    rw [sx2.1, sx2.2.1, rs.en (Or.inl rfl), sx2.sm]
  rw [ef] at qx
  refine ⟨ex, T3, t1, t2, Rl, fun z => ?_, ?_⟩
  · rcases qx with q | ⟨q, -⟩ | ⟨-, -, -, q4⟩
    · exact absurd z2 q
    · exact absurd z q
    · exact q4
  rcases qx with q | ⟨q, qf⟩ | ⟨q, q1, q2, q4⟩
  · exact absurd z2 q
  · exact Or.inl ⟨by rw [← qf.1]; exact q, qf⟩
  · obtain ⟨I3, G3, -⟩ := rlR.ge (R := R) (W := W) (C := C) (Z := Z2) L2 Rl
    refine Or.inr ⟨q1, q, rs.ge L2.2.2.1 g6 g12 (D2 z2).1.1 (G3 q q4) (I3.sx L2.2.1.1.1 hg) ((lst3.rl hg Rl).q K), ?_⟩
    refine rl_rtw (gm := gm) L2 g6 g12 (D2 z2) Rl q q4 (by rw [eγ, sx2.tx9]) rs (by rw [sx2.1]; exact eo) hj ?_ q2
    rw [sx2.1, sx2.2.1, sx2.sm]
    unfold rf9 at q1
    exact (fst9_z q1).1
/-- a list of sets grows: the names stay -/
theorem RSq.add {p : Nat} {v : Int} (rs : RSq M2 a g K nms) (h : Lc M2 a g N T2 K) (g6 : mI M2 g 6 = R) (g12 : mI M2 g 12 = W) (hR : R ≤ 60) (hp : p = g + 30 ∨ p = g + 32 ∨ p = g + 34) (hZ : ((0 : Nat) : Int) ≤ ln M2 p) (t : adQ M2 p v M3) : RSq M3 a g K nms ∧ lst3 M2 a M3 := by
  have hg := h.2.2.2.2.2.1
  have w2 := h.2.1.1.1
  obtain ⟨L3, m, gI, aI, G3⟩ := gadd (R := R) (W := W) (C := 0) (Z := 0) h hp hZ t
  have l3 : lst3 M2 a M3 := lst3.of m (fun i hi z => by omega)
  have I3 : iF M2 a g M3 := iF.mk w2 m (fun q hq => by
    refine ⟨?_, by omega⟩
    rw [hq]
    rcases hp with z | z | z <;> rw [z]
    · exact n30 hg
    · exact n32 hg
    · exact n34 hg) (fun _ z => z.elim) (fun i _ _ _ => by rw [aI])
  exact ⟨rs.ge h.2.2.1 g6 g12 hR G3 (I3.sx w2 hg) (l3.q K), l3⟩
/-- a set in memory, in pure words; a set has been read, exactly -/
def RSs (γ : gW9) (M : mM) (g R W T : Nat) (Er : Nat → Nat) (z : Nat) (q : Nat × Nat × Nat × Nat) : Prop := nt M (g + 30) z = ((q.1 : Nat) : Int) ∧ nt M (g + 32) z = γ.2.1 q.2.2.2 ∧ q.1 < W ∧ Rtw γ M g R W T Er (nt M (g + 34) z) (tn M g (100 + (q.1 : Int))) q.2.1 q.2.2.1
def siX (M : mM) (a g N K R W C : Nat) (E : Eg9) (tg : Int) (p c T2 Z2 Tm : Nat) (nms : List nm9) (v : Nat) (F : Int × Int) (M2 : mM) (x : Int) (M3 : mM) : Prop := siQ M a g N K R W C E tg c T2 Z2 Tm M2 x M3 ∧ ((F.1 ≠ 0 ∧ fpw M3 a F) ∨ (F.1 = 0 ∧ mI M3 a 16 = 0 ∧ RSq M3 a g K nms ∧ ln M3 (g + 30) = (Z2 + 1 : Nat) ∧ nt M3 (g + 30) Z2 = v ∧ (∀ i : Nat, i < Z2 → nt M3 (g + 30) i = nt M2 (g + 30) i) ∧ (∀ q, q < K → nt M3 (a + 89) q = nt M2 (a + 89) q) ∧ ∀ T3, Lc M3 a g N T3 K → RSs E.2 M3 g R W T3 E.1 Z2 (v, p + 4, c, p)))
theorem x_si61 {gm : gm9} {p c v Tm Z0 : Nat} {F : Int × Int} {Q : Int → mM → Prop} (hQ : ∀ (x : Int) (M3 : mM), i32 x ∧ mOk M3 ∧ siX M a g N K R W C E tg p c T2 Z2 Tm nms v F M2 x M3 → Q x M3) (eγ : E.2 = txg M a N nms gm) (w0 : Wd M a) (hc : cI M a g N K R W C E tg T2 Z2 M2) (rs : RSq M2 a g K nms) (z2 : mI M2 a 16 = 0) (hv : v < W) (he : Eo (wk M a) 6 (p + 4) c) (hcN : c < N) (hT2 : T2 ≤ p) (hZ2 : Z2 ≤ 16384) (hTm : c - (p + 4) ≤ Tm) (hF1 : (∃ i : Nat, Z0 ≤ i ∧ i < Z2 ∧ nt M2 (g + 30) i = v) → F = (4, nt M (a + 7) (p + 1))) (hF2 : (∀ i : Nat, Z0 ≤ i → i < Z2 → nt M2 (g + 30) i ≠ v) → F = rf9 (wk M a) (nt M (a + 7)) (smx M a) nms 0 (mI M2 (g + 18) v) (p + 4) c) : ∀ (n i : Nat), i + n = Z2 → Z0 ≤ i → (∀ j : Nat, Z0 ≤ j → j < i → nt M2 (g + 30) j ≠ v) → h_MM_setItem_61 G (d + 7) a p c v i M2 Q := by
  obtain ⟨L2, I2, ⟨g2, g6, g12⟩, ⟨z30, z32, z34⟩, D2⟩ := id hc
  have hN := L2.2.1.1.2.2
  have hg := L2.2.2.2.2.2.1
  have w2 := L2.2.1.1.1
  have hD := D2 z2
  have hB := hD.1
  have hlt := he.pr.1
  have sx2 := I2.sx w0 hg
  have z30' : mI M2 (g + 30) 1 = (Z2 : Int) := z30
  have ip : i32 (p : Int) := i32s (by omega) (by omega)
  have ic : i32 (c : Int) := i32s (by omega) (by omega)
  have ic1 : i32 ((c + 1 : Nat) : Int) := i32s (by omega) (by omega)
  have iv : i32 (v : Int) := i32s (by omega) (by omega)
  have b01 := (hD.2.2.2.1 v hv).2.2.2.2.2
  have v12 : ((0 : Int) ≤ v ∧ (v : Int) < ((12 : Nat) : Int)) := by omega
  have hT3 : T2 + (c - (p + 4)) ≤ 30000 := by omega
  have hZ3 : (Z2 : Int) ≤ 32768 := by omega
  have p1N : p + 1 < N := by omega
  have pN : p < N := by omega
  have iT : i32 (T2 : Int) := i32s (by omega) (by omega)
  intro n
  induction n with
  | zero =>
    intro i hi hi0 hno
    have ei : i = Z2 := by omega
    subst ei
    have eF := hF2 hno
    refine k_MM_setItem_61 L2.1 ip ic iv (i32s (by omega) (by omega)) ?_
    rw [show mR M2 a 10 = g from L2.2.2.2.2.1, show mR M2 g 27 = g + 30 from (w2.gp hg).2.2.1.2.2.2.2.2.2.2.2.2.2.2.2.1, show mR M2 g 13 = g + 18 from (w2.gp hg).2.2.1.1, z30', Int.toNat_natCast, show (p : Int) + 4 = ((p + 4 : Nat) : Int) by omega]
    refine ⟨w2.1.1, (w2.gp hg).1, (w2.nu (n30 hg)).1, fun _ => ⟨(w2.gp hg).2.2.2.2.1.1.1, by rw [(w2.gp hg).2.2.2.2.1.1.2]; exact v12, ?_⟩, fun q => absurd (Int.le_refl _) q⟩
    refine (x_crule (d := d) eγ hc rs z2 w0 b01 hT3 he hcN).mono (fun x M3 q3 => ?_)
    obtain ⟨ex, T3, t1, t2, Rl, hp, qx⟩ := q3
    rw [← eF] at qx
    subst ex
    have L3 := Rl.2.1
    have w3 := L3.2.1.1.1
    have g3 : mI M3 g = mI M2 g := Rl.2.2.2.1
    obtain ⟨-, G3, y30, y32, y34⟩ := rlR.ge (R := R) (W := W) (C := C + 1) (Z := i) L2 Rl
    rw [show mR M3 a 10 = g from L3.2.2.2.2.1, show mR M3 g 27 = g + 30 from (w3.gp hg).2.2.1.2.2.2.2.2.2.2.2.2.2.2.2.1]
    refine ⟨iT, L3.1, w3.1.1, (w3.gp hg).1, (w3.nu (n30 hg)).1, (s_MN_add iv L3.1 (w3.nu (n30 hg)) (by rw [y30, z30]; exact hZ3)).mono (fun M4 a4 => ?_)⟩
    obtain ⟨L4, m4, g4, i4, G4⟩ := gadd (R := R) (W := W) (C := C + 1) (Z := i) L3 (Or.inl rfl) (by rw [y30, z30]; exact Int.le_refl _) a4
    have w4 := L4.2.1.1.1
    have e32 : ln M4 (g + 32) = (i : Int) := by rw [(m4.lst (n32 hg) (by omega)).1, y32, z32]
    rw [show mR M4 a 10 = g from L4.2.2.2.2.1, show mR M4 g 28 = g + 32 from (w4.gp hg).2.2.1.2.2.2.2.2.2.2.2.2.2.2.2.2.1]
    refine ⟨L4.1, w4.1.1, (w4.gp hg).1, (s_MM_place0 (d := d + 6) L4.1 L4.2.1 pN).mono (fun y M5 h5 => ?_)⟩
    obtain ⟨e5, hy⟩ := h5
    subst e5
    have hy32 : i32 y := by rw [hy]; exact (L4.1 _ _).1
    refine ⟨hy32, L4.1, (w4.nu (n32 hg)).1, (s_MN_add hy32 L4.1 (w4.nu (n32 hg)) (by rw [e32]; exact hZ3)).mono (fun M6 a6 => ?_)⟩
    obtain ⟨L6, m6, g6', i6, G6⟩ := gadd (R := R) (W := W) (C := C + 1) (Z := i) L4 (Or.inr (Or.inl rfl)) (by rw [e32]; exact Int.le_refl _) a6
    have w6 := L6.2.1.1.1
    have e34 : ln M6 (g + 34) = (i : Int) := by rw [(m6.lst (n34 hg) (by omega)).1, (m4.lst (n34 hg) (by omega)).1, y34, z34]
    rw [show mR M6 a 10 = g from L6.2.2.2.2.1, show mR M6 g 29 = g + 34 from (w6.gp hg).2.2.1.2.2.2.2.2.2.2.2.2.2.2.2.2.2]
    refine ⟨L6.1, w6.1.1, (w6.gp hg).1, (w6.nu (n34 hg)).1, (s_MN_add iT L6.1 (w6.nu (n34 hg)) (by rw [e34]; exact hZ3)).mono (fun M7 a7 => ?_)⟩
    have key := si_add (c := c) (Tm := Tm) hc z2 hv t1 (by omega) Rl hp a4 a6 a7
    obtain ⟨L7, m7, g7, i7, G7⟩ := gadd (R := R) (W := W) (C := C + 1) (Z := i) L6 (Or.inr (Or.inr rfl)) (by rw [e34]; exact Int.le_refl _) a7
    have aI : mI M7 a = mI M3 a := by rw [i7, i6, i4]
    rw [show (c : Int) + 1 = ((c + 1 : Nat) : Int) by omega]
    refine ⟨a7.1, hQ _ _ ⟨ic1, a7.1, key, ?_⟩⟩
    rcases qx with ⟨u1, u2⟩ | ⟨u1, u2, u3, u9⟩
    · refine Or.inl ⟨u1, ?_⟩
      unfold fpw
      rw [aI]
      exact u2
    · have r3 : mI M3 g 6 = R := by rw [g3]; exact g6
      have r3' : mI M3 g 12 = W := by rw [g3]; exact g12
      obtain ⟨rs4, l4⟩ := u3.add L3 r3 r3' hB.1 (Or.inl rfl) (by rw [y30, z30]; omega) a4
      obtain ⟨rs6, l6⟩ := rs4.add L4 (by rw [g4]; exact r3) (by rw [g4]; exact r3') hB.1 (Or.inr (Or.inl rfl)) (by rw [e32]; omega) a6
      obtain ⟨rs7, l7⟩ := rs6.add L6 (by rw [g6', g4]; exact r3) (by rw [g6', g4]; exact r3') hB.1 (Or.inr (Or.inr rfl)) (by rw [e34]; omega) a7
      have l37 := ((lst3.rl hg Rl).trans l4).trans (l6.trans l7)
      refine Or.inr ⟨u1, by rw [aI]; exact u2, rs7, ?_, ?_, fun j hj => ?_, fun q hq => (l37.q K q hq).2.2, fun T9 L9 => ?_⟩
      · rw [(m7.lst (n30 hg) (by omega)).1, (m6.lst (n30 hg) (by omega)).1, a4.2.2.2.1, y30, z30]; omega
      · rw [(m7.lst (n30 hg) (by omega)).2.1, (m6.lst (n30 hg) (by omega)).2.1]
        have := a4.2.2.2.2.2.1
        rw [y30, z30, Int.toNat_natCast] at this
        exact this
      · rw [(m7.lst (n30 hg) (by omega)).2.1, (m6.lst (n30 hg) (by omega)).2.1, a4.2.2.2.2.1 j (by rw [y30, z30]; omega)]
        exact ((G3 u2 (hp u2)).2.2.2.2 j hj).1
      · have eT : T9 = T3 := by
          have q1 := L9.2.2.2.1 (g + 1) (by omega)
          have q2 := L7.2.2.2.1 (g + 1) (by omega)
          omega
        subst eT
        have G37 := (G4.trans G6).trans G7
        have t30 : nt M7 (g + 30) i = (v : Int) := by
          rw [(m7.lst (n30 hg) (by omega)).2.1, (m6.lst (n30 hg) (by omega)).2.1]
          have := a4.2.2.2.2.2.1
          rw [y30, z30, Int.toNat_natCast] at this
          exact this
        have t32 : nt M7 (g + 32) i = y := by
          rw [(m7.lst (n32 hg) (by omega)).2.1]
          have := a6.2.2.2.2.2.1
          rw [e32, Int.toNat_natCast] at this
          exact this
        have t34 : nt M7 (g + 34) i = (T2 : Int) := by
          have := a7.2.2.2.2.2.1
          rw [e34, Int.toNat_natCast] at this
          exact this
        have p7 : nt M5 (a + 7) p = nt M (a + 7) p := by
          rw [(m4.lst n7 (by omega)).2.1, (((rlR.ge (R := R) (W := W) (C := C) (Z := i) L2 Rl).1).sx w2 hg).2.1, sx2.2.1]
        refine ⟨t30, ?_, hv, ?_⟩
        · rw [t32, hy, p7, eγ]
          rfl
        · have e18 : tn M7 g (100 + (v : Int)) = mI M2 (g + 18) v := by
            have k1 := ((G3 u2 (hp u2)).trans (G37.down (Nat.le_refl _) (Nat.le_refl _) (Nat.le_refl _) (Nat.le_refl _) (Nat.le_of_lt t1))).1.tv (v := 100 + (v : Int)) (by omega) (by omega)
            rw [k1]
            unfold tn
            rw [if_pos (show (100 : Int) ≤ 100 + (v : Int) by omega), show (100 + (v : Int) - 100).toNat = v by omega]
            rcases b01 with y | y <;> rw [y] <;> rfl
          show Rtw E.2 M7 g R W T9 E.1 (nt M7 (g + 34) i) (tn M7 g (100 + (v : Int))) (p + 4) c
          rw [t34, e18]
          exact u9.gn G37.1 hB.1
  | succ n ih =>
    intro i hi hi0 hno
    have nx := fun h => ih (i + 1) (by omega) (by omega) h
    refine k_MM_setItem_61 L2.1 ip ic iv (i32s (by omega) (by omega)) ?_
    rw [show mR M2 a 10 = g from L2.2.2.2.2.1, show mR M2 g 27 = g + 30 from (w2.gp hg).2.2.1.2.2.2.2.2.2.2.2.2.2.2.2.1, z30', show (p : Int) + 1 = ((p + 1 : Nat) : Int) by omega]
    refine ⟨w2.1.1, (w2.gp hg).1, (w2.nu (n30 hg)).1, fun q => absurd q (by omega), fun _ => (s_MN_at L2.1 (w2.nu (n30 hg)) (by rw [z30]; omega)).mono (fun z M4 h4 => ?_)⟩
    obtain ⟨e4, hz⟩ := h4
    subst e4
    refine ⟨by rw [hz]; exact (L2.1 _ _).1, L2.1, fun q => ⟨w2.1.1, (s_MM_place0 (d := d + 6) L2.1 L2.2.1 p1N).mono (fun y M5 h5 => ?_)⟩, fun q => ?_⟩
    · obtain ⟨e5, hy⟩ := h5
      subst e5
      have hy32 : i32 y := by rw [hy]; exact (L2.1 _ _).1
      refine ⟨hy32, L2.1, w2.1.1, (s_MM_stop ⟨by decide, by decide⟩ hy32 L2.1 w2).mono (fun M6 h6 => ⟨h6.1.1, hQ _ _ ⟨ic, h6.1.1, si_stop hc (by decide) h6, Or.inl ?_⟩⟩)⟩
      rw [hF1 ⟨i, hi0, by omega, by rw [← hz]; exact q⟩]
      exact ⟨by simp, h6.2.1, by rw [h6.2.2.1, hy, sx2.2.1]⟩
    · have nx := nx (fun j j1 j2 => by
        by_cases c : j = i
        · subst c; rw [← hz]; exact q
        · exact hno j j1 (by omega))
      rw [show ((i + 1 : Nat) : Int) = (i : Int) + 1 by omega] at nx
      exact nx
end STX
