section
/-! The reference: steps of the draft. -/
section FR
variable {a g R W C Z T N K : Nat} {M M' M2 M3 : mM} {P S : Nat → Prop}
theorem Gn.trans (h : Gn M g R W T M2) (k : Gn M2 g R W T M3) : Gn M g R W T M3 :=
  ⟨fun n hn => ⟨(k.1 n hn).1.trans (h.1 n hn).1, (k.1 n hn).2.1.trans (h.1 n hn).2.1, (k.1 n hn).2.2.1.trans (h.1 n hn).2.2.1, (k.1 n hn).2.2.2.trans (h.1 n hn).2.2.2⟩, fun r hr => ⟨(k.2.1 r hr).1.trans (h.2.1 r hr).1, (k.2.1 r hr).2.trans (h.2.1 r hr).2⟩, fun v hv => (k.2.2 v hv).trans (h.2.2 v hv)⟩
theorem Ge.trans (h : Ge M g R W C Z T M2) (k : Ge M2 g R W C Z T M3) : Ge M g R W C Z T M3 := by
  obtain ⟨h0, h1, h2, h3, h4⟩ := h
  obtain ⟨k0, k1, k2, k3, k4⟩ := k
  refine ⟨h0.trans k0, fun r hr => ⟨(k1 r hr).1.trans (h1 r hr).1, (k1 r hr).2.1.trans (h1 r hr).2.1, (k1 r hr).2.2.trans (h1 r hr).2.2⟩, fun v hv => ⟨(k2 v hv).1.trans (h2 v hv).1, (k2 v hv).2.1.trans (h2 v hv).2.1, (k2 v hv).2.2.trans (h2 v hv).2.2⟩, fun c hc => ⟨(k3 c hc).1.trans (h3 c hc).1, (k3 c hc).2.1.trans (h3 c hc).2.1, fun b hb => ⟨((k3 c hc).2.2 b hb).1.trans ((h3 c hc).2.2 b hb).1, ((k3 c hc).2.2 b hb).2.1.trans ((h3 c hc).2.2 b hb).2.1, ((k3 c hc).2.2 b hb).2.2.trans ((h3 c hc).2.2 b hb).2.2⟩⟩, fun i hi => ⟨(k4 i hi).1.trans (h4 i hi).1, (k4 i hi).2.trans (h4 i hi).2⟩⟩
theorem Ge.refl : Ge M g R W C Z T M := ⟨⟨fun _ _ => ⟨rfl, rfl, rfl, rfl⟩, fun _ _ => ⟨rfl, rfl⟩, fun _ _ => rfl⟩, fun _ _ => ⟨rfl, rfl, rfl⟩, fun _ _ => ⟨rfl, rfl, rfl⟩, fun _ _ => ⟨rfl, rfl, fun _ _ => ⟨rfl, rfl, rfl⟩⟩, fun _ _ => ⟨rfl, rfl⟩⟩
theorem Ge.down {R' W' C' Z' T' : Nat} (h : Ge M g R' W' C' Z' T' M2) (hR : R ≤ R') (hW : W ≤ W') (hC : C ≤ C') (hZ : Z ≤ Z') (hT : T ≤ T') : Ge M g R W C Z T M2 :=
  ⟨⟨fun n hn => h.1.1 n (by omega), fun r hr => h.1.2.1 r (by omega), fun v hv => h.1.2.2 v (by omega)⟩, fun r hr => h.2.1 r (by omega), fun v hv => h.2.2.1 v (by omega), fun c hc => h.2.2.2.1 c (by omega), fun i hi => h.2.2.2.2 i (by omega)⟩
theorem n30 (hg : g = a + 13 ∨ g = a + 49) : g + 30 ∈ nums a := by
  rcases hg with z | z <;> rw [z, Nat.add_assoc] <;> exact nums_o (by decide)
theorem n32 (hg : g = a + 13 ∨ g = a + 49) : g + 32 ∈ nums a := by
  rcases hg with z | z <;> rw [z, Nat.add_assoc] <;> exact nums_o (by decide)
theorem n34 (hg : g = a + 13 ∨ g = a + 49) : g + 34 ∈ nums a := by
  rcases hg with z | z <;> rw [z, Nat.add_assoc] <;> exact nums_o (by decide)
/-- a step that leaves the game's cells and set lists -/
theorem ge_mv (w : Wd M a) (hg : g = a + 13 ∨ g = a + 49) (m : Mv P S M a M') (hin : ∀ q, P q → q ∈ nums a) (h30 : ¬ P (g + 30)) (h34 : ¬ P (g + 34)) (hS : ∀ i, 13 ≤ i → i ≤ 29 → ¬ S (g + i)) (hn : ∀ n, n < T → so M' g n = so M g n ∧ va M' g n = va M g n ∧ fp M' g n = fp M g n ∧ np M' g n = np M g n) : Ge M g R W C Z T M' := by
  have c13 := m.cellL w hin (goffx (i := 13) hg (by decide) (by decide)) (hS 13 (by omega) (by omega))
  have c14 := m.cellL w hin (goffx (i := 14) hg (by decide) (by decide)) (hS 14 (by omega) (by omega))
  have c15 := m.cellL w hin (goffx (i := 15) hg (by decide) (by decide)) (hS 15 (by omega) (by omega))
  have c16 := m.cellL w hin (goffx (i := 16) hg (by decide) (by decide)) (hS 16 (by omega) (by omega))
  have c17 := m.cellL w hin (goffx (i := 17) hg (by decide) (by decide)) (hS 17 (by omega) (by omega))
  have c18 := m.cellL w hin (goffx (i := 18) hg (by decide) (by decide)) (hS 18 (by omega) (by omega))
  have c19 := m.cellL w hin (goffx (i := 19) hg (by decide) (by decide)) (hS 19 (by omega) (by omega))
  have c20 := m.cellL w hin (goffx (i := 20) hg (by decide) (by decide)) (hS 20 (by omega) (by omega))
  have c21 := m.cellL w hin (goffx (i := 21) hg (by decide) (by decide)) (hS 21 (by omega) (by omega))
  have c24 := m.cellL w hin (goffx (i := 24) hg (by decide) (by decide)) (hS 24 (by omega) (by omega))
  have c25 := m.cellL w hin (goffx (i := 25) hg (by decide) (by decide)) (hS 25 (by omega) (by omega))
  have c26 := m.cellL w hin (goffx (i := 26) hg (by decide) (by decide)) (hS 26 (by omega) (by omega))
  have c28 := m.cellL w hin (goffx (i := 28) hg (by decide) (by decide)) (hS 28 (by omega) (by omega))
  have c29 := m.cellL w hin (goffx (i := 29) hg (by decide) (by decide)) (hS 29 (by omega) (by omega))
  have s30 := m.lst (n30 hg) h30
  have s34 := m.lst (n34 hg) h34
  exact ⟨⟨hn, fun r _ => ⟨by rw [c13.1], by rw [c14.1]⟩, fun v _ => by rw [c18.1]⟩, fun r _ => ⟨by rw [c15.1], by rw [c16.2], by rw [c17.2]⟩, fun v _ => ⟨by rw [c19.1], by rw [c20.1], by rw [c21.1]⟩, fun c _ => ⟨by rw [c24.1], by rw [c25.1], fun b _ => ⟨by rw [c26.1], by rw [c28.1], by rw [c29.1]⟩⟩, fun i _ => ⟨s30.2.1 i, s34.2.1 i⟩⟩
/-- an int of a cell that belongs to no list -/
theorem mv_cell {x j : Nat} {v : Int} (hv : i32 v) (hO : mOk M) (w : Wd M a) (h0 : a ≤ x) (hx : x < a + 21192 ∧ x ∉ nums a ∧ (∀ q, q ∈ nums a → x ≠ q + 1)) (e : M' = mUI M x j v) : Mv (fun _ => False) (fun y => y = x) M a M' ∧ (∀ y k, mI M' y k = if y = x ∧ k = j then v else mI M y k) ∧ mL M' = mL M := by
  have f : FI (fun y => y = x) M M' := by rw [e]; exact FI.ui rfl
  refine ⟨mv_fi (by rw [e]; exact mOk_UI hO hv) w f (fun y z => by rw [z]; exact ⟨h0, by omega, hx.2.1, hx.2.2⟩), fun y k => by rw [e, mI_UI], f.2.2.2.1⟩
/-- a store beyond what is known -/
theorem ge_st {i j : Nat} {v : Int} (hg : g = a + 13 ∨ g = a + 49) (m : Mv (fun _ => False) (fun y => y = g + i) M a M') (f : ∀ y k, mI M' y k = if y = g + i ∧ k = j then v else mI M y k) (hl : mL M' = mL M) (h0 : i ≤ 15 → R ≤ j) (h1 : 18 ≤ i → i ≤ 21 → W ≤ j) (h2 : i = 24 ∨ i = 25 → C ≤ j) (h3 : 26 ≤ i → 8 * C ≤ j) : Ge M g R W C Z T M' := by
  have no : ∀ q : Nat, ¬ False := fun _ z => z
  have s : ∀ {q}, q ∈ nums a → sameN M M' q := fun hq => m.lst hq (fun z => z)
  refine ⟨⟨fun n _ => ⟨(s (tL_in (q := g + 1) hg (by omega))).2.1 n, (s (tL_in (q := g + 7) hg (by omega))).2.1 n, (s (tL_in (q := g + 9) hg (by omega))).2.1 n, (s (tL_in (q := g + 11) hg (by omega))).2.1 n⟩, fun r hr => ⟨?_, ?_⟩, fun v hv => ?_⟩, fun r hr => ⟨?_, by rw [hl], by rw [hl]⟩, fun v hv => ⟨?_, ?_, ?_⟩, fun c hc => ⟨?_, ?_, fun b hb => ⟨?_, ?_, ?_⟩⟩, fun i _ => ⟨(s (n30 hg)).2.1 i, (s (n34 hg)).2.1 i⟩⟩
  all_goals rw [f, if_neg (fun z => by omega)]
/-- a long beyond what is known -/
theorem ge_sl {i j : Nat} {v : Int} (hg : g = a + 13 ∨ g = a + 49) (m : Mv (fun _ => False) (fun y => y = g + i) M a M') (f : ∀ y k, mL M' y k = if y = g + i ∧ k = j then v else mL M y k) (hl : mI M' = mI M) (h0 : R ≤ j) : Ge M g R W C Z T M' := by
  have s : ∀ {q}, q ∈ nums a → sameN M M' q := fun hq => m.lst hq (fun z => z)
  refine ⟨⟨fun n _ => ⟨(s (tL_in (q := g + 1) hg (by omega))).2.1 n, (s (tL_in (q := g + 7) hg (by omega))).2.1 n, (s (tL_in (q := g + 9) hg (by omega))).2.1 n, (s (tL_in (q := g + 11) hg (by omega))).2.1 n⟩, fun r hr => by rw [hl]; exact ⟨rfl, rfl⟩, fun v hv => by rw [hl]⟩, fun r hr => ⟨by rw [hl], ?_, ?_⟩, fun v hv => by rw [hl]; exact ⟨rfl, rfl, rfl⟩, fun c hc => by rw [hl]; exact ⟨rfl, rfl, fun _ _ => ⟨rfl, rfl, rfl⟩⟩, fun i _ => ⟨(s (n30 hg)).2.1 i, (s (n34 hg)).2.1 i⟩⟩
  all_goals rw [f, if_neg (fun z => by omega)]
/-- the draft's words, names and nodes after such a step -/
theorem Lc.mv (h : Lc M a g N T K) (m : Mv P S M a M') (hin : ∀ q, P q → q ∈ nums a) (hP : ∀ q, P q → ¬ (q = a + 1 ∨ q = a + 3 ∨ q = a + 5 ∨ q = a + 7 ∨ q = a + 9 ∨ q = a + 85 ∨ q = a + 87 ∨ q = a + 89 ∨ q = g + 1 ∨ q = g + 3 ∨ q = g + 5 ∨ q = g + 7 ∨ q = g + 9 ∨ q = g + 11)) (h6 : mI M g 6 ≤ mI M' g 6) (h12 : mI M g 12 ≤ mI M' g 12) (hb : mI M' g 6 ≤ 60 ∧ mI M' g 12 ≤ 12) (h13 : ∀ r : Nat, (r : Int) < mI M g 6 → mI M' (g + 13) r = mI M (g + 13) r) : Lc M' a g N T K := by
  obtain ⟨hO, hx, hnm, hd, h10, hg, hB, hT⟩ := h
  have w := hx.1.1
  have t2 : ¬ P (mR M a 2) := fun z => by
    have := hP _ z
    rcases w.1.2.1 with y | y <;> rw [y.2] at this <;> omega
  have k85 := m.lst (n85 (a := a)) (fun z => hP _ z (by omega))
  have k87 := m.lst (n87 (a := a)) (fun z => hP _ z (by omega))
  have k89 := m.lst (n89 (a := a)) (fun z => hP _ z (by omega))
  refine ⟨m.1, hx.mv m hin (fun z => hP _ z (by omega)) (fun z => hP _ z (by omega)) (fun z => hP _ z (by omega)) t2, ?_, fun q hq => ?_, by rw [m.rfl_a w hin]; exact h10, hg, ⟨by omega, hb.1, by omega, hb.2⟩, hT⟩
  · obtain ⟨n1, n2, n3, n4, n5'⟩ := hnm
    refine ⟨by rw [k85.1]; exact n1, by rw [k87.1]; exact n2, by rw [k89.1]; exact n3, n4, fun k hk => ?_⟩
    rw [k85.2.1, k87.2.1, k89.2.1]
    obtain ⟨p1, p2, p3⟩ := n5' k hk
    refine ⟨p1, by omega, fun z => ?_⟩
    rw [h13 _ (by omega)]
    exact p3 z
  · have hq' : q = g + 1 ∨ q = g + 3 ∨ q = g + 5 ∨ q = g + 7 ∨ q = g + 9 ∨ q = g + 11 := hq
    rw [(m.lst (tL_in hg hq) (fun z => hP _ z (by omega))).1]
    exact hd q hq
/-- what reading items may change -/
abbrev itP (a g : Nat) : Nat → Prop := fun q => q ∈ nums a ∧ ((g + 1 ≤ q ∧ q ≤ g + 34) ∨ (a + 85 ≤ q ∧ q ≤ a + 99))
abbrev itS (a g : Nat) : Nat → Prop := fun x => x = a ∨ (g ≤ x ∧ x ≤ g + 29) ∨ (a + 97 ≤ x ∧ x ≤ a + 104)
def iF (M : mM) (a g : Nat) (M' : mM) : Prop := Mv (itP a g) (itS a g) M a M' ∧ ∀ i, i ≠ 16 → i ≠ 17 → i ≠ 23 → mI M' a i = mI M a i
theorem itP_lt (w : Wd M a) : ∀ q, itP a g q → q < mZ M := fun q hq => w.lt hq.1
theorem iF.refl (hO : mOk M) (w : Wd M a) : iF M a g M := ⟨Mv.refl hO w (itP_lt w), fun _ _ _ _ => rfl⟩
theorem iF.trans (h : iF M a g M2) (k : iF M2 a g M3) : iF M a g M3 := ⟨h.1.trans k.1, fun i i1 i2 i3 => (k.2 i i1 i2 i3).trans (h.2 i i1 i2 i3)⟩
theorem iF.mk (w : Wd M a) (m : Mv P S M a M') (hP : ∀ q, P q → itP a g q) (hS : ∀ x, S x → itS a g x) (hf : ∀ i, i ≠ 16 → i ≠ 17 → i ≠ 23 → mI M' a i = mI M a i) : iF M a g M' := ⟨m.mono hP hS (itP_lt w), hf⟩
theorem EO.it {F : Prop} {R W T : Nat} (w : Wd M a) (h : EO F M a g R W T M') : iF M a g M' := by
  refine iF.mk w h.1 (fun q hq => ⟨by rw [hq]; exact n99, by omega⟩) (fun x hx => ?_) h.2.2
  have : x = a ∨ x = a + 97 ∨ x = a + 98 ∨ x = a + 102 ∨ x = a + 103 ∨ x = a + 104 := hx
  show x = a ∨ (g ≤ x ∧ x ≤ g + 29) ∨ (a + 97 ≤ x ∧ x ≤ a + 104)
  omega
end FR
end
section
/-! The reference: a rule item. -/
section RI
variable {G : mG} {d a g R W C Z T N K : Nat} {M M' M2 M3 : mM} {E : Nat → Nat} {tg : Int}
/-- the draft at the end of an item -/
def Df (M : mM) (a g N T K R W C Z : Nat) (E : Nat → Nat) (tg : Int) : Prop := Lc M a g N T K ∧ (mI M g 6 = R ∧ mI M g 12 = W ∧ mI M g 18 = C ∧ mI M g 17 = tg) ∧ (ln M (g + 30) = Z ∧ ln M (g + 32) = Z ∧ ln M (g + 34) = Z) ∧ K = R + W ∧ Dg M g R W C Z T E tg
/-- an item has been read: a fault was told, or the draft is sound -/
def itQ (M : mM) (a g N k : Nat) (M' : mM) : Prop := iF M a g M' ∧ (mI M' a 16 ≠ 0 ∨ (mI M' a 16 = 0 ∧ ∃ (T K R W C Z : Nat) (E : Nat → Nat) (tg : Int), Df M' a g N T K R W C Z E tg ∧ T ≤ k ∧ Z ≤ k))
theorem st_it {c p : Int} {k : Nat} (w : Wd M a) (hc : c ≠ 0) (h : Mv (fun _ => False) (fun x => x = a) M a M' ∧ mI M' a 16 = c ∧ mI M' a 17 = p ∧ ∀ i, i ≠ 16 → i ≠ 17 → mI M' a i = mI M a i) : itQ M a g N k M' :=
  ⟨iF.mk w h.1 (fun q z => z.elim) (fun x z => Or.inl z) (fun i i1 i2 _ => h.2.2.2 i i1 i2), Or.inl (by rw [h.2.1]; exact hc)⟩
/-- a fault is told at a word -/
theorem s_st_it {c : Int} {k k' : Nat} (hc : c ≠ 0) (hc2 : i32 c) (h : Lc M a g N T K) (hk : k < N) : Ci G y_MM_place0 (d + 1) [vr a, vi k] M (fun x M2 => i32 x ∧ mOk M2 ∧ (mK M2 a = 14 ∧ Cv G y_MM_stop (d + 1) [vr a, vi c, vi x] M2 (fun M3 => mOk M3 ∧ (mOk M3 ∧ itQ M a g N k' M3)))) := by
  have w := h.2.1.1.1
  refine (s_MM_place0 (d := d) h.1 h.2.1 hk).mono (fun y M4 h4 => ?_)
  obtain ⟨e4, hy⟩ := h4
  subst e4
  have hy32 : i32 y := by rw [hy]; exact (h.1 _ _).1
  refine ⟨hy32, h.1, w.1.1, (s_MM_stop hc2 hy32 h.1 w).mono (fun M5 h5 => ⟨h5.1.1, h5.1.1, st_it w hc h5⟩)⟩
/-- a name is known -/
theorem Lc.kn {u v x : Int} (h : Lc M a g N T K) (hK : K < 200) (m : Mv (knP a) (fun _ => False) M a M') (l : ln M' (a + 85) = (K + 1 : Nat) ∧ ln M' (a + 87) = (K + 1 : Nat) ∧ ln M' (a + 89) = (K + 1 : Nat)) (o : ∀ j, j < K → nt M' (a + 85) j = nt M (a + 85) j ∧ nt M' (a + 87) j = nt M (a + 87) j ∧ nt M' (a + 89) j = nt M (a + 89) j) (e1 : nt M' (a + 85) K = u) (e2 : nt M' (a + 87) K = v) (e3 : nt M' (a + 89) K = x) (hu : 0 ≤ u ∧ u < N) (hv : (v = 3 ∧ 0 ≤ x ∧ x < mI M g 12) ∨ ((v = 1 ∨ v = 2) ∧ 0 ≤ x ∧ x < mI M g 6)) (h1 : v = 1 → mI M (g + 13) x.toNat = 0) : Lc M' a g N T (K + 1) ∧ mI M' g = mI M g ∧ mI M' a = mI M a := by
  obtain ⟨hO, hx, hnm, hd, h10, hg, hB, hT⟩ := h
  have w := hx.1.1
  have hin : ∀ q, knP a q → q ∈ nums a := fun q hq => knP_in hq
  have a0 := goff0 hg
  have gI := m.cell w hin a0.1 a0.2.1 a0.2.2.1 (fun z => z)
  have o13 := goffx (i := 13) hg (by decide) (by decide)
  have g13 := m.cell w hin o13.1 o13.2.1 o13.2.2 (fun z => z)
  have h2 : ¬ knP a (mR M a 2) := by
    rcases w.1.2.1 with y | y <;> rw [y.2] <;> omega
  refine ⟨⟨m.1, hx.mv m hin (by omega) (by omega) (by omega) h2, ⟨l.1, l.2.1, l.2.2, by omega, fun k hk => ?_⟩, fun q hq => ?_, by rw [m.rfl_a w hin]; exact h10, hg, by rw [gI]; exact hB, hT⟩, gI, (m.fld w hin (fun z => z)).1⟩
  · rw [gI, g13]
    by_cases z : k = K
    · rw [z, e1, e2, e3]
      exact ⟨hu, hv, h1⟩
    · obtain ⟨o1, o2, o3⟩ := o k (by omega)
      rw [o1, o2, o3]
      exact hnm.2.2.2.2 k (by omega)
  · have hq' : q = g + 1 ∨ q = g + 3 ∨ q = g + 5 ∨ q = g + 7 ∨ q = g + 9 ∨ q = g + 11 := hq
    rw [(m.lst (tL_in hg hq) (by omega)).1]
    exact hd q hq
theorem ge_kn (w : Wd M a) (hg : g = a + 13 ∨ g = a + 49) (m : Mv (knP a) (fun _ => False) M a M') : Ge M g R W C Z T M' ∧ ln M' (g + 30) = ln M (g + 30) ∧ ln M' (g + 32) = ln M (g + 32) ∧ ln M' (g + 34) = ln M (g + 34) := by
  have nn : ∀ n, so M' g n = so M g n ∧ va M' g n = va M g n ∧ fp M' g n = fp M g n ∧ np M' g n = np M g n := fun n => ⟨(m.lst (tL_in (q := g + 1) hg (by omega)) (by omega)).2.1 n, (m.lst (tL_in (q := g + 7) hg (by omega)) (by omega)).2.1 n, (m.lst (tL_in (q := g + 9) hg (by omega)) (by omega)).2.1 n, (m.lst (tL_in (q := g + 11) hg (by omega)) (by omega)).2.1 n⟩
  exact ⟨ge_mv w hg m (fun q hq => knP_in hq) (by omega) (by omega) (fun _ _ _ z => z) (fun n _ => nn n), (m.lst (n30 hg) (by omega)).1, (m.lst (n32 hg) (by omega)).1, (m.lst (n34 hg) (by omega)).1⟩
theorem knP_it {q : Nat} (h : knP a q) : itP a g q := ⟨knP_in h, by have : q = a + 85 ∨ q = a + 87 ∨ q = a + 89 := h; omega⟩
/-- the game's own numbers after a step elsewhere -/
theorem Mv.gI {P S : Nat → Prop} (m : Mv P S M a M') (w : Wd M a) (hg : g = a + 13 ∨ g = a + 49) (hin : ∀ q, P q → q ∈ nums a) (hS : ¬ S g) : mI M' g = mI M g := by
  have a0 := goff0 hg
  exact m.cell w hin a0.1 a0.2.1 a0.2.2.1 hS
end RI
end
section
/-! The reference: a rule item, to its end. -/
section RI2
variable {G : mG} {d a g R W C Z T N K : Nat} {M M' M2 M3 : mM} {E : Nat → Nat} {tg : Int}
theorem Lc.wd {k : Nat} {Q : Int → mM → Prop} (h : Lc M a g N T K) (hk : k < N) (hQ : ∀ z, z = wk M a k → i32 z → Q z M) : Ci G y_MM_word1 (d + 1) [vr a, vi k] M Q := by
  refine (s_MM_word1 (d := d) h.1 h.2.1.1 hk).mono (fun z M1 e1 => ?_)
  obtain ⟨e1, hz⟩ := e1
  subst e1
  exact hQ z hz (by rw [hz]; exact wk32 h.1)
theorem Lc.fd {k : Nat} {Q : Int → mM → Prop} (h : Lc M a g N T K) (hk : k < N) (hQ : ∀ z : Int, -1 ≤ z → z < K → Q z M) : Ci G y_MM_find (d + 3) [vr a, vi k] M Q := by
  refine (s_MM_find (d := d) h.1 h.2.1 h.2.2.1 hk).mono (fun z M1 e1 => ?_)
  obtain ⟨e1, z1, z2⟩ := e1
  subst e1
  exact hQ z z1 z2
/-- a number of the game is stored -/
theorem gsti {i j : Nat} {v : Int} (h : Lc M a g N T K) (hv : i32 v) (hi : 13 ≤ i ∧ i ≤ 29) (f1 : frO (13 + i)) (f2 : frO (49 + i)) (h13 : i = 13 → mI M g 6 ≤ j) (e : M' = mUI M (g + i) j v) : Lc M' a g N T K ∧ iF M a g M' ∧ (mI M' g = mI M g ∧ mI M' a = mI M a) ∧ Mv (fun _ => False) (fun y => y = g + i) M a M' ∧ (∀ y k, mI M' y k = if y = g + i ∧ k = j then v else mI M y k) ∧ mL M' = mL M := by
  have hg := h.2.2.2.2.2.1
  have hB := h.2.2.2.2.2.2.1
  have w := h.2.1.1.1
  obtain ⟨m, f, l⟩ := mv_cell hv h.1 w (show a ≤ g + i by omega) (goffx hg f1 f2) e
  have no : ∀ q : Nat, False → q ∈ nums a := fun _ z => z.elim
  have gI := m.gI w hg no (by omega)
  have aI := (m.fld w no (by omega)).1
  refine ⟨h.mv m no (fun _ z => z.elim) (by rw [gI]; omega) (by rw [gI]; omega) (by rw [gI]; omega) (fun r hr => ?_), iF.mk w m (fun _ z => z.elim) (fun x z => Or.inr (Or.inl (by omega))) (fun i _ _ _ => by rw [aI]), ⟨gI, aI⟩, m, f, l⟩
  rw [f, if_neg (fun z => by
    have := h13 (by omega)
    omega)]
/-- a long of the game is stored -/
theorem gstl {i j : Nat} {v : Int} (h : Lc M a g N T K) (hv : i64 v) (hi : i = 16 ∨ i = 17) (e : M' = mUL M (g + i) j v) : Lc M' a g N T K ∧ iF M a g M' ∧ mI M' = mI M ∧ Mv (fun _ => False) (fun y => y = g + i) M a M' ∧ (∀ y k, mL M' y k = if y = g + i ∧ k = j then v else mL M y k) := by
  have hg := h.2.2.2.2.2.1
  have hB := h.2.2.2.2.2.2.1
  have w := h.2.1.1.1
  obtain ⟨m, f, l⟩ := mv_ul hv h.1 w e
  have no : ∀ q : Nat, False → q ∈ nums a := fun _ z => z.elim
  exact ⟨h.mv m no (fun _ z => z.elim) (by rw [l]; omega) (by rw [l]; omega) (by rw [l]; omega) (fun r hr => by rw [l]), iF.mk w m (fun _ z => z.elim) (fun x z => Or.inr (Or.inl (by omega))) (fun i _ _ _ => by rw [l]), l, m, f⟩
theorem rlP_it {q : Nat} (hg : g = a + 13 ∨ g = a + 49) (h : rlP a g q) : itP a g q := by
  refine ⟨rlP_in hg h, ?_⟩
  have : ((q = g + 1 ∨ q = g + 3 ∨ q = g + 5 ∨ q = g + 7 ∨ q = g + 9 ∨ q = g + 11) ∨ q = a + 91) ∨ (q = a + 93 ∨ q = a + 95 ∨ q = g + 7) := h
  omega
/-- a rule has been read: what is the same -/
theorem rlR.ge {co r : Int} {T' : Nat} (hL : Lc M a g N T K) (h : rlR co M a g N T K T' r M3) : iF M a g M3 ∧ (mI M3 a 16 = 0 → Ge M g R W C Z T M3) ∧ ln M3 (g + 30) = ln M (g + 30) ∧ ln M3 (g + 32) = ln M (g + 32) ∧ ln M3 (g + 34) = ln M (g + 34) := by
  obtain ⟨R1, R2, R3, R4, R5, R6⟩ := h
  have hg := hL.2.2.2.2.2.1
  have w := hL.2.1.1.1
  have hin : ∀ q, rlP a g q → q ∈ nums a := fun q hq => rlP_in hg hq
  have no : ∀ i, 30 ≤ i → i ≤ 34 → ¬ rlP a g (g + i) := fun i i1 i2 z => by
    have : ((g + i = g + 1 ∨ g + i = g + 3 ∨ g + i = g + 5 ∨ g + i = g + 7 ∨ g + i = g + 9 ∨ g + i = g + 11) ∨ g + i = a + 91) ∨ (g + i = a + 93 ∨ g + i = a + 95 ∨ g + i = g + 7) := z
    omega
  refine ⟨iF.mk w R1 (fun q hq => rlP_it hg hq) (fun x hx => Or.inl hx) (fun i i1 i2 _ => R3 i i1 i2), fun z => ?_, (R1.lst (n30 hg) (no 30 (by omega) (by omega))).1, (R1.lst (n32 hg) (no 32 (by omega) (by omega))).1, (R1.lst (n34 hg) (no 34 (by omega) (by omega))).1⟩
  rcases R6 with y | ⟨-, -, y⟩
  · exact absurd z y
  · exact ge_mv w hg R1 hin (no 30 (by omega) (by omega)) (no 34 (by omega) (by omega)) (fun i i1 i2 (z : g + i = a) => by omega) y
/-- after working out, the draft's words, names and nodes -/
theorem EO.lc {F : Prop} {R' W' T' : Nat} (h : Lc M a g N T K) (k : EO F M a g R' W' T' M') : Lc M' a g N T K ∧ mI M' g = mI M g ∧ Ge M g R W C Z T M' ∧ ln M' (g + 30) = ln M (g + 30) ∧ ln M' (g + 32) = ln M (g + 32) ∧ ln M' (g + 34) = ln M (g + 34) := by
  have hg := h.2.2.2.2.2.1
  have hB := h.2.2.2.2.2.2.1
  have w := h.2.1.1.1
  have hin : ∀ q, q = a + 99 → q ∈ nums a := fun q hq => by rw [hq]; exact n99
  have ns : ∀ i, i ≤ 29 → ¬ woS a (g + i) := fun i i1 z => by
    have : g + i = a ∨ g + i = a + 97 ∨ g + i = a + 98 ∨ g + i = a + 102 ∨ g + i = a + 103 ∨ g + i = a + 104 := z
    omega
  have gI := k.1.gI w hg hin (ns 0 (by omega))
  have gs := k.gs w
  exact ⟨h.mv k.1 hin (fun q hq => by omega) (by rw [gI]; omega) (by rw [gI]; omega) (by rw [gI]; omega) (fun r _ => by rw [gs.1]), gI, ge_mv w hg k.1 hin (by omega) (by omega) (fun i _ i2 => ns i i2) (fun n _ => k.nod n), (k.1.lst (n30 hg) (by omega)).1, (k.1.lst (n32 hg) (by omega)).1, (k.1.lst (n34 hg) (by omega)).1⟩
end RI2
end
section
/-! The reference: ruleItem. -/
section RI3
variable {G : mG} {d a g R W C Z T N K : Nat} {M : mM} {E : Nat → Nat} {tg : Int}
theorem s_ri187 {k T' : Nat} {v6 : Int} {E' : Nat → Nat} {M9 : mM} (h : Df M a g N T K R W C Z E tg) (hR : R < 60) (hk : k + 1 < N) (hT' : T' ≤ k + 20000) {e : Nat} (hTe : T' ≤ e) (hZe : Z ≤ e) (i6 : i32 v6) (L9 : Lc M9 a g N T' K) (I9 : iF M a g M9) (gI9 : mI M9 g = mI M g) (z30 : ln M9 (g + 30) = ln M (g + 30)) (z32 : ln M9 (g + 32) = ln M (g + 32)) (z34 : ln M9 (g + 34) = ln M (g + 34)) (h13 : mI M9 (g + 13) R = v6) (hD9 : mI M9 a 16 = 0 → Dg M9 g (R + 1) W C Z T' E' tg) : h_MM_ruleItem_187 G (d + 6) a k v6 R M9 (fun M' => mOk M' ∧ itQ M a g N e M') := by
  obtain ⟨hL, ⟨g6, g12, g18, g17⟩, ⟨y30, y32, y34⟩, hK, hD⟩ := id h
  have hN := hL.2.1.1.2.2
  have hg := hL.2.2.2.2.2.1
  have hW := hD.1
  have w9 := L9.2.1.1.1
  have d9 : mR M9 a 10 = g := L9.2.2.2.2.1
  refine k_MM_ruleItem_187 L9.1 (i32s (by omega) (by omega)) i6 (i32s (by omega) (by omega)) ?_
  rw [d9]
  refine ⟨w9.1.1, (w9.gp hg).1, i32s (by omega) (by omega), fun M1 e1 v hv => ?_⟩
  have a0 := goff0 hg
  obtain ⟨m1, f1, l1⟩ := mv_cell (v := (R : Int) + 1) (i32s (by omega) (by omega)) L9.1 w9 (show a ≤ g by omega) ⟨a0.1, a0.2.1, a0.2.2.1⟩ e1
  have no : ∀ q : Nat, False → q ∈ nums a := fun _ z => z.elim
  have aI1 := (m1.fld w9 no (by omega)).1
  have g1 : ∀ i, mI M1 g i = if i = 6 then (R : Int) + 1 else mI M g i := fun i => by
    rw [f1]
    by_cases z : i = 6
    · rw [if_pos ⟨rfl, z⟩, if_pos z]
    · rw [if_neg (fun y => z y.2), if_neg z, gI9]
  have x6 : mI M1 g 6 = (R : Int) + 1 := by rw [g1, if_pos rfl]
  have x12 : mI M1 g 12 = W := by rw [g1, if_neg (by omega), g12]
  have L1 : Lc M1 a g N T' K := L9.mv m1 no (fun _ z => z.elim) (by rw [x6, gI9, g6]; omega) (by rw [x12, gI9, g12]; omega) ⟨by omega, by omega⟩ (fun r _ => by rw [f1, if_neg (fun z => by omega)])
  have I1 : iF M a g M1 := I9.trans (iF.mk w9 m1 (fun _ z => z.elim) (fun x z => Or.inr (Or.inl (by omega))) (fun i _ _ _ => by rw [aI1]))
  have w1 := m1.2.1
  have hK2 : K ≤ 72 := by omega
  have hv' : v = 1 ∨ v = 2 := by split at hv <;> omega
  refine (s_MM_know (d := d + 5) (u := (k : Int) + 1) (i32s (by omega) (by omega)) (i32s (by omega) (by omega)) (i32s (by omega) (by omega)) L1.1 w1 L1.2.2.1.1 L1.2.2.1.2.1 L1.2.2.1.2.2.1 (by omega)).mono (fun M2 t => ?_)
  obtain ⟨o2, m2, l2, p2, e2, s2, x2⟩ := t
  obtain ⟨L2, gI2, aI2⟩ := L1.kn (by omega) m2 l2 p2 e2 s2 x2 (by omega) (Or.inr ⟨hv', by omega, by omega⟩) (fun z => by
    rw [Int.toNat_natCast, f1, if_neg (fun y => by omega), h13]
    split at hv <;> omega)
  obtain ⟨G2, q30, q32, q34⟩ := ge_kn (R := R + 1) (W := W) (C := C) (Z := Z) (T := T') w1 hg m2
  have I2 : iF M a g M2 := I1.trans (iF.mk w1 m2 (fun q hq => knP_it hq) (fun _ z => z.elim) (fun i _ _ _ => by rw [aI2]))
  have no2 : ∀ q : Nat, ¬ False := fun _ z => z
  refine ⟨o2, o2, I2, ?_⟩
  have e16 : mI M2 a 16 = mI M9 a 16 := by rw [aI2, aI1]
  by_cases z16 : mI M2 a 16 = 0
  · refine Or.inr ⟨z16, T', K + 1, R + 1, W, C, Z, E', tg, ⟨L2, ⟨by rw [gI2, x6]; omega, by rw [gI2, x12], by rw [gI2, g1, if_neg (by omega), g18], by rw [gI2, g1, if_neg (by omega), g17]⟩, ⟨?_, ?_, ?_⟩, by omega, ?_⟩, hTe, hZe⟩
    · rw [q30, (m1.lst (n30 hg) (fun z => z)).1, z30, y30]
    · rw [q32, (m1.lst (n32 hg) (fun z => z)).1, z32, y32]
    · rw [q34, (m1.lst (n34 hg) (fun z => z)).1, z34, y34]
    · have D9 := hD9 (by rw [← e16]; exact z16)
      have G1 : Ge M9 g (R + 1) W C Z T' M1 := ge_mv w9 hg m1 no (fun z => z) (fun z => z) (fun i i1 i2 (z : g + i = g) => by omega) (fun n _ => ⟨(m1.lst (tL_in (q := g + 1) hg (by omega)) (fun z => z)).2.1 n, (m1.lst (tL_in (q := g + 7) hg (by omega)) (fun z => z)).2.1 n, (m1.lst (tL_in (q := g + 9) hg (by omega)) (fun z => z)).2.1 n, (m1.lst (tL_in (q := g + 11) hg (by omega)) (fun z => z)).2.1 n⟩)
      exact (D9.ge G1).ge G2
  · exact Or.inl z16
/-- a new rule's numbers are stored -/
def riS (M : mM) (a g N T K R W C Z T' f : Nat) (co v6 x3 : Int) (M6 : mM) : Prop := Lc M6 a g N T' K ∧ iF M a g M6 ∧ mI M6 g = mI M g ∧ (ln M6 (g + 30) = ln M (g + 30) ∧ ln M6 (g + 32) = ln M (g + 32) ∧ ln M6 (g + 34) = ln M (g + 34)) ∧ Ge M g R W C Z T M6 ∧ mI M6 (g + 13) R = v6 ∧ mI M6 (g + 15) R = (T : Int) ∧ tn M6 g R = x3 ∧ ∀ F : Prop, (co = 0 → F) → Ty (nme F M6 g R W) (tn M6 g) M6 g f 0 T T' (fun _ => x3)
theorem ri_a {T' : Nat} {co v6 x3 : Int} {M3 M4 M5 M6 : mM} (h : Df M a g N T K R W C Z E tg) (hR : R < 60) (t1 : T < T') (Rl : rlR co M a g N T K T' x3 M3) (z16 : mI M3 a 16 = 0) (c6 : v6 = 0 ∨ v6 = 1) (e4 : M4 = mUI M3 (g + 13) R v6) (e5 : M5 = mUI M4 (g + 14) R x3) (e6 : M6 = mUI M5 (g + 15) R (T : Int)) : (∃ f, riS M a g N T K R W C Z T' f co v6 x3 M6) ∧ Lc M4 a g N T' K ∧ Lc M5 a g N T' K := by
  obtain ⟨hL, ⟨g6, g12, g18, g17⟩, -, -, hD⟩ := h
  have hg := hL.2.2.2.2.2.1
  have hBd := hD.1.1
  have hT3 := Rl.2.1.2.2.2.2.2.2.2
  obtain ⟨I3, G3, z30, z32, z34⟩ := rlR.ge (R := R) (W := W) (C := C) (Z := Z) hL Rl
  have G3 := G3 z16
  obtain ⟨-, R2, -, R4, R5, R6⟩ := Rl
  have gI3 : mI M3 g = mI M g := R4
  obtain ⟨f, ty⟩ : ∃ f, Ty (nmr co M g) (tn M g) M3 g f 0 T T' (fun _ => x3) := by
    rcases R6 with y | ⟨-, y, -⟩
    · exact absurd z16 y
    · exact y
  clear R6
  have g63 : mI M3 g 6 ≤ R := by rw [gI3, g6]; omega
  obtain ⟨L4, I4, ⟨gI4, aI4⟩, m4, f4, l4⟩ := gsti R2 (i := 13) (i32s (by omega) (by omega)) (by omega) (by decide) (by decide) (fun _ => g63) e4
  have G4 := ge_st (R := R) (W := W) (C := C) (Z := Z) (T := T') hg m4 f4 l4 (fun _ => Nat.le_refl R) (by omega) (by omega) (by omega)
  obtain ⟨L5, I5, ⟨gI5, aI5⟩, m5, f5, l5⟩ := gsti L4 (i := 14) (i32s (by omega) (by omega)) (by omega) (by decide) (by decide) (fun z => by omega) e5
  have G5 := ge_st (R := R) (W := W) (C := C) (Z := Z) (T := T') hg m5 f5 l5 (fun _ => Nat.le_refl R) (by omega) (by omega) (by omega)
  obtain ⟨L6, I6, ⟨gI6, aI6⟩, m6, f6, l6⟩ := gsti L5 (i := 15) (i32s (by omega) (by omega)) (by omega) (by decide) (by decide) (fun z => by omega) e6
  have G6 := ge_st (R := R) (W := W) (C := C) (Z := Z) (T := T') hg m6 f6 l6 (fun _ => Nat.le_refl R) (by omega) (by omega) (by omega)
  have G36 := (G4.trans G5).trans G6
  have G06 := G3.trans (G36.down (Nat.le_refl _) (Nat.le_refl _) (Nat.le_refl _) (Nat.le_refl _) (Nat.le_of_lt t1))
  have c13 : mI M6 (g + 13) R = v6 := by rw [f6, if_neg (fun z => by omega), f5, if_neg (fun z => by omega), f4, if_pos ⟨rfl, rfl⟩]
  have c14 : mI M6 (g + 14) R = x3 := by rw [f6, if_neg (fun z => by omega), f5, if_pos ⟨rfl, rfl⟩]
  have c15 : mI M6 (g + 15) R = (T : Int) := by rw [f6, if_pos ⟨rfl, rfl⟩]
  have tn6 : tn M6 g R = x3 := by
    unfold tn
    rw [if_neg (show ¬ (100 : Int) ≤ (R : Int) by omega), Int.toNat_natCast, c14]
    split <;> omega
  have gI06 : mI M6 g = mI M g := by rw [gI6, gI5, gI4, gI3]
  have y0 : ∀ {q}, q ∈ nums a → ln M6 q = ln M3 q := fun hq => by rw [(m6.lst hq (fun z => z)).1, (m5.lst hq (fun z => z)).1, (m4.lst hq (fun z => z)).1]
  refine ⟨⟨f, L6, ((I3.trans I4).trans I5).trans I6, gI06, ⟨by rw [y0 (n30 hg), z30], by rw [y0 (n32 hg), z32], by rw [y0 (n34 hg), z34]⟩, G06, c13, c15, tn6, fun F hF => ?_⟩, L4, L5⟩
  clear c13 c14 c15 tn6 y0 f4 f5 f6 m4 m5 m6 L4 L5 L6 I3 I4 I5 I6 l4 l5 l6 G4 G5 G6 G3
  refine (ty.mono (nm' := nme F M6 g R W) (w' := tn M6 g) (fun v hv => ?_)).fr (fun n _ n2 => ⟨(G36.1.1 n n2).1, (G36.1.1 n n2).2.1, (G36.1.1 n n2).2.2.1⟩) (fun n _ n2 => (G36.1.1 n n2).2.2.2) (fun z => absurd rfl z)
  unfold nmr at hv
  rw [g6, g12] at hv
  rcases hv with ⟨h1, h2, h3, h4⟩ | ⟨h1, h2, h3, h4⟩
  · have gt := G06.1.tr (r := v.toNat) hBd (by omega)
    rw [show ((v.toNat : Nat) : Int) = v by omega] at gt
    refine ⟨Or.inl ⟨h1, h2, ?_⟩, gt⟩
    by_cases z : co = 0
    · exact Or.inl (hF z)
    · right
      rw [(G06.1.2.1 v.toNat (by omega)).1]
      exact h4 z
  · exact ⟨Or.inr ⟨hF h1, h2, h3⟩, G06.1.tv h2 h3⟩
/-- a formula -/
theorem s_ri_f {k e T' f : Nat} {x3 v6 : Int} {M6 : mM} (h : Df M a g N T K R W C Z E tg) (hR : R < 60) (hk : k + 1 < N) (t1 : T < T') (hT' : T' ≤ k + 20000) (hTe : T' ≤ e) (hZe : Z ≤ e) (i6 : i32 v6) (z0 : v6 ≠ 0) (S6 : riS M a g N T K R W C Z T' f 0 v6 x3 M6) : h_MM_ruleItem_187 G (d + 6) a k v6 R M6 (fun M' => mOk M' ∧ itQ M a g N e M') := by
  obtain ⟨L6, I6, gI6, ⟨z30, z32, z34⟩, G6, c13, c15, tn6, ty6⟩ := S6
  have D6 := h.2.2.2.2.ge G6
  refine s_ri187 h hR hk hT' hTe hZe i6 L6 I6 gI6 (E' := fun r => if r = R then T' else E r) z30 z32 z34 c13 (fun y16 => ?_)
  refine (D6.tu (Nat.le_of_lt t1)).ru hR (fun r hr => if_neg (by omega)) (fun z => absurd (c13.symm.trans z) z0) (fun _ => ⟨T, f, c15, by rw [if_pos rfl]; exact Nat.le_refl _, fun r' hr' z' => ?_, ?_⟩)
  · rw [if_neg (by omega)]
    obtain ⟨n, f', -, q2, -⟩ := D6.2.2.1 r' hr' z'
    exact q2
  · rw [if_pos rfl, tn6]
    exact ty6 True (fun _ => trivial)
/-- a constant -/
theorem s_ri_c {k e T' f : Nat} {co x3 v6 : Int} {M6 : mM} (h : Df M a g N T K R W C Z E tg) (hR : R < 60) (hk : k + 1 < N) (t1 : T < T') (hT' : T' ≤ k + 20000) (hT16 : T' ≤ 16384) (hTe : T' ≤ e) (hZe : Z ≤ e) (i6 : i32 v6) (z0 : v6 = 0) (hco : co ≠ 0) (S6 : riS M a g N T K R W C Z T' f co v6 x3 M6) : Cv G y_MM_workOut (d + 6) [vr a, vr (mR M6 a 10), vi T] M6 (fun M63 => mOk M63 ∧ (mK M63 a = 14 ∧ mK M63 (mR M63 a 10) = 16 ∧ mK M63 (mR M63 a 21) = 33 ∧ ((0 : Int) ≤ 0 ∧ 0 < (mN M63 (mR M63 a 21) : Int)) ∧ mK M63 (mR M63 (mR M63 a 10) 10) = 33 ∧ ((0 : Int) ≤ R ∧ (R : Int) < (mN M63 (mR M63 (mR M63 a 10) 10) : Int)) ∧ ∀ M72, M72 = mUL M63 (mR M63 (mR M63 a 10) 10) R (mL M63 (mR M63 a 21) 0) → mK M72 (mR M72 a 10) = 16 ∧ mK M72 (mR M72 a 22) = 33 ∧ ((0 : Int) ≤ 0 ∧ 0 < (mN M72 (mR M72 a 22) : Int)) ∧ mK M72 (mR M72 (mR M72 a 10) 11) = 33 ∧ ((0 : Int) ≤ R ∧ (R : Int) < (mN M72 (mR M72 (mR M72 a 10) 11) : Int)) ∧ ∀ M79, M79 = mUL M72 (mR M72 (mR M72 a 10) 11) R (mL M72 (mR M72 a 22) 0) → h_MM_ruleItem_187 G (d + 6) a k v6 R M79 (fun M' => mOk M' ∧ itQ M a g N e M'))) := by
  obtain ⟨L6, I6, gI6, ⟨z30, z32, z34⟩, G6, c13, c15, tn6, ty6⟩ := S6
  have hg := L6.2.2.2.2.2.1
  have hD := h.2.2.2.2
  have hBd := hD.1
  have D6 := hD.ge G6
  have w6 := L6.2.1.1.1
  have EV : Ev False M6 a g R W T' := ⟨L6.1, w6, hg, L6.2.2.2.1, ⟨hBd.1, hBd.2.1, hT16⟩, fun r hr => ⟨D6.2.1 r hr, fun z => z.elim⟩, fun z => z.elim⟩
  rw [show mR M6 a 10 = g from L6.2.2.2.2.1]
  refine (s_MM_workOut (d := d + 2) (E := E) (b := R) EV (fun z => z.elim) (Nat.le_refl _) (fun r hr z => ?_) (ty6 False (fun z => absurd z hco)) (Nat.le_refl _)).mono (fun M7 t7 => ?_)
  · obtain ⟨n, f', -, q2, -⟩ := D6.2.2.1 r hr z
    exact q2
  clear ty6 EV
  obtain ⟨o7, E7, v7⟩ := t7
  obtain ⟨L7, gI7, G7, q30, q32, q34⟩ := E7.lc (R := R) (W := W) (C := C) (Z := Z) L6
  have w7 := L7.2.1.1.1
  have d7 : mR M7 a 10 = g := L7.2.2.2.2.1
  rw [d7, show mR M7 a 21 = a + 97 from (w7.1.2.2.2.2.1.2.2.2.2.2.2).1, show mR M7 g 10 = g + 16 from (w7.gp hg).2.1.2.2.2.2.2.2.2.2.2.1]
  have b16 := (w7.gp hg).2.2.2.1.2.2.2.1
  refine ⟨o7, w7.1.1, (w7.gp hg).1, (w7.1.2.2.2.2.2.2.2.1).1.1, by rw [(w7.1.2.2.2.2.2.2.2.1).1.2]; decide, b16.1, by rw [b16.2]; omega, fun M8 e8 => ?_⟩
  obtain ⟨L8, I8, i8, m8, f8⟩ := gstl L7 (L7.1 _ _).2 (Or.inl rfl) e8
  have G8 := ge_sl (R := R) (W := W) (C := C) (Z := Z) (T := T') hg m8 f8 i8 (Nat.le_refl R)
  have w8 := L8.2.1.1.1
  have d8 : mR M8 a 10 = g := L8.2.2.2.2.1
  rw [d8, show mR M8 a 22 = a + 98 from (w8.1.2.2.2.2.1.2.2.2.2.2.2).2.1, show mR M8 g 11 = g + 17 from (w8.gp hg).2.1.2.2.2.2.2.2.2.2.2.2]
  have b17 := (w8.gp hg).2.2.2.1.2.2.2.2
  refine ⟨(w8.gp hg).1, (w8.1.2.2.2.2.2.2.2.1).2.1.1, by rw [(w8.1.2.2.2.2.2.2.2.1).2.1.2]; decide, b17.1, by rw [b17.2]; omega, fun M9 e9 => ?_⟩
  obtain ⟨L9, I9, i9, m9, f9⟩ := gstl L8 (L8.1 _ _).2 (Or.inr rfl) e9
  have G9 := ge_sl (R := R) (W := W) (C := C) (Z := Z) (T := T') hg m9 f9 i9 (Nat.le_refl R)
  have h813 : mI M9 (g + 13) R = v6 := by rw [i9, i8, (E7.gs w6).1, c13]
  have t9 : tn M9 g R = x3 := by
    rw [← tn6]
    unfold tn
    rw [if_neg (show ¬ (100 : Int) ≤ (R : Int) by omega), if_neg (show ¬ (100 : Int) ≤ (R : Int) by omega), i9, i8, (E7.gs w6).2.1]
  have a9 : mL M9 (g + 16) R = mL M7 (a + 97) 0 := by rw [f9, if_neg (fun z => by omega), f8, if_pos ⟨rfl, rfl⟩]
  have b9 : mL M9 (g + 17) R = mL M8 (a + 98) 0 := by rw [f9, if_pos ⟨rfl, rfl⟩]
  have b8 : mL M8 (a + 98) 0 = mL M7 (a + 98) 0 := by rw [f8, if_neg (fun z => by omega)]
  refine s_ri187 h hR hk hT' hTe hZe i6 L9 (((I6.trans (E7.it w6)).trans I8).trans I9) (by rw [i9, i8, gI7, gI6]) (E' := E) ?_ ?_ ?_ h813 (fun y16 => ?_)
  · rw [(m9.lst (n30 hg) (fun z => z)).1, (m8.lst (n30 hg) (fun z => z)).1, q30, z30]
  · rw [(m9.lst (n32 hg) (fun z => z)).1, (m8.lst (n32 hg) (fun z => z)).1, q32, z32]
  · rw [(m9.lst (n34 hg) (fun z => z)).1, (m8.lst (n34 hg) (fun z => z)).1, q34, z34]
  · rw [i9, i8] at y16
    rcases v7 with y | ⟨-, v7⟩
    · exact absurd y16 y
    have D9 := ((((D6.tu (Nat.le_of_lt t1)).ge G7).ge G8).ge G9)
    refine D9.ru hR (fun _ _ => rfl) (fun _ => ?_) (fun z => absurd (h813.trans z0) z)
    rw [t9, a9, b9, b8]
    exact v7
theorem s_MM_ruleItem {k e : Nat} (h : Df M a g N T K R W C Z E tg) (hw : wk M a k = 3 ∨ wk M a k = 6) (he6 : Eo (wk M a) 6 (k + 3) e) (he : e < N) (hT : T ≤ k) (hZ : Z ≤ k) : Cv G y_MM_ruleItem (d + 7) [vr a, vi k, vi e] M (fun M' => mOk M' ∧ itQ M a g N (e + 1) M') := by
  obtain ⟨hL, ⟨g6, g12, g18, g17⟩, ⟨y30, y32, y34⟩, hK, hD⟩ := id h
  obtain ⟨hO, hx, hnm, hd, h10, hg, hB, -⟩ := id hL
  have w := hx.1.1
  have hN := hx.1.2.2
  have hke := he6.pr.1
  have hBd := hD.1
  refine k_MM_ruleItem hO (i32s (by omega) (by omega)) (i32s (by omega) (by omega)) ⟨w.1.1, hL.wd (d := d + 5) (by omega) (fun x hx0 ix => ⟨ix, hO, fun v6 hv6 => ⟨w.1.1, ?_⟩⟩)⟩
  have c6 : v6 = 0 ∨ v6 = 1 := by split at hv6 <;> omega
  clear hv6
  rw [h10, g6]
  refine ⟨(w.gp hg).1, fun q => s_st_it (d := d + 5) (c := 5) (by decide) ⟨by decide, by decide⟩ hL (by omega), fun q => ?_⟩
  have hR : R < 60 := by omega
  rw [show (k : Int) + 1 = ((k + 1 : Nat) : Int) by omega, show (k : Int) + 3 = ((k + 3 : Nat) : Int) by omega]
  refine hL.fd (d := d + 3) (by omega) (fun r r0 r1 => ⟨i32s (by omega) (by omega), hO, fun q2 => ⟨w.1.1, ?_⟩, fun q2 => ⟨w.1.1, s_st_it (d := d + 5) (c := 2) (by decide) ⟨by decide, by decide⟩ hL (by omega)⟩⟩)
  rw [h10, g6]
  refine ⟨(w.gp hg).1, ?_⟩
  clear r0 r1 q2
  refine (s_MM_tree (d := d) hO hx hg h10 hd he6 he (by omega)).mono (fun r2 M2 t => ?_)
  obtain ⟨er, T', t1, t2, L2, t3, e2, m2, s2⟩ := tr_lc hL (by omega) t
  subst er
  have w2 := L2.2.1.1.1
  refine ⟨i32s (by omega) (by omega), L2.1, fun v33 hv33 => ⟨w2.1.1, (s_MM_look (d := d) (co := v33) (i32s (by split at hv33 <;> omega) (by split at hv33 <;> omega)) (fun v hv => ⟨hv.1, hv.2.1⟩) L2 t3 (Nat.le_refl _)).mono (fun x3 M3 q3 => ?_)⟩⟩
  have Rl := tl_rl hL L2 e2 m2 s2 q3
  clear q3 s2 m2 e2 t3 t
  have I3 := (rlR.ge (R := R) (W := W) (C := C) (Z := Z) hL Rl).1
  have R2 := Rl.2.1
  have R5 := Rl.2.2.2.2.1
  have w3 := R2.2.1.1.1
  have hb1 : T' ≤ k + 20000 := by omega
  have hb2 : T' ≤ 16384 := by omega
  have hb3 : T' ≤ e + 1 := by omega
  have hb4 : Z ≤ e + 1 := by omega
  have hk1 : k + 1 < N := by omega
  have i6 : i32 v6 := i32s (by omega) (by omega)
  have ix3 : i32 x3 := i32s (by omega) (by omega)
  have R60 : ((0 : Int) ≤ R ∧ (R : Int) < ((60 : Nat) : Int)) := by omega
  clear hB hBd hw hke hN t2 hd hnm y30 y32 y34 hK
  refine ⟨ix3, R2.1, w3.1.1, fun z16 => ?_, fun z16 => ⟨R2.1, I3, Or.inl z16⟩⟩
  rw [show mR M3 a 10 = g from R2.2.2.2.2.1, show mR M3 g 7 = g + 13 from (w3.gp hg).2.1.2.2.2.2.2.2.1, Int.toNat_natCast]
  have b13 := (w3.gp hg).2.2.2.1.1
  refine ⟨(w3.gp hg).1, b13.1, by rw [b13.2]; exact R60, fun M4 e4 => ?_⟩
  have La := fun M5 M6 e5 e6 => ri_a (M5 := M5) (M6 := M6) h hR t1 Rl z16 c6 e4 e5 e6
  have L4 := (La _ _ rfl rfl).2.1
  have w4 := L4.2.1.1.1
  rw [show mR M4 a 10 = g from L4.2.2.2.2.1, show mR M4 g 8 = g + 14 from (w4.gp hg).2.1.2.2.2.2.2.2.2.1]
  have b14 := (w4.gp hg).2.2.2.1.2.1
  refine ⟨(w4.gp hg).1, b14.1, by rw [b14.2]; exact R60, R5, fun M5 e5 => ?_⟩
  have L5 := (La M5 _ e5 rfl).2.2
  have w5 := L5.2.1.1.1
  rw [show mR M5 a 10 = g from L5.2.2.2.2.1, show mR M5 g 9 = g + 15 from (w5.gp hg).2.1.2.2.2.2.2.2.2.2.1]
  have b15 := (w5.gp hg).2.2.2.1.2.2.1
  refine ⟨(w5.gp hg).1, b15.1, by rw [b15.2]; exact R60, fun M6 e6 => ?_⟩
  obtain ⟨f, S6⟩ := (La M5 M6 e5 e6).1
  refine ⟨fun z0 => ?_, fun z0 => ?_⟩
  · exact s_ri_c h hR hk1 t1 hb1 hb2 hb3 hb4 i6 z0 (by rw [if_pos z0] at hv33; rw [hv33]; decide) S6
  · rw [if_neg z0] at hv33
    subst hv33
    exact s_ri_f h hR hk1 t1 hb1 hb3 hb4 i6 z0 S6
end RI3
end
section
/-! The reference: whole numbers and first values of variables. -/
section VI
variable {G : mG} {d a g R W C Z T N K : Nat} {M M2 M3 : mM} {E : Nat → Nat} {F : Prop}
theorem rwd_all {w : Nat → Int} {c i j m : Nat} (h : Eo w c i j) (h1 : i ≤ m) (h2 : m < j) : rwd (w m) := by
  have := (h.pr.2.2.2.2.1.2.2.2 (m - i) (by omega)).1
  rw [show i + (m - i) = m by omega] at this
  exact this
theorem s_MM_initOf {p i e : Nat} (h : Lc M a g N T K) (h1 : p ≤ i) (h2 : i ≤ e) (he : e < N) (hn : ∀ m, p ≤ m → m < i → wk M a m ≠ 9) (hi : i = e ∨ wk M a i = 9) : Ci G y_MM_initOf (d + 2) [vr a, vi p, vi e] M (fun x M' => M' = M ∧ x = i) := by
  have hN := h.2.1.1.2.2
  have w := h.2.1.1.1
  refine k_MM_initOf h.1 (i32s (by omega) (by omega)) (i32s (by omega) (by omega)) ?_
  suffices H : ∀ (c m : Nat), m + c = i → p ≤ m → h_MM_initOf_2 G (d + 1) a e m M (fun x M' => M' = M ∧ x = i) from H (i - p) p (by omega) (Nat.le_refl _)
  intro c
  induction c with
  | zero =>
    intro m hm hp
    have e1 : m = i := by omega
    subst e1
    refine k_MM_initOf_2 h.1 (i32s (by omega) (by omega)) (i32s (by omega) (by omega)) ⟨fun _ => ⟨rfl, rfl⟩, fun q => ⟨w.1.1, h.wd (d := d) (by omega) (fun z hz iz => ⟨iz, h.1, fun _ => ⟨rfl, rfl⟩, fun q2 => ?_⟩)⟩⟩
    rcases hi with y | y
    · omega
    · exact absurd (hz.trans y) q2
  | succ c ih =>
    intro m hm hp
    refine k_MM_initOf_2 h.1 (i32s (by omega) (by omega)) (i32s (by omega) (by omega)) ⟨fun q => by omega, fun q => ⟨w.1.1, h.wd (d := d) (by omega) (fun z hz iz => ⟨iz, h.1, fun q2 => absurd (hz.symm.trans q2) (hn m hp (by omega)), fun q2 => ?_⟩)⟩⟩
    have := ih (m + 1) (by omega) (by omega)
    rw [show ((m + 1 : Nat) : Int) = (m : Int) + 1 by omega] at this
    exact this
theorem nme.wk {v : Int} {b : Nat} (h : nme F M g b W v) : nme True M g b W v := by
  rcases h with ⟨h1, h2, -⟩ | ⟨-, h⟩
  · exact Or.inl ⟨h1, h2, Or.inl trivial⟩
  · exact Or.inr ⟨trivial, h⟩
theorem Gn.nm {v : Int} {b : Nat} (h : Gn M g R W T M2) (hb : b ≤ R) (hv : nme F M g b W v) : nme F M2 g b W v := by
  rcases hv with ⟨h1, h2, h3⟩ | h'
  · refine Or.inl ⟨h1, h2, h3.imp (fun z => z) (fun z => ?_)⟩
    rw [(h.2.1 v.toNat (by omega)).1]
    exact z
  · exact Or.inr h'
/-- a rule made of constants alone -/
def Cte (M : mM) (g R W T n : Nat) (t : Int) : Prop := ∃ f e : Nat, Ty (nme False M g R W) (tn M g) M g f 0 n e (fun _ => t) ∧ e ≤ T
theorem Cte.gn {n : Nat} {t : Int} (h : Cte M g R W T n t) (k : Gn M g R W T M2) (hR : R ≤ 60) : Cte M2 g R W T n t := by
  obtain ⟨f, e, h1, h2⟩ := h
  exact ⟨f, e, (h1.mono (nm' := nme False M2 g R W) (w' := tn M2 g) (fun v hv => ⟨k.nm (Nat.le_refl _) hv, k.tnm hR hv.wk (Nat.le_refl _)⟩)).fr (fun n _ n2 => ⟨(k.1 n (by omega)).1, (k.1 n (by omega)).2.1, (k.1 n (by omega)).2.2.1⟩) (fun n _ n2 => (k.1 n (by omega)).2.2.2) (fun z => absurd rfl z), h2⟩
theorem Cte.up {n T' : Nat} {t : Int} (h : Cte M g R W T n t) (hT : T ≤ T') : Cte M g R W T' n t := by
  obtain ⟨f, e, h1, h2⟩ := h
  exact ⟨f, e, h1, by omega⟩
theorem s_MM_wholeOf {n wd : Nat} (hL : Lc M a g N T K) (h : Ev False M a g R W T) (ht : Cte M g R W T n 0) (hwd : wd < N) : Ci G y_MM_wholeOf (d + 5) [vr a, vi n, vi wd] M (fun x M' => i32 x ∧ mOk M' ∧ EO False M a g R W T M' ∧ (mI M' a 16 = 0 → mI M a 16 = 0 ∧ -1000000000 < x ∧ x < 1000000000)) := by
  obtain ⟨f, e, ht, he⟩ := ht
  have w := h.2.1
  have hN := hL.2.1.1.2.2
  have hlt := ht.tn.lt
  have hB := h.2.2.2.2.1
  refine k_MM_wholeOf2 h.1 (i32s (by omega) (by omega)) (i32s (by omega) (by omega)) ⟨w.1.1, fun z16 => ?_, fun z16 => ⟨⟨by omega, by omega⟩, h.1, EO.refl h, fun q => absurd q z16⟩⟩
  rw [show mR M a 10 = g from hL.2.2.2.2.1]
  refine (s_MM_workOut (d := d) (E := fun _ => 0) (b := R) h (fun z => z.elim) (Nat.le_refl _) (fun _ _ _ => by omega) ht he).mono (fun M4 t4 => ?_)
  obtain ⟨o4, E4, v4⟩ := t4
  have w4 := E4.1.2.1
  have L4 := (E4.lc (R := R) (W := W) (C := 0) (Z := 0) hL).1
  rw [show mR M4 a 22 = a + 98 from (w4.1.2.2.2.2.1.2.2.2.2.2.2).2.1, show mR M4 a 21 = a + 97 from (w4.1.2.2.2.2.1.2.2.2.2.2.2).1]
  refine ⟨o4, w4.1.1, fun _ => ⟨(w4.1.2.2.2.2.2.2.2.1).2.1.1, by rw [(w4.1.2.2.2.2.2.2.2.1).2.1.2]; omega⟩, fun q => ⟨(w4.1.2.2.2.2.2.2.2.1).1.1, by rw [(w4.1.2.2.2.2.2.2.2.1).1.2]; omega, i32_w32, o4, E4, fun y16 => ⟨z16, ?_⟩⟩, fun q => ?_⟩
  · rcases v4 with y | ⟨-, y⟩
    · exact absurd y16 y
    · unfold vok at y
      rw [w32_id ⟨by omega, by omega⟩]
      omega
  · refine (s_MM_place0 (d := d + 3) o4 L4.2.1 hwd).mono (fun y M5 h5 => ?_)
    obtain ⟨e5, hy⟩ := h5
    subst e5
    have hy32 : i32 y := by rw [hy]; exact (o4 _ _).1
    refine ⟨hy32, o4, w4.1.1, (s_MM_stop ⟨by omega, by omega⟩ hy32 o4 w4).mono (fun M6 h6 => ?_)⟩
    obtain ⟨m6, f1, f2, f3⟩ := h6
    have w6 := m6.2.1
    rw [show mR M6 a 21 = a + 97 from (w6.1.2.2.2.2.1.2.2.2.2.2.2).1]
    exact ⟨m6.1, w6.1.1, (w6.1.2.2.2.2.2.2.2.1).1.1, by rw [(w6.1.2.2.2.2.2.2.2.1).1.2]; omega, i32_w32, m6.1, E4.step m6 (fun _ z => z.elim) (fun x z => Or.inl z) (fun i i1 i2 _ => f3 i i1 i2), fun q => by rw [f1] at q; exact absurd q (by decide)⟩
/-- a variable's first value is told -/
def beQ (M : mM) (a g R W T v : Nat) (M' : mM) : Prop := ∃ (M1 : mM) (x : Int), EO False M a g R W T M1 ∧ i32 x ∧ M' = mUI M1 (g + 21) v x ∧ (mI M1 a 16 = 0 → (mI M (g + 18) v = 0 → mI M (g + 19) v ≤ x ∧ x ≤ mI M (g + 20) v) ∧ (mI M (g + 18) v ≠ 0 → 0 ≤ x ∧ x ≤ 1))
theorem s_MM_begins {n wd v : Nat} {t : Int} (hL : Lc M a g N T K) (h : Ev False M a g R W T) (ht : Cte M g R W T n t) (hv : v < 12) (ht1 : mI M (g + 18) v ≠ 0 → t = 1) (ht0 : mI M (g + 18) v = 0 → t = 0) (hwd : wd < N) : Cv G y_MM_begins (d + 6) [vr a, vi v, vi n, vi wd] M (fun M' => mOk M' ∧ beQ M a g R W T v M') := by
  obtain ⟨f, e, hty, he⟩ := id ht
  have w := h.2.1
  have hg := h.2.2.1
  have hN := hL.2.1.1.2.2
  have hlt := hty.tn.lt
  have hB := h.2.2.2.2.1
  have hin : ∀ q, q = a + 99 → q ∈ nums a := fun q hq => by rw [hq]; exact n99
  have keep : ∀ (M1 : mM) (i : Nat), EO False M a g R W T M1 → i ≤ 29 → frO (13 + i) → frO (49 + i) → mI M1 (g + i) = mI M (g + i) := fun M1 i k i1 f1 f2 => (k.1.cellL w hin (goffx hg f1 f2) (fun z => by
    have : g + i = a ∨ g + i = a + 97 ∨ g + i = a + 98 ∨ g + i = a + 102 ∨ g + i = a + 103 ∨ g + i = a + 104 := z
    omega)).1
  refine k_MM_begins2 h.1 (i32s (by omega) (by omega)) (i32s (by omega) (by omega)) (i32s (by omega) (by omega)) ?_
  have b13 := (w.gp hg).2.2.2.2.1.1
  rw [show mR M a 10 = g from hL.2.2.2.2.1, show mR M g 13 = g + 18 from (w.gp hg).2.2.1.1, Int.toNat_natCast]
  refine ⟨w.1.1, (w.gp hg).1, b13.1, by rw [b13.2]; omega, fun z0 => ?_, fun z0 => ?_⟩
  · have t0 := ht0 z0
    subst t0
    refine (s_MM_wholeOf (d := d) hL h ht hwd).mono (fun x M7 t7 => ?_)
    obtain ⟨ix, o7, E7, v7⟩ := t7
    have w7 := E7.1.2.1
    have L7 := (E7.lc (R := R) (W := W) (C := 0) (Z := 0) hL).1
    have b14 := (w7.gp hg).2.2.2.2.1.2.1
    have b15 := (w7.gp hg).2.2.2.2.1.2.2.1
    have b16 := (w7.gp hg).2.2.2.2.1.2.2.2
    rw [show mR M7 a 10 = g from L7.2.2.2.2.1, show mR M7 g 14 = g + 19 from (w7.gp hg).2.2.1.2.1, show mR M7 g 15 = g + 20 from (w7.gp hg).2.2.1.2.2.1, show mR M7 g 16 = g + 21 from (w7.gp hg).2.2.1.2.2.2.1, keep M7 19 E7 (by omega) (by decide) (by decide), keep M7 20 E7 (by omega) (by decide) (by decide)]
    refine ⟨ix, o7, w7.1.1, fun _ => ⟨(w7.gp hg).1, b14.1, by rw [b14.2]; omega, fun _ => ⟨b15.1, by rw [b15.2]; omega⟩⟩, fun q => ?_, fun q => ⟨(w7.gp hg).1, b16.1, by rw [b16.2]; omega, fun M8 e8 => ⟨by rw [e8]; exact mOk_UI o7 ix, M7, x, E7, ix, e8, fun y16 => ⟨fun _ => by omega, fun y => absurd z0 y⟩⟩⟩⟩
    refine (s_MM_place0 (d := d + 4) o7 L7.2.1 hwd).mono (fun y M8 h8 => ?_)
    obtain ⟨e8, hy⟩ := h8
    subst e8
    have hy32 : i32 y := by rw [hy]; exact (o7 _ _).1
    refine ⟨hy32, o7, w7.1.1, (s_MM_stop ⟨by omega, by omega⟩ hy32 o7 w7).mono (fun M9 h9 => ?_)⟩
    obtain ⟨m9, f1, f2, f3⟩ := h9
    have w9 := m9.2.1
    have E9 := E7.step m9 (fun _ z => z.elim) (fun x z => Or.inl z) (fun i i1 i2 _ => f3 i i1 i2)
    have L9 := (E9.lc (R := R) (W := W) (C := 0) (Z := 0) hL).1
    have c16 := (w9.gp hg).2.2.2.2.1.2.2.2
    rw [show mR M9 a 10 = g from L9.2.2.2.2.1, show mR M9 g 16 = g + 21 from (w9.gp hg).2.2.1.2.2.2.1]
    exact ⟨m9.1, w9.1.1, (w9.gp hg).1, c16.1, by rw [c16.2]; omega, fun M10 e10 => ⟨by rw [e10]; exact mOk_UI m9.1 ix, M9, x, E9, ix, e10, fun y16 => by rw [f1] at y16; exact absurd y16 (by decide)⟩⟩
  · have t1 := ht1 z0
    subst t1
    refine (s_MM_workOut (d := d + 1) (E := fun _ => 0) (b := R) h (fun z => z.elim) (Nat.le_refl _) (fun _ _ _ => by omega) hty he).mono (fun M4 t4 => ?_)
    obtain ⟨o4, E4, v4⟩ := t4
    have w4 := E4.1.2.1
    have L4 := (E4.lc (R := R) (W := W) (C := 0) (Z := 0) hL).1
    have c16 := (w4.gp hg).2.2.2.2.1.2.2.2
    rw [show mR M4 a 10 = g from L4.2.2.2.2.1, show mR M4 g 16 = g + 21 from (w4.gp hg).2.2.1.2.2.2.1, show mR M4 a 21 = a + 97 from (w4.1.2.2.2.2.1.2.2.2.2.2.2).1]
    refine ⟨o4, w4.1.1, (w4.gp hg).1, (w4.1.2.2.2.2.2.2.2.1).1.1, by rw [(w4.1.2.2.2.2.2.2.2.1).1.2]; omega, c16.1, by rw [c16.2]; omega, fun M5 e5 => ⟨by rw [e5]; exact mOk_UI o4 i32_w32, M4, _, E4, i32_w32, e5, fun y16 => ⟨fun y => absurd y z0, fun _ => ?_⟩⟩⟩
    rcases v4 with y | ⟨-, y⟩
    · exact absurd y16 y
    · unfold vok at y
      rw [w32_id ⟨by omega, by omega⟩]
      omega
end VI
end
section
/-! The reference: a variable item, its end. -/
section VI2
variable {G : mG} {d a g R W C Z T T2 T3 N K : Nat} {M M2 M3 : mM} {E : Nat → Nat} {tg bl : Int}
/-- inside a variable item -/
def vI (M : mM) (a g N T K R W C Z : Nat) (bl : Int) (T2 : Nat) (M2 : mM) : Prop := Lc M2 a g N T2 K ∧ iF M a g M2 ∧ mI M2 g = mI M g ∧ (ln M2 (g + 30) = ln M (g + 30) ∧ ln M2 (g + 32) = ln M (g + 32) ∧ ln M2 (g + 34) = ln M (g + 34)) ∧ mI M2 (g + 18) W = bl ∧ T ≤ T2 ∧ Ge M g R W C Z T M2
theorem vI.step (h : vI M a g N T K R W C Z bl T2 M2) (hT : T2 ≤ T3) (L3 : Lc M3 a g N T3 K) (I : iF M2 a g M3) (gI : mI M3 g = mI M2 g) (z : ln M3 (g + 30) = ln M2 (g + 30) ∧ ln M3 (g + 32) = ln M2 (g + 32) ∧ ln M3 (g + 34) = ln M2 (g + 34)) (c18 : mI M3 (g + 18) W = mI M2 (g + 18) W) (k : Ge M2 g R W C Z T2 M3) : vI M a g N T K R W C Z bl T3 M3 := by
  obtain ⟨-, h2, h3, h4, h5, h6, h7⟩ := h
  exact ⟨L3, h2.trans I, gI.trans h3, ⟨z.1.trans h4.1, z.2.1.trans h4.2.1, z.2.2.trans h4.2.2⟩, c18.trans h5, by omega, h7.trans (k.down (Nat.le_refl _) (Nat.le_refl _) (Nat.le_refl _) (Nat.le_refl _) h6)⟩
theorem vI.rl {co r : Int} (h : vI M a g N T K R W C Z bl T2 M2) (hT : T2 ≤ T3) (q : rlR co M2 a g N T2 K T3 r M3) (z : mI M3 a 16 = 0) : vI M a g N T K R W C Z bl T3 M3 := by
  obtain ⟨I3, G3, z3⟩ := rlR.ge (R := R) (W := W) (C := C) (Z := Z) h.1 q
  have hg := h.1.2.2.2.2.2.1
  have o18 := goffx (i := 18) hg (by decide) (by decide)
  have c18 := q.1.cell h.1.2.1.1.1 (fun q hq => rlP_in hg hq) o18.1 o18.2.1 o18.2.2 (by omega)
  exact h.step hT q.2.1 I3 q.2.2.2.1 z3 (by rw [c18]) (G3 z)
theorem vI.eo {F : Prop} {R' W' T' : Nat} (h : vI M a g N T K R W C Z bl T2 M2) (k : EO F M2 a g R' W' T' M3) : vI M a g N T K R W C Z bl T2 M3 := by
  obtain ⟨L3, g3, G3, z3⟩ := k.lc (R := R) (W := W) (C := C) (Z := Z) h.1
  have w2 := h.1.2.1.1.1
  exact h.step (Nat.le_refl _) L3 (k.it w2) g3 z3 (by rw [(k.gs w2).2.2.2.1]) G3
theorem vI.st {i : Nat} {v : Int} (h : vI M a g N T K R W C Z bl T2 M2) (hv : i32 v) (hi : i = 19 ∨ i = 20 ∨ i = 21) (f1 : frO (13 + i)) (f2 : frO (49 + i)) (e : M3 = mUI M2 (g + i) W v) : vI M a g N T K R W C Z bl T2 M3 ∧ (∀ y k, mI M3 y k = if y = g + i ∧ k = W then v else mI M2 y k) ∧ mI M3 a = mI M2 a := by
  obtain ⟨L3, I3, ⟨g3, a3⟩, m3, f3, l3⟩ := gsti h.1 hv (by omega) f1 f2 (fun z => by omega) e
  have hg := h.1.2.2.2.2.2.1
  have G3 := ge_st (R := R) (W := W) (C := C) (Z := Z) (T := T2) hg m3 f3 l3 (by omega) (fun _ _ => Nat.le_refl W) (by omega) (by omega)
  refine ⟨h.step (Nat.le_refl _) L3 I3 g3 ⟨(m3.lst (n30 hg) (fun z => z)).1, (m3.lst (n32 hg) (fun z => z)).1, (m3.lst (n34 hg) (fun z => z)).1⟩ ?_ G3, f3, a3⟩
  rw [f3, if_neg (fun z => by omega)]
theorem Lc.sp {P S : Nat → Prop} (h : Lc M a g N T K) (m : Mv P S M a M2) (hP : ∀ q, P q → False) (hS : ∀ x, S x → x = a) : Lc M2 a g N T K ∧ mI M2 g = mI M g ∧ Ge M g R W C Z T M2 ∧ (ln M2 (g + 30) = ln M (g + 30) ∧ ln M2 (g + 32) = ln M (g + 32) ∧ ln M2 (g + 34) = ln M (g + 34)) ∧ mI M2 (g + 18) = mI M (g + 18) := by
  have hg := h.2.2.2.2.2.1
  have hB := h.2.2.2.2.2.2.1
  have w := h.2.1.1.1
  have hin : ∀ q, P q → q ∈ nums a := fun q hq => (hP q hq).elim
  have ns : ∀ i, i ≤ 29 → ¬ S (g + i) := fun i i1 z => by
    have := hS _ z
    omega
  have gI := m.gI w hg hin (ns 0 (by omega))
  have o13 := goffx (i := 13) hg (by decide) (by decide)
  have c13 := m.cell w hin o13.1 o13.2.1 o13.2.2 (ns 13 (by omega))
  have o18 := goffx (i := 18) hg (by decide) (by decide)
  have c18 := m.cell w hin o18.1 o18.2.1 o18.2.2 (ns 18 (by omega))
  exact ⟨h.mv m hin (fun q hq => (hP q hq).elim) (by rw [gI]; omega) (by rw [gI]; omega) (by rw [gI]; omega) (fun r _ => by rw [c13]), gI, ge_mv w hg m hin (fun z => hP _ z) (fun z => hP _ z) (fun i _ i2 => ns i i2) (fun n _ => ⟨(m.lst (tL_in (q := g + 1) hg (by omega)) (fun z => hP _ z)).2.1 n, (m.lst (tL_in (q := g + 7) hg (by omega)) (fun z => hP _ z)).2.1 n, (m.lst (tL_in (q := g + 9) hg (by omega)) (fun z => hP _ z)).2.1 n, (m.lst (tL_in (q := g + 11) hg (by omega)) (fun z => hP _ z)).2.1 n⟩), ⟨(m.lst (n30 hg) (fun z => hP _ z)).1, (m.lst (n32 hg) (fun z => hP _ z)).1, (m.lst (n34 hg) (fun z => hP _ z)).1⟩, c18⟩
theorem vI.sp {c p : Int} (h : vI M a g N T K R W C Z bl T2 M2) (q : Mv (fun _ => False) (fun x => x = a) M2 a M3 ∧ mI M3 a 16 = c ∧ mI M3 a 17 = p ∧ ∀ i, i ≠ 16 → i ≠ 17 → mI M3 a i = mI M2 a i) : vI M a g N T K R W C Z bl T2 M3 := by
  obtain ⟨L3, g3, G3, z3, c18⟩ := h.1.sp (R := R) (W := W) (C := C) (Z := Z) q.1 (fun _ z => z) (fun _ z => z)
  exact h.step (Nat.le_refl _) L3 (iF.mk h.1.2.1.1.1 q.1 (fun _ z => z.elim) (fun x z => Or.inl z) (fun i i1 i2 _ => q.2.2.2 i i1 i2)) g3 z3 (by rw [c18]) G3
/-- the variable is known -/
theorem s_vi410 {k e : Nat} (hb : bl = 0 ∨ bl = 1) (h : Df M a g N T K R W C Z E tg) (hW : W < 12) (hk : k + 1 < N) (v2 : vI M a g N T K R W C Z bl T2 M2) (hTe : T2 ≤ e) (hZe : Z ≤ e) (hv : mI M2 a 16 = 0 → (mI M2 (g + 18) W ≠ 0 → mI M2 (g + 19) W = 0 ∧ mI M2 (g + 20) W = 1) ∧ mI M2 (g + 19) W ≤ mI M2 (g + 21) W ∧ mI M2 (g + 21) W ≤ mI M2 (g + 20) W ∧ -1000000000 < mI M2 (g + 19) W ∧ mI M2 (g + 20) W < 1000000000) : h_MM_varItem_410 G (d + 7) a k W M2 (fun M' => mOk M' ∧ itQ M a g N e M') := by
  obtain ⟨hL, ⟨g6, g12, g18, g17⟩, ⟨y30, y32, y34⟩, hK, hD⟩ := id h
  obtain ⟨L9, I9, gI9, ⟨z30, z32, z34⟩, c18, hT, G9⟩ := v2
  have hN := hL.2.1.1.2.2
  have hg := hL.2.2.2.2.2.1
  have hBd := hD.1
  have w9 := L9.2.1.1.1
  refine k_MM_varItem_410 L9.1 (i32s (by omega) (by omega)) (i32s (by omega) (by omega)) ?_
  rw [show mR M2 a 10 = g from L9.2.2.2.2.1]
  refine ⟨w9.1.1, (w9.gp hg).1, i32s (by omega) (by omega), fun M1 e1 => ?_⟩
  have a0 := goff0 hg
  obtain ⟨m1, f1, l1⟩ := mv_cell (v := (W : Int) + 1) (i32s (by omega) (by omega)) L9.1 w9 (show a ≤ g by omega) ⟨a0.1, a0.2.1, a0.2.2.1⟩ e1
  have no : ∀ q : Nat, False → q ∈ nums a := fun _ z => z.elim
  have aI1 := (m1.fld w9 no (by omega)).1
  have g1 : ∀ i, mI M1 g i = if i = 12 then (W : Int) + 1 else mI M g i := fun i => by
    rw [f1]
    by_cases z : i = 12
    · rw [if_pos ⟨rfl, z⟩, if_pos z]
    · rw [if_neg (fun y => z y.2), if_neg z, gI9]
  have x12 : mI M1 g 12 = (W : Int) + 1 := by rw [g1, if_pos rfl]
  have x6 : mI M1 g 6 = R := by rw [g1, if_neg (by omega), g6]
  have L1 : Lc M1 a g N T2 K := L9.mv m1 no (fun _ z => z.elim) (by rw [x6, gI9, g6]; omega) (by rw [x12, gI9, g12]; omega) ⟨by omega, by omega⟩ (fun r _ => by rw [f1, if_neg (fun z => by omega)])
  have I1 : iF M a g M1 := I9.trans (iF.mk w9 m1 (fun _ z => z.elim) (fun x z => Or.inr (Or.inl (by omega))) (fun i _ _ _ => by rw [aI1]))
  have w1 := m1.2.1
  refine (s_MM_know (d := d + 6) (u := (k : Int) + 1) (i32s (by omega) (by omega)) (i32s (by omega) (by omega)) (i32s (by omega) (by omega)) L1.1 w1 L1.2.2.1.1 L1.2.2.1.2.1 L1.2.2.1.2.2.1 (by omega)).mono (fun M3 t => ?_)
  obtain ⟨o2, m2, l2, p2, e2, s2, x2⟩ := t
  obtain ⟨L2, gI2, aI2⟩ := L1.kn (by omega) m2 l2 p2 e2 s2 x2 (by omega) (Or.inl ⟨rfl, by omega, by omega⟩) (fun z => by omega)
  obtain ⟨G2, q30, q32, q34⟩ := ge_kn (R := R) (W := W + 1) (C := C) (Z := Z) (T := T2) w1 hg m2
  have I2 : iF M a g M3 := I1.trans (iF.mk w1 m2 (fun q hq => knP_it hq) (fun _ z => z.elim) (fun i _ _ _ => by rw [aI2]))
  refine ⟨o2, o2, I2, ?_⟩
  have e16 : mI M3 a 16 = mI M2 a 16 := by rw [aI2, aI1]
  by_cases z16 : mI M3 a 16 = 0
  · refine Or.inr ⟨z16, T2, K + 1, R, W + 1, C, Z, E, tg, ⟨L2, ⟨by rw [gI2, x6], by rw [gI2, x12]; omega, by rw [gI2, g1, if_neg (by omega), g18], by rw [gI2, g1, if_neg (by omega), g17]⟩, ⟨?_, ?_, ?_⟩, by omega, ?_⟩, hTe, hZe⟩
    · rw [q30, (m1.lst (n30 hg) (fun z => z)).1, z30, y30]
    · rw [q32, (m1.lst (n32 hg) (fun z => z)).1, z32, y32]
    · rw [q34, (m1.lst (n34 hg) (fun z => z)).1, z34, y34]
    · have hv := hv (by rw [← e16]; exact z16)
      have D9 := ((hD.ge G9).tu hT).vu hW ⟨hv.1, hv.2.1, hv.2.2.1, hv.2.2.2.1, hv.2.2.2.2, by rw [c18]; exact hb⟩
      have G1 : Ge M2 g R (W + 1) C Z T2 M1 := ge_mv w9 hg m1 no (fun z => z) (fun z => z) (fun i i1 i2 (z : g + i = g) => by omega) (fun n _ => ⟨(m1.lst (tL_in (q := g + 1) hg (by omega)) (fun z => z)).2.1 n, (m1.lst (tL_in (q := g + 7) hg (by omega)) (fun z => z)).2.1 n, (m1.lst (tL_in (q := g + 9) hg (by omega)) (fun z => z)).2.1 n, (m1.lst (tL_in (q := g + 11) hg (by omega)) (fun z => z)).2.1 n⟩)
      exact (D9.ge G1).ge G2
  · exact Or.inl z16
theorem vI.ev (h : vI M a g N T K R W C Z bl T2 M2) (hD : Dg M g R W C Z T E tg) (hT : T2 ≤ 16384) : Ev False M2 a g R W T2 := by
  obtain ⟨L, -, -, -, -, -, G⟩ := h
  have D := hD.ge G
  exact ⟨L.1, L.2.1.1.1, L.2.2.2.2.2.1, L.2.2.2.1, ⟨D.1.1, D.1.2.1, hT⟩, fun r hr => ⟨D.2.1 r hr, fun z => z.elim⟩, fun z => z.elim⟩
/-- the first value -/
theorem s_vi369 {k e i : Nat} {l6 l10 : Int} (h : Df M a g N T K R W C Z E tg) (hW : W < 12) (hk : k + 1 < N) (hi : i < N) (hi1 : l6 ≠ 0 → i + 1 < N) (v2 : vI M a g N T K R W C Z bl T2 M2) (hTe : T2 ≤ e) (hZe : Z ≤ e) (hT16 : T2 ≤ 16384) (il6 : i32 l6) (il10 : i32 l10) (hb : bl = 0 ∨ bl = 1) (hv : mI M2 a 16 = 0 → (bl ≠ 0 → mI M2 (g + 19) W = 0 ∧ mI M2 (g + 20) W = 1) ∧ mI M2 (g + 19) W ≤ mI M2 (g + 20) W ∧ -1000000000 < mI M2 (g + 19) W ∧ mI M2 (g + 20) W < 1000000000) (hf : l6 ≠ 0 → ∃ n : Nat, l10 = n ∧ Cte M2 g R W T2 n bl) : h_MM_varItem_369 G (d + 7) a k W i l6 l10 M2 (fun M' => mOk M' ∧ itQ M a g N e M') := by
  have hN := h.1.2.1.1.2.2
  have hg := h.1.2.2.2.2.2.1
  have L2 := v2.1
  have w2 := L2.2.1.1.1
  have b14 := (w2.gp hg).2.2.2.2.1.2.1
  have b16 := (w2.gp hg).2.2.2.2.1.2.2.2
  refine k_MM_varItem_369 L2.1 (i32s (by omega) (by omega)) (i32s (by omega) (by omega)) (i32s (by omega) (by omega)) il6 il10 ?_
  rw [show mR M2 a 10 = g from L2.2.2.2.2.1, show mR M2 g 14 = g + 19 from (w2.gp hg).2.2.1.2.1, show mR M2 g 16 = g + 21 from (w2.gp hg).2.2.1.2.2.2.1, Int.toNat_natCast]
  refine ⟨w2.1.1, (w2.gp hg).1, b14.1, by rw [b14.2]; omega, b16.1, by rw [b16.2]; omega, fun M3 e3 => ?_⟩
  obtain ⟨v3, f3, a3⟩ := v2.st (i := 21) (L2.1 _ _).1 (by omega) (by decide) (by decide) e3
  have c18 : mI M3 (g + 18) W = bl := v3.2.2.2.2.1
  have c19 : mI M3 (g + 19) W = mI M2 (g + 19) W := by rw [f3, if_neg (fun z => by omega)]
  have c20 : mI M3 (g + 20) W = mI M2 (g + 20) W := by rw [f3, if_neg (fun z => by omega)]
  have c21 : mI M3 (g + 21) W = mI M2 (g + 19) W := by rw [f3, if_pos ⟨rfl, rfl⟩]
  have e16 : mI M3 a 16 = mI M2 a 16 := by rw [a3]
  refine ⟨fun q => s_vi410 hb h hW hk v3 hTe hZe (fun z => ?_), fun q => ?_⟩
  · have := hv (by rw [← e16]; exact z)
    rw [c18, c19, c20, c21]
    exact ⟨this.1, by omega, this.2.1, this.2.2.1, this.2.2.2⟩
  · have q1 : l6 ≠ 0 := fun z => q (Or.inl z)
    have q2 : mI M3 a 16 = 0 := Classical.byContradiction (fun z => q (Or.inr z))
    obtain ⟨n, hn, ct⟩ := hf q1
    subst hn
    clear hf q
    have hv := hv (by rw [← e16]; exact q2)
    have ct3 : Cte M3 g R W T2 n bl := ct.gn (ge_st (R := R) (W := W) (C := C) (Z := Z) (T := T2) hg (gsti L2 (L2.1 _ _).1 (by omega) (by decide) (by decide) (fun z => by omega) e3).2.2.2.1 f3 (by rw [e3]; rfl) (by omega) (fun _ _ => Nat.le_refl W) (by omega) (by omega)).1 h.2.2.2.2.1.1
    rw [show (i : Int) + 1 = ((i + 1 : Nat) : Int) by omega]
    refine (s_MM_begins (d := d + 1) v3.1 (v3.ev h.2.2.2.2 hT16) ct3 hW (fun z => by omega) (fun z => by omega) (hi1 q1)).mono (fun M4 t4 => ⟨t4.1, ?_⟩)
    obtain ⟨-, M5, x, E5, ix, e4, hx⟩ := t4
    have v5 := v3.eo E5
    obtain ⟨v4, f4, a4⟩ := v5.st (i := 21) ix (by omega) (by decide) (by decide) e4
    have w3 := v3.1.2.1.1.1
    have hin : ∀ q, q = a + 99 → q ∈ nums a := fun q hq => by rw [hq]; exact n99
    have keep : ∀ (j : Nat), j ≤ 29 → frO (13 + j) → frO (49 + j) → mI M5 (g + j) = mI M3 (g + j) := fun j j1 f1 f2 => (E5.1.cellL w3 hin (goffx hg f1 f2) (fun z => by
      have : g + j = a ∨ g + j = a + 97 ∨ g + j = a + 98 ∨ g + j = a + 102 ∨ g + j = a + 103 ∨ g + j = a + 104 := z
      omega)).1
    have d18 : mI M4 (g + 18) W = bl := v4.2.2.2.2.1
    have d19 : mI M4 (g + 19) W = mI M2 (g + 19) W := by rw [f4, if_neg (fun z => by omega), keep 19 (by omega) (by decide) (by decide), c19]
    have d20 : mI M4 (g + 20) W = mI M2 (g + 20) W := by rw [f4, if_neg (fun z => by omega), keep 20 (by omega) (by decide) (by decide), c20]
    have d21 : mI M4 (g + 21) W = x := by rw [f4, if_pos ⟨rfl, rfl⟩]
    refine s_vi410 hb h hW hk v4 hTe hZe (fun z => ?_)
    have hx := hx (by rw [← a4]; exact z)
    rw [c18, c19, c20] at hx
    rw [d18, d19, d20, d21]
    refine ⟨hv.1, ?_, ?_, hv.2.2.1, hv.2.2.2⟩
    · rcases hb with y | y
      · exact (hx.1 y).1
      · have := hx.2 (by omega); have := hv.1 (by omega); omega
    · rcases hb with y | y
      · exact (hx.1 y).2
      · have := hx.2 (by omega); have := hv.1 (by omega); omega
end VI2
end
section
/-! The reference: a variable item, its range. -/
section VI3
variable {G : mG} {d a g R W C Z T T2 T3 N K : Nat} {M M2 M3 : mM} {E : Nat → Nat} {tg bl : Int}
theorem vst_ge {i : Nat} {v : Int} (h : Lc M2 a g N T2 K) (hv : i32 v) (hi : 18 ≤ i ∧ i ≤ 21) (f1 : frO (13 + i)) (f2 : frO (49 + i)) (e : M3 = mUI M2 (g + i) W v) : Ge M2 g R W C Z T2 M3 := by
  obtain ⟨L3, I3, ⟨g3, a3⟩, m3, f3, l3⟩ := gsti h hv (by omega) f1 f2 (fun z => by omega) e
  exact ge_st h.2.2.2.2.2.1 m3 f3 l3 (by omega) (fun _ _ => Nat.le_refl W) (by omega) (by omega)
theorem vI.new (h : Df M a g N T K R W C Z E tg) (hb : bl = 0 ∨ bl = 1) (e : M2 = mUI M (g + 18) W bl) : vI M a g N T K R W C Z bl T M2 ∧ mI M2 a = mI M a := by
  have ib : i32 bl := i32s (by omega) (by omega)
  have hg := h.1.2.2.2.2.2.1
  have G2 := vst_ge (R := R) (C := C) (Z := Z) (i := 18) h.1 ib (by omega) (by decide) (by decide) e
  obtain ⟨L3, I3, ⟨g3, a3⟩, m3, f3, l3⟩ := gsti (i := 18) h.1 ib (by omega) (by decide) (by decide) (fun z => by omega) e
  exact ⟨⟨L3, I3, g3, ⟨(m3.lst (n30 hg) (fun z => z)).1, (m3.lst (n32 hg) (fun z => z)).1, (m3.lst (n34 hg) (fun z => z)).1⟩, by rw [f3, if_pos ⟨rfl, rfl⟩], Nat.le_refl _, G2⟩, a3⟩
theorem iF.wk (h : iF M a g M2) (hg : g = a + 13 ∨ g = a + 49) : wk M2 a = wk M a := by
  funext k
  exact (h.1.lst n5 (fun z => by have := z.2; omega)).2.1 k
/-- the root of a rule made of constants -/
theorem rl_cte {t : Int} (hL : Lc M2 a g N T2 K) (g6 : mI M2 g 6 = R) (hR : R ≤ 60) (h : rlR 1 M2 a g N T2 K T3 t M3) (z : mI M3 a 16 = 0) : Cte M3 g R W T3 T2 t := by
  have G3 := (rlR.ge (R := R) (W := W) (C := 0) (Z := 0) hL h).2.1 z
  rcases h.2.2.2.2.2 with y | ⟨-, ⟨f, ty⟩, -⟩
  · exact absurd z y
  · refine ⟨f, T3, ty.mono (fun v hv => ?_), Nat.le_refl _⟩
    unfold nmr at hv
    rw [g6] at hv
    rcases hv with ⟨h1, h2, h3, h4⟩ | ⟨h1, -⟩
    · have gt := G3.1.tr (r := v.toNat) hR (by omega)
      rw [show ((v.toNat : Nat) : Int) = v by omega] at gt
      refine ⟨Or.inl ⟨h1, h2, Or.inr ?_⟩, gt⟩
      rw [(G3.1.2.1 v.toNat (by omega)).1]
      exact h4 (by decide)
    · exact absurd h1 (by decide)
/-- a fault has been told: the item is left -/
theorem s_vi215x {e : Nat} {l1 l3 l4 l5 l6 l7 l8 l9 k0 : Int} (L2 : Lc M2 a g N T2 K) (I2 : iF M a g M2) (z : mI M2 a 16 ≠ 0) (i1 : i32 l1) (i3 : i32 l3) (i4 : i32 l4) (i5 : i32 l5) (i6 : i32 l6) (i7 : i32 l7) (i8 : i32 l8) (i9 : i32 l9) (i0 : i32 k0) : h_MM_varItem_215 G (d + 7) a l1 l3 l4 l5 l6 l7 l8 l9 k0 M2 (fun M' => mOk M' ∧ itQ M a g N e M') :=
  k_MM_varItem_215w L2.1 i1 i3 i4 i5 i6 i7 i8 i9 i0 ⟨L2.2.1.1.1.1.1, fun y => absurd y z, fun _ => ⟨L2.1, I2, Or.inl z⟩⟩
theorem s_vi185x {e : Nat} {l1 l2 l3 l4 l5 l6 l7 l9 k0 : Int} (L2 : Lc M2 a g N T2 K) (I2 : iF M a g M2) (z : mI M2 a 16 ≠ 0) (i1 : i32 l1) (i2 : i32 l2) (i3 : i32 l3) (i4 : i32 l4) (i5 : i32 l5) (i6 : i32 l6) (i7 : i32 l7) (i9 : i32 l9) (i0 : i32 k0) : h_MM_varItem_185 G (d + 7) a l1 l2 l3 l4 l5 l6 l7 l9 k0 M2 (fun M' => mOk M' ∧ itQ M a g N e M') :=
  k_MM_varItem_185 L2.1 i1 i2 i3 i4 i5 i6 i7 i9 i0 ⟨fun _ => L2.2.1.1.1.1.1, fun _ => s_vi215x L2 I2 z i1 i3 i4 i5 i6 i7 i0 i9 ⟨by decide, by decide⟩, fun q => absurd (Or.inr z) q⟩
/-- a truth -/
theorem s_vi215b {k e i : Nat} {l6 l10 : Int} (h : Df M a g N T K R W C Z E tg) (hW : W < 12) (hk : k + 3 < N) (hi : i < N) (hi1 : l6 ≠ 0 → i + 1 < N) (v2 : vI M a g N T K R W C Z 1 T2 M2) (hTe : T2 ≤ e) (hZe : Z ≤ e) (hT16 : T2 ≤ 16384) (il6 : i32 l6) (il10 : i32 l10) (z16 : mI M2 a 16 = 0) (hf : l6 ≠ 0 → ∃ n : Nat, l10 = n ∧ Cte M2 g R W T2 n 1) : h_MM_varItem_215 G (d + 7) a k W 1 i l6 (-1) (-1) ((k : Int) + 3) l10 M2 (fun M' => mOk M' ∧ itQ M a g N e M') := by
  have hN := h.1.2.1.1.2.2
  have hg := h.1.2.2.2.2.2.1
  have hR := h.2.2.2.2.1.1
  have L2 := v2.1
  have w2 := L2.2.1.1.1
  have ik : i32 (k : Int) := i32s (by omega) (by omega)
  have iW : i32 (W : Int) := i32s (by omega) (by omega)
  have ii : i32 (i : Int) := i32s (by omega) (by omega)
  have ik3 : i32 ((k : Int) + 3) := i32s (by omega) (by omega)
  have W12 : ((0 : Int) ≤ W ∧ (W : Int) < ((12 : Nat) : Int)) := by omega
  refine k_MM_varItem_215w L2.1 ik iW ⟨by decide, by decide⟩ ii il6 ⟨by decide, by decide⟩ ⟨by decide, by decide⟩ ik3 il10 ⟨w2.1.1, fun _ => ⟨fun y => absurd y (by decide), fun _ => ?_⟩, fun y => absurd z16 y⟩
  rw [show mR M2 a 10 = g from L2.2.2.2.2.1, show mR M2 g 14 = g + 19 from (w2.gp hg).2.2.1.2.1, Int.toNat_natCast]
  refine ⟨(w2.gp hg).1, (w2.gp hg).2.2.2.2.1.2.1.1, by rw [(w2.gp hg).2.2.2.2.1.2.1.2]; exact W12, fun M3 e3 => ?_⟩
  have G3 := vst_ge (R := R) (C := C) (Z := Z) (i := 19) (v := 0) L2 ⟨by decide, by decide⟩ (by omega) (by decide) (by decide) e3
  obtain ⟨v3, f3, a3⟩ := v2.st (i := 19) (v := 0) ⟨by decide, by decide⟩ (by omega) (by decide) (by decide) e3
  have L3 := v3.1
  have w3 := L3.2.1.1.1
  rw [show mR M3 a 10 = g from L3.2.2.2.2.1, show mR M3 g 15 = g + 20 from (w3.gp hg).2.2.1.2.2.1]
  refine ⟨(w3.gp hg).1, (w3.gp hg).2.2.2.2.1.2.2.1.1, by rw [(w3.gp hg).2.2.2.2.1.2.2.1.2]; exact W12, fun M4 e4 => ?_⟩
  have G4 := vst_ge (R := R) (C := C) (Z := Z) (i := 20) (v := 1) L3 ⟨by decide, by decide⟩ (by omega) (by decide) (by decide) e4
  obtain ⟨v4, f4, a4⟩ := v3.st (i := 20) (v := 1) ⟨by decide, by decide⟩ (by omega) (by decide) (by decide) e4
  have G24 := G3.trans G4
  refine s_vi369 h hW (by omega) hi hi1 v4 hTe hZe hT16 il6 il10 (Or.inr rfl) (fun _ => ?_) (fun q => ?_)
  · have c19 : mI M4 (g + 19) W = 0 := by rw [f4, if_neg (fun z => by omega), f3, if_pos ⟨rfl, rfl⟩]
    have c20 : mI M4 (g + 20) W = 1 := by rw [f4, if_pos ⟨rfl, rfl⟩]
    rw [c19, c20]
    exact ⟨fun _ => ⟨rfl, rfl⟩, by decide, by decide, by decide⟩
  · obtain ⟨n, hn, ct⟩ := hf q
    exact ⟨n, hn, ct.gn G24.1 hR⟩
/-- a number -/
theorem s_vi215n {k e i j lo hi : Nat} {l6 l10 : Int} (h : Df M a g N T K R W C Z E tg) (hW : W < 12) (hk : k + 3 < N) (hi' : i < N) (hi1 : l6 ≠ 0 → i + 1 < N) (hj : j + 1 < N) (v2 : vI M a g N T K R W C Z 0 T2 M2) (hTe : T2 ≤ e) (hZe : Z ≤ e) (hT16 : T2 ≤ 16384) (il6 : i32 l6) (il10 : i32 l10) (z16 : mI M2 a 16 = 0) (cl : Cte M2 g R W T2 lo 0) (ch : Cte M2 g R W T2 hi 0) (hf : l6 ≠ 0 → ∃ n : Nat, l10 = n ∧ Cte M2 g R W T2 n 0) : h_MM_varItem_215 G (d + 7) a k W 0 i l6 lo hi j l10 M2 (fun M' => mOk M' ∧ itQ M a g N e M') := by
  have hN := h.1.2.1.1.2.2
  have hg := h.1.2.2.2.2.2.1
  have hR := h.2.2.2.2.1.1
  have L2 := v2.1
  have w2 := L2.2.1.1.1
  have ik : i32 (k : Int) := i32s (by omega) (by omega)
  have iW : i32 (W : Int) := i32s (by omega) (by omega)
  have ii : i32 (i : Int) := i32s (by omega) (by omega)
  have ij : i32 (j : Int) := i32s (by omega) (by omega)
  have ilo : i32 (lo : Int) := by
    obtain ⟨f, e', t, t'⟩ := cl
    have := t.tn.lt
    exact i32s (by omega) (by omega)
  have ihi : i32 (hi : Int) := by
    obtain ⟨f, e', t, t'⟩ := ch
    have := t.tn.lt
    exact i32s (by omega) (by omega)
  have W12 : ((0 : Int) ≤ W ∧ (W : Int) < ((12 : Nat) : Int)) := by omega
  refine k_MM_varItem_215w L2.1 ik iW ⟨by decide, by decide⟩ ii il6 ilo ihi ij il10 ⟨w2.1.1, fun _ => ⟨fun _ => ?_, fun y => absurd rfl y⟩, fun y => absurd z16 y⟩
  rw [show mR M2 a 10 = g from L2.2.2.2.2.1, show mR M2 g 14 = g + 19 from (w2.gp hg).2.2.1.2.1, Int.toNat_natCast, show (k : Int) + 3 = ((k + 3 : Nat) : Int) by omega]
  refine ⟨(w2.gp hg).1, (s_MM_wholeOf (d := d + 2) L2 (v2.ev h.2.2.2.2 hT16) cl hk).mono (fun x1 M3 t3 => ?_)⟩
  obtain ⟨ix1, o3, E3, r3⟩ := t3
  have v3 := v2.eo E3
  have G3 := (E3.lc (R := R) (W := W) (C := C) (Z := Z) L2).2.2.1
  have w3 := v3.1.2.1.1.1
  refine ⟨ix1, o3, (w3.gp hg).2.2.2.2.1.2.1.1, by rw [(w3.gp hg).2.2.2.2.1.2.1.2]; exact W12, fun M4 e4 => ?_⟩
  have G4 := vst_ge (R := R) (C := C) (Z := Z) (i := 19) v3.1 ix1 (by omega) (by decide) (by decide) e4
  obtain ⟨v4, f4, a4⟩ := v3.st (i := 19) ix1 (by omega) (by decide) (by decide) e4
  have L4 := v4.1
  have w4 := L4.2.1.1.1
  have G24 := G3.trans G4
  have c4 : mI M4 (g + 19) W = x1 := by rw [f4, if_pos ⟨rfl, rfl⟩]
  have z4 : mI M4 a 16 = mI M3 a 16 := by rw [a4]
  clear f4 a4 e4
  rw [show mR M4 a 10 = g from L4.2.2.2.2.1, show mR M4 g 15 = g + 20 from (w4.gp hg).2.2.1.2.2.1, show (j : Int) + 1 = ((j + 1 : Nat) : Int) by omega]
  refine ⟨w4.1.1, (w4.gp hg).1, (s_MM_wholeOf (d := d + 2) L4 (v4.ev h.2.2.2.2 hT16) (ch.gn G24.1 hR) hj).mono (fun x2 M5 t5 => ?_)⟩
  obtain ⟨ix2, o5, E5, r5⟩ := t5
  have v5 := v4.eo E5
  have G5 := (E5.lc (R := R) (W := W) (C := C) (Z := Z) L4).2.2.1
  have w5 := v5.1.2.1.1.1
  refine ⟨ix2, o5, (w5.gp hg).2.2.2.2.1.2.2.1.1, by rw [(w5.gp hg).2.2.2.2.1.2.2.1.2]; exact W12, fun M6 e6 => ?_⟩
  have G6 := vst_ge (R := R) (C := C) (Z := Z) (i := 20) v5.1 ix2 (by omega) (by decide) (by decide) e6
  obtain ⟨v6, f6, a6⟩ := v5.st (i := 20) ix2 (by omega) (by decide) (by decide) e6
  have L6 := v6.1
  have w6 := L6.2.1.1.1
  have G26 := (G24.trans G5).trans G6
  have hin : ∀ q, q = a + 99 → q ∈ nums a := fun q hq => by rw [hq]; exact n99
  have c19 : mI M6 (g + 19) W = x1 := by
    rw [f6, if_neg (fun z => by omega), (E5.1.cellL w4 hin (goffx (i := 19) hg (by decide) (by decide)) (fun z => by
      have : g + 19 = a ∨ g + 19 = a + 97 ∨ g + 19 = a + 98 ∨ g + 19 = a + 102 ∨ g + 19 = a + 103 ∨ g + 19 = a + 104 := z
      omega)).1, c4]
  have c20 : mI M6 (g + 20) W = x2 := by rw [f6, if_pos ⟨rfl, rfl⟩]
  have z6 : mI M6 a 16 = 0 → (-1000000000 < x1 ∧ x1 < 1000000000) ∧ -1000000000 < x2 ∧ x2 < 1000000000 := fun z => by
    rw [a6] at z
    obtain ⟨y1, y2⟩ := r5 z
    rw [z4] at y1
    exact ⟨(r3 y1).2, y2⟩
  clear f6 a6 e6 r3 r5
  rw [show mR M6 a 10 = g from L6.2.2.2.2.1, show mR M6 g 14 = g + 19 from (w6.gp hg).2.2.1.2.1, show mR M6 g 15 = g + 20 from (w6.gp hg).2.2.1.2.2.1, c19, c20]
  have b14 : ((0 : Int) ≤ W ∧ (W : Int) < (mN M6 (g + 19) : Int)) := by rw [(w6.gp hg).2.2.2.2.1.2.1.2]; exact W12
  have b15 : ((0 : Int) ≤ W ∧ (W : Int) < (mN M6 (g + 20) : Int)) := by rw [(w6.gp hg).2.2.2.2.1.2.2.1.2]; exact W12
  have hf6 : l6 ≠ 0 → ∃ n : Nat, l10 = n ∧ Cte M6 g R W T2 n 0 := fun q => by
    obtain ⟨n, hn, ct⟩ := hf q
    exact ⟨n, hn, ct.gn G26.1 hR⟩
  refine ⟨w6.1.1, (w6.gp hg).1, (w6.gp hg).2.2.2.2.1.2.1.1, b14, (w6.gp hg).2.2.2.2.1.2.2.1.1, b15, fun _ => ⟨b15, b14, trivial⟩, fun v hv => ⟨fun q => ?_, fun q => ?_⟩⟩
  · refine (s_MM_place0 (d := d + 6) L6.1 L6.2.1 hj).mono (fun y M7 h7 => ?_)
    obtain ⟨e7, hy⟩ := h7
    subst e7
    have hy32 : i32 y := by rw [hy]; exact (L6.1 _ _).1
    refine ⟨hy32, L6.1, w6.1.1, (s_MM_stop ⟨by decide, by decide⟩ hy32 L6.1 w6).mono (fun M8 h8 => ?_)⟩
    have v8 := v6.sp h8
    have G8 := (v6.1.sp (R := R) (W := W) (C := C) (Z := Z) h8.1 (fun _ z => z) (fun _ z => z)).2.2.1
    refine ⟨h8.1.1, s_vi369 h hW (by omega) hi' hi1 v8 hTe hZe hT16 il6 il10 (Or.inl rfl) (fun z => ?_) (fun q => ?_)⟩
    · rw [h8.2.1] at z; exact absurd z (by decide)
    · obtain ⟨n, hn, ct⟩ := hf6 q
      exact ⟨n, hn, ct.gn G8.1 hR⟩
  · refine s_vi369 h hW (by omega) hi' hi1 v6 hTe hZe hT16 il6 il10 (Or.inl rfl) (fun z => ?_) hf6
    have z6 := z6 z
    rw [c19, c20]
    have vn : v ≠ 0 := fun y => q ⟨z, y⟩
    clear hf hf6 q
    refine ⟨fun y => absurd rfl y, ?_, z6.1.1, z6.2.2⟩
    split at hv
    · exact absurd hv vn
    · omega
end VI3
end
section
/-! The reference: varItem. -/
section VI4
variable {G : mG} {d a g R W C Z T T2 N K : Nat} {M M2 : mM} {E : Nat → Nat} {tg : Int}
theorem Lc.ub {i j : Nat} {s : Int} {Q : Int → mM → Prop} (h : Lc M a g N T K) (hij : i ≤ j) (hb : Bl (wk M a) i (j - i)) (hj : j < N) (h1 : wk M a j = s) (hs : s = 16 ∨ s = 17 ∨ s = 33) (hQ : Q j M) : Ci G y_MM_until (d + 2) [vr a, vi i, vi s] M Q := by
  refine (s_until_bl (d := d) h.1 h.2.1.1 hij hb hj h1 hs).mono (fun x M1 e1 => ?_)
  obtain ⟨e1, hx⟩ := e1
  subst e1
  rw [hx]
  exact hQ
theorem Lc.io {p i e : Nat} {Q : Int → mM → Prop} (h : Lc M a g N T K) (h1 : p ≤ i) (h2 : i ≤ e) (he : e < N) (hn : ∀ m, p ≤ m → m < i → wk M a m ≠ 9) (hi : i = e ∨ wk M a i = 9) (hQ : Q i M) : Ci G y_MM_initOf (d + 2) [vr a, vi p, vi e] M Q := by
  refine (s_MM_initOf (d := d) h h1 h2 he hn hi).mono (fun x M1 e1 => ?_)
  obtain ⟨e1, hx⟩ := e1
  subst e1
  rw [hx]
  exact hQ
theorem vI.g6 {bl : Int} (v : vI M a g N T K R W C Z bl T2 M2) (h : Df M a g N T K R W C Z E tg) : mI M2 g 6 = R := by rw [v.2.2.1]; exact h.2.1.1
theorem s_vi185 {k e i j lo hi : Nat} {l6 : Int} (h : Df M a g N T K R W C Z E tg) (hW : W < 12) (hk : k + 3 < N) (hie : i ≤ e) (heN : e < N) (hj : j + 1 < N) (hki : k ≤ i) (hZ : Z ≤ k) (v2 : vI M a g N T K R W C Z 0 T2 M2) (hT2 : T2 ≤ i) (c6 : l6 = 0 ∨ l6 = 1) (z16 : mI M2 a 16 = 0) (cl : Cte M2 g R W T2 lo 0) (ch : Cte M2 g R W T2 hi 0) (h9 : l6 ≠ 0 → Eo (wk M a) 6 (i + 1) e) : h_MM_varItem_185 G (d + 7) a k e W 0 i l6 lo j hi M2 (fun M' => mOk M' ∧ itQ M a g N (e + 1) M') := by
  have hN := h.1.2.1.1.2.2
  have hg := h.1.2.2.2.2.2.1
  have hR := h.2.2.2.2.1.1
  have L2 := v2.1
  have w2 := L2.2.1.1.1
  have iz : i32 (0 : Int) := ⟨by decide, by decide⟩
  have im : i32 (-1 : Int) := ⟨by decide, by decide⟩
  have ik : i32 (k : Int) := i32s (by omega) (by omega)
  have iW : i32 (W : Int) := i32s (by omega) (by omega)
  have ii : i32 (i : Int) := i32s (by omega) (by omega)
  have ij : i32 (j : Int) := i32s (by omega) (by omega)
  have ie : i32 (e : Int) := i32s (by omega) (by omega)
  have i6 : i32 l6 := i32s (by omega) (by omega)
  have ilo : i32 (lo : Int) := by
    obtain ⟨f, e', t, t'⟩ := cl
    have := t.tn.lt
    exact i32s (by omega) (by omega)
  have ihi : i32 (hi : Int) := by
    obtain ⟨f, e', t, t'⟩ := ch
    have := t.tn.lt
    exact i32s (by omega) (by omega)
  have hiN : i < N := by omega
  refine k_MM_varItem_185 L2.1 ik ie iW iz ii i6 ilo ij ihi ⟨fun _ => w2.1.1, fun q => ?_, fun q => ⟨w2.1.1, ?_⟩⟩
  · have z6 : l6 = 0 := q.elim (fun z => z) (fun z => absurd z16 z)
    exact s_vi215n h hW hk hiN (fun z => absurd z6 z) hj v2 (by omega) (by omega) (by omega) i6 im z16 cl ch (fun z => absurd z6 z)
  · have n6 : l6 ≠ 0 := fun z => q (Or.inl z)
    have eo := h9 n6
    have hlt := eo.pr.1
    have wkE := v2.2.1.wk hg
    rw [show (i : Int) + 1 = ((i + 1 : Nat) : Int) by omega]
    refine (s_MM_rule1 (d := d) (co := 1) (tr := 0) ⟨by decide, by decide⟩ (Or.inl rfl) L2 (by omega) (by rw [wkE]; exact eo) heN).mono (fun x M3 q3 => ?_)
    obtain ⟨ex, T3, t1, t2, Rl⟩ := q3
    subst ex
    have L3 := Rl.2.1
    refine ⟨i32s (by omega) (by omega), L3.1, ?_⟩
    by_cases z3 : mI M3 a 16 = 0
    · have v3 := v2.rl (Nat.le_of_lt t1) Rl z3
      have G3 := (rlR.ge (R := R) (W := W) (C := C) (Z := Z) L2 Rl).2.1 z3
      have hT := Nat.le_of_lt t1
      exact s_vi215n h hW hk hiN (fun _ => by omega) hj v3 (by omega) (by omega) (by omega) i6 (i32s (by omega) (by omega)) z3 ((cl.gn G3.1 hR).up hT) ((ch.gn G3.1 hR).up hT) (fun _ => ⟨T2, rfl, rl_cte L2 (v2.g6 h) hR Rl z3⟩)
    · exact s_vi215x L3 (v2.2.1.trans (rlR.ge (R := R) (W := W) (C := C) (Z := Z) L2 Rl).1) z3 ik iW iz ii i6 ilo ihi ij (i32s (by omega) (by omega))
theorem s_vi91 {k e i : Nat} {bl : Int} (h : Df M a g N T K R W C Z E tg) (h16 : mI M a 16 = 0) (hW : W < 12) (heN : e < N) (hT : T ≤ k) (hZ : Z ≤ k) (hb : (bl = 1 ∧ i = k + 4) ∨ (bl = 0 ∧ ∃ j, Eo (wk M a) 6 (k + 3) j ∧ wk M a j = 16 ∧ Eo (wk M a) 6 (j + 1) i)) (hi : (wk M a i ≠ 9 ∧ i = e) ∨ (wk M a i = 9 ∧ Eo (wk M a) 6 (i + 1) e)) : h_MM_varItem_91 G (d + 7) a k e W bl i M (fun M' => mOk M' ∧ itQ M a g N (e + 1) M') := by
  have hN := h.1.2.1.1.2.2
  have hg := h.1.2.2.2.2.2.1
  have hR := h.2.2.2.2.1.1
  have hL := h.1
  have w := hL.2.1.1.1
  have hie : i ≤ e := by
    rcases hi with ⟨-, z⟩ | ⟨-, z⟩
    · omega
    · have := z.pr.1; omega
  have hki : k + 4 ≤ i := by
    rcases hb with ⟨-, z⟩ | ⟨-, j, z1, -, z2⟩
    · omega
    · have := z1.pr.1; have := z2.pr.1; omega
  have h9 : wk M a i = 9 → Eo (wk M a) 6 (i + 1) e := fun z => by
    rcases hi with ⟨y, -⟩ | ⟨-, y⟩
    · exact absurd z y
    · exact y
  have bl01 : bl = 0 ∨ bl = 1 := by
    rcases hb with ⟨z, -⟩ | ⟨z, -⟩
    · exact Or.inr z
    · exact Or.inl z
  have iz : i32 (0 : Int) := ⟨by decide, by decide⟩
  have im : i32 (-1 : Int) := ⟨by decide, by decide⟩
  have ik : i32 (k : Int) := i32s (by omega) (by omega)
  have iW : i32 (W : Int) := i32s (by omega) (by omega)
  have ii : i32 (i : Int) := i32s (by omega) (by omega)
  have ie : i32 (e : Int) := i32s (by omega) (by omega)
  have ib : i32 bl := by rcases bl01 with z | z <;> rw [z] <;> exact ⟨by decide, by decide⟩
  have W12 : ((0 : Int) ≤ W ∧ (W : Int) < ((12 : Nat) : Int)) := by omega
  have hiN : i < N := by omega
  have hkN : k + 3 < N := by omega
  have hZe : Z ≤ e + 1 := by omega
  clear hi
  refine k_MM_varItem_91 hL.1 ik ie iW ib ii ⟨w.1.1, hL.wd (d := d + 6) hiN (fun x hx ix => ⟨ix, hL.1, fun v hv => ⟨w.1.1, ?_⟩⟩)⟩
  rw [show mR M a 10 = g from hL.2.2.2.2.1, show mR M g 13 = g + 18 from (w.gp hg).2.2.1.1, Int.toNat_natCast]
  refine ⟨(w.gp hg).1, (w.gp hg).2.2.2.2.1.1.1, by rw [(w.gp hg).2.2.2.2.1.1.2]; exact W12, bl01, fun M2 e2 => ?_⟩
  obtain ⟨v2, a2⟩ := vI.new h bl01 e2
  have L2 := v2.1
  have w2 := L2.2.1.1.1
  have wkE := v2.2.1.wk hg
  have z2 : mI M2 a 16 = 0 := by rw [a2]; exact h16
  have v01 : v = 0 ∨ v = 1 := by split at hv <;> omega
  have v9 : v ≠ 0 → Eo (wk M a) 6 (i + 1) e := fun z => h9 (by
    split at hv
    · rename_i y; exact hx.symm.trans y
    · exact absurd hv z)
  have i6 : i32 v := by rcases v01 with z | z <;> rw [z] <;> exact ⟨by decide, by decide⟩
  clear hv hx h9 e2
  rcases hb with ⟨z, -⟩ | ⟨z, j, j1, j2, j3⟩
  · subst z
    refine ⟨fun y => absurd y (by decide), fun _ => ⟨fun q => ?_, fun q => ?_⟩⟩
    · have z6 : v = 0 := q.elim (fun z => z) (fun z => absurd z2 z)
      exact s_vi215b h hW hkN hiN (fun z => absurd z6 z) v2 (by omega) hZe (by omega) i6 im z2 (fun z => absurd z6 z)
    · have n6 : v ≠ 0 := fun z => q (Or.inl z)
      have eo := v9 n6
      have hlt := eo.pr.1
      rw [show (i : Int) + 1 = ((i + 1 : Nat) : Int) by omega]
      refine (s_MM_rule1 (d := d) (co := 1) (tr := 1) ⟨by decide, by decide⟩ (Or.inr rfl) L2 (by omega) (by rw [wkE]; exact eo) heN).mono (fun x M3 q3 => ?_)
      obtain ⟨ex, T3, t1, t2, Rl⟩ := q3
      subst ex
      have L3 := Rl.2.1
      refine ⟨i32s (by omega) (by omega), L3.1, ?_⟩
      by_cases z3 : mI M3 a 16 = 0
      · have v3 := v2.rl (Nat.le_of_lt t1) Rl z3
        exact s_vi215b h hW hkN hiN (fun _ => by omega) v3 (by omega) hZe (by omega) i6 (i32s (by omega) (by omega)) z3 (fun _ => ⟨T, rfl, rl_cte L2 (v2.g6 h) hR Rl z3⟩)
      · exact s_vi215x L3 (v2.2.1.trans (rlR.ge (R := R) (W := W) (C := C) (Z := Z) L2 Rl).1) z3 ik iW ⟨by decide, by decide⟩ ii i6 im im (i32s (by omega) (by omega)) (i32s (by omega) (by omega))
  · subst z
    have p1 := j1.pr.1
    have p3 := j3.pr.1
    have hjN : j < N := by omega
    refine ⟨fun _ => ?_, fun y => absurd rfl y⟩
    rw [show (k : Int) + 3 = ((k + 3 : Nat) : Int) by omega]
    refine L2.ub (d := d + 5) (by omega) (by rw [wkE]; exact j1.pr.2.2.2.2.1) hjN (by rw [wkE]; exact j2) (Or.inl rfl) ⟨i32s (by omega) (by omega), L2.1, w2.1.1, ?_⟩
    refine (s_MM_rule1 (d := d) (co := 1) (tr := 0) ⟨by decide, by decide⟩ (Or.inl rfl) L2 (by omega) (by rw [wkE]; exact j1) hjN).mono (fun x M3 q3 => ?_)
    obtain ⟨ex, T3, t1, t2, Rl⟩ := q3
    subst ex
    have L3 := Rl.2.1
    have w3 := L3.2.1.1.1
    have I3 := v2.2.1.trans (rlR.ge (R := R) (W := W) (C := C) (Z := Z) L2 Rl).1
    have iT : i32 (T : Int) := i32s (by omega) (by omega)
    have ij : i32 (j : Int) := i32s (by omega) (by omega)
    refine ⟨iT, L3.1, w3.1.1, fun z3 => ?_, fun z3 => s_vi185x L3 I3 z3 ik ie iW iz ii i6 iT ij im⟩
    have v3 := v2.rl (Nat.le_of_lt t1) Rl z3
    have cl := rl_cte (W := W) L2 (v2.g6 h) hR Rl z3
    have wkE3 := v3.2.1.wk hg
    rw [show (j : Int) + 1 = ((j + 1 : Nat) : Int) by omega]
    refine (s_MM_rule1 (d := d) (co := 1) (tr := 0) ⟨by decide, by decide⟩ (Or.inl rfl) L3 (by omega) (by rw [wkE3]; exact j3) hiN).mono (fun x M4 q4 => ?_)
    obtain ⟨ex, T4, u1, u2, Rm⟩ := q4
    subst ex
    have L4 := Rm.2.1
    have iT3 : i32 (T3 : Int) := i32s (by omega) (by omega)
    refine ⟨iT3, L4.1, ?_⟩
    by_cases z4 : mI M4 a 16 = 0
    · have v4 := v3.rl (Nat.le_of_lt u1) Rm z4
      have G4 := (rlR.ge (R := R) (W := W) (C := C) (Z := Z) L3 Rm).2.1 z4
      exact s_vi185 h hW hkN hie heN (by omega) (by omega) hZ v4 (by omega) v01 z4 ((cl.gn G4.1 hR).up (Nat.le_of_lt u1)) (rl_cte L3 (v3.g6 h) hR Rm z4) v9
    · exact s_vi185x L4 (I3.trans (rlR.ge (R := R) (W := W) (C := C) (Z := Z) L3 Rm).1) z4 ik ie iW iz ii i6 iT ij iT3
theorem s_MM_varItem {k e i : Nat} (h : Df M a g N T K R W C Z E tg) (h16 : mI M a 16 = 0) (heN : e < N) (hT : T ≤ k) (hZ : Z ≤ k) (hv : Vs (wk M a) (k + 3) i) (hi : (wk M a i ≠ 9 ∧ i = e) ∨ (wk M a i = 9 ∧ Eo (wk M a) 6 (i + 1) e)) : Cv G y_MM_varItem (d + 8) [vr a, vi k, vi e] M (fun M' => mOk M' ∧ itQ M a g N (e + 1) M') := by
  have hN := h.1.2.1.1.2.2
  have hg := h.1.2.2.2.2.2.1
  have hBd := h.2.2.2.2.1
  have hL := h.1
  have w := hL.2.1.1.1
  have g12 := h.2.1.2.1
  have hie : i ≤ e := by
    rcases hi with ⟨-, z⟩ | ⟨-, z⟩
    · omega
    · have := z.pr.1; omega
  have hki : k + 4 ≤ i := by
    rcases hv with ⟨-, z⟩ | ⟨-, j, z1, -, z2⟩
    · omega
    · have := z1.pr.1; have := z2.pr.1; omega
  have hlast : i = e ∨ wk M a i = 9 := hi.elim (fun z => Or.inl z.2) (fun z => Or.inr z.1)
  have n9 : wk M a (k + 3) ≠ 5 → ∀ m, k + 3 ≤ m → m < i → wk M a m ≠ 9 := fun z m m1 m2 => by
    rcases hv with ⟨y, -⟩ | ⟨-, j, z1, z2, z3⟩
    · exact absurd y z
    · by_cases q : m < j
      · have := rwd_all z1 m1 q; unfold rwd at this; omega
      · by_cases q2 : m = j
        · rw [q2, z2]; decide
        · have := rwd_all z3 (show j + 1 ≤ m by omega) m2; unfold rwd at this; omega
  have iW : i32 (W : Int) := i32s (by omega) (by omega)
  refine k_MM_varItem hL.1 (i32s (by omega) (by omega)) (i32s (by omega) (by omega)) ⟨w.1.1, ?_⟩
  rw [show mR M a 10 = g from hL.2.2.2.2.1, g12, show (k : Int) + 1 = ((k + 1 : Nat) : Int) by omega]
  refine ⟨(w.gp hg).1, fun q => s_st_it (d := d + 6) (c := 5) (by decide) ⟨by decide, by decide⟩ hL (by omega), fun q => ?_⟩
  have hW : W < 12 := by omega
  have hK : K ≤ 200 := hL.2.2.1.2.2.2.1
  refine hL.fd (d := d + 4) (by omega) (fun r r0 r1 => ⟨i32s (by omega) (by omega), hL.1, fun q2 => ⟨w.1.1, ?_⟩, fun q2 => ⟨w.1.1, s_st_it (d := d + 6) (c := 2) (by decide) ⟨by decide, by decide⟩ hL (by omega)⟩⟩)
  rw [show mR M a 10 = g from hL.2.2.2.2.1, g12, show (k : Int) + 3 = ((k + 3 : Nat) : Int) by omega]
  refine ⟨(w.gp hg).1, hL.wd (d := d + 6) (by omega) (fun x hx ix => ⟨ix, hL.1, fun v hv' => ⟨fun z => ⟨w.1.1, ?_⟩, fun z => ?_⟩⟩)⟩
  · have x5 : wk M a (k + 3) ≠ 5 := fun y => by
      rw [if_pos (hx.trans y)] at hv'
      omega
    subst z
    refine hL.io (d := d + 5) (by omega) hie heN (n9 x5) hlast ⟨i32s (by omega) (by omega), hL.1, s_vi91 h h16 hW heN hT hZ (Or.inr ⟨rfl, ?_⟩) hi⟩
    rcases hv with ⟨y, -⟩ | ⟨-, y⟩
    · exact absurd y x5
    · exact y
  · have x5 : wk M a (k + 3) = 5 := by
      split at hv'
      · rename_i y; exact hx.symm.trans y
      · exact absurd hv' z
    have i4 : i = k + 4 := by
      rcases hv with ⟨-, y⟩ | ⟨y, -⟩
      · omega
      · exact absurd x5 y
    have v1 : v = 1 := by rw [if_pos (hx.trans x5)] at hv'; exact hv'
    subst v1
    rw [show (k : Int) + 4 = (i : Int) by omega]
    exact s_vi91 h h16 hW heN hT hZ (Or.inl ⟨rfl, i4⟩) hi
end VI4
end
