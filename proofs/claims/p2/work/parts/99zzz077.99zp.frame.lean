section
/-! The reference: steps of the draft. -/
section FR
variable {a g R W C Z T N K : Nat} {M M' M2 M3 : mM} {P S : Nat → Prop}
theorem Gn.trans (h : Gn M g R W T M2) (k : Gn M2 g R W T M3) : Gn M g R W T M3 :=
  ⟨fun n hn => ⟨(k.1 n hn).1.trans (h.1 n hn).1, (k.1 n hn).2.1.trans (h.1 n hn).2.1, (k.1 n hn).2.2.1.trans (h.1 n hn).2.2.1, (k.1 n hn).2.2.2.1.trans (h.1 n hn).2.2.2.1, (k.1 n hn).2.2.2.2.trans (h.1 n hn).2.2.2.2⟩, fun r hr => ⟨(k.2.1 r hr).1.trans (h.2.1 r hr).1, (k.2.1 r hr).2.trans (h.2.1 r hr).2⟩, fun v hv => (k.2.2 v hv).trans (h.2.2 v hv)⟩
theorem Ge.trans (h : Ge M g R W C Z T M2) (k : Ge M2 g R W C Z T M3) : Ge M g R W C Z T M3 := by
  obtain ⟨h0, h1, h2, h3, h4⟩ := h
  obtain ⟨k0, k1, k2, k3, k4⟩ := k
  refine ⟨h0.trans k0, fun r hr => ⟨(k1 r hr).1.trans (h1 r hr).1, (k1 r hr).2.1.trans (h1 r hr).2.1, (k1 r hr).2.2.trans (h1 r hr).2.2⟩, fun v hv => ⟨(k2 v hv).1.trans (h2 v hv).1, (k2 v hv).2.1.trans (h2 v hv).2.1, (k2 v hv).2.2.trans (h2 v hv).2.2⟩, fun c hc => ⟨(k3 c hc).1.trans (h3 c hc).1, (k3 c hc).2.1.trans (h3 c hc).2.1, fun b hb => ⟨((k3 c hc).2.2 b hb).1.trans ((h3 c hc).2.2 b hb).1, ((k3 c hc).2.2 b hb).2.1.trans ((h3 c hc).2.2 b hb).2.1, ((k3 c hc).2.2 b hb).2.2.1.trans ((h3 c hc).2.2 b hb).2.2.1, ((k3 c hc).2.2 b hb).2.2.2.1.trans ((h3 c hc).2.2 b hb).2.2.2.1, ((k3 c hc).2.2 b hb).2.2.2.2.1.trans ((h3 c hc).2.2 b hb).2.2.2.2.1, ((k3 c hc).2.2 b hb).2.2.2.2.2.trans ((h3 c hc).2.2 b hb).2.2.2.2.2⟩⟩, fun i hi => ⟨(k4 i hi).1.trans (h4 i hi).1, (k4 i hi).2.1.trans (h4 i hi).2.1, (k4 i hi).2.2.trans (h4 i hi).2.2⟩⟩
theorem Ge.refl : Ge M g R W C Z T M := ⟨⟨fun _ _ => ⟨rfl, rfl, rfl, rfl, rfl⟩, fun _ _ => ⟨rfl, rfl⟩, fun _ _ => rfl⟩, fun _ _ => ⟨rfl, rfl, rfl⟩, fun _ _ => ⟨rfl, rfl, rfl⟩, fun _ _ => ⟨rfl, rfl, fun _ _ => ⟨rfl, rfl, rfl, rfl, rfl, rfl⟩⟩, fun _ _ => ⟨rfl, rfl, rfl⟩⟩
theorem Ge.down {R' W' C' Z' T' : Nat} (h : Ge M g R' W' C' Z' T' M2) (hR : R ≤ R') (hW : W ≤ W') (hC : C ≤ C') (hZ : Z ≤ Z') (hT : T ≤ T') : Ge M g R W C Z T M2 :=
  ⟨⟨fun n hn => h.1.1 n (by omega), fun r hr => h.1.2.1 r (by omega), fun v hv => h.1.2.2 v (by omega)⟩, fun r hr => h.2.1 r (by omega), fun v hv => h.2.2.1 v (by omega), fun c hc => h.2.2.2.1 c (by omega), fun i hi => h.2.2.2.2 i (by omega)⟩
theorem n30 (hg : g = a + 13 ∨ g = a + 49) : g + 30 ∈ nums a := by
  rcases hg with z | z <;> rw [z, Nat.add_assoc] <;> exact nums_o (by decide)
theorem n32 (hg : g = a + 13 ∨ g = a + 49) : g + 32 ∈ nums a := by
  rcases hg with z | z <;> rw [z, Nat.add_assoc] <;> exact nums_o (by decide)
theorem n34 (hg : g = a + 13 ∨ g = a + 49) : g + 34 ∈ nums a := by
  rcases hg with z | z <;> rw [z, Nat.add_assoc] <;> exact nums_o (by decide)
/-- a step that leaves the game's cells and set lists -/
theorem ge_mv (w : Wd M a) (hg : g = a + 13 ∨ g = a + 49) (m : Mv P S M a M') (hin : ∀ q, P q → q ∈ nums a) (h30 : ¬ P (g + 30)) (h34 : ¬ P (g + 34)) (h32 : ¬ P (g + 32)) (hS : ∀ i, 13 ≤ i → i ≤ 29 → ¬ S (g + i)) (hn : ∀ n, n < T → so M' g n = so M g n ∧ va M' g n = va M g n ∧ fp M' g n = fp M g n ∧ np M' g n = np M g n ∧ pm M' g n = pm M g n) : Ge M g R W C Z T M' := by
  have c13 := m.cellL w hin (goffx (i := 13) hg (by decide) (by decide)) (hS 13 (by omega) (by omega))
  have c14 := m.cellL w hin (goffx (i := 14) hg (by decide) (by decide)) (hS 14 (by omega) (by omega))
  have c15 := m.cellL w hin (goffx (i := 15) hg (by decide) (by decide)) (hS 15 (by omega) (by omega))
  have c16 := m.cellL w hin (goffx (i := 16) hg (by decide) (by decide)) (hS 16 (by omega) (by omega))
  have c17 := m.cellL w hin (goffx (i := 17) hg (by decide) (by decide)) (hS 17 (by omega) (by omega))
  have c18 := m.cellL w hin (goffx (i := 18) hg (by decide) (by decide)) (hS 18 (by omega) (by omega))
  have c19 := m.cellL w hin (goffx (i := 19) hg (by decide) (by decide)) (hS 19 (by omega) (by omega))
  have c20 := m.cellL w hin (goffx (i := 20) hg (by decide) (by decide)) (hS 20 (by omega) (by omega))
  have c21 := m.cellL w hin (goffx (i := 21) hg (by decide) (by decide)) (hS 21 (by omega) (by omega))
  have c24 := m.cellL w hin (goffx (i := 24) hg (by decide) (by decide)) (hS 24 (by omega) (by omega))
  have c25 := m.cellL w hin (goffx (i := 25) hg (by decide) (by decide)) (hS 25 (by omega) (by omega))
  have c26 := m.cellL w hin (goffx (i := 26) hg (by decide) (by decide)) (hS 26 (by omega) (by omega))
  have c28 := m.cellL w hin (goffx (i := 28) hg (by decide) (by decide)) (hS 28 (by omega) (by omega))
  have c29 := m.cellL w hin (goffx (i := 29) hg (by decide) (by decide)) (hS 29 (by omega) (by omega))
  have c22 := m.cellL w hin (goffx (i := 22) hg (by decide) (by decide)) (hS 22 (by omega) (by omega))
  have c23 := m.cellL w hin (goffx (i := 23) hg (by decide) (by decide)) (hS 23 (by omega) (by omega))
  have c27 := m.cellL w hin (goffx (i := 27) hg (by decide) (by decide)) (hS 27 (by omega) (by omega))
  have s32 := m.lst (n32 hg) h32
  have s30 := m.lst (n30 hg) h30
  have s34 := m.lst (n34 hg) h34
  exact ⟨⟨hn, fun r _ => ⟨by rw [c13.1], by rw [c14.1]⟩, fun v _ => by rw [c18.1]⟩, fun r _ => ⟨by rw [c15.1], by rw [c16.2], by rw [c17.2]⟩, fun v _ => ⟨by rw [c19.1], by rw [c20.1], by rw [c21.1]⟩, fun c _ => ⟨by rw [c24.1], by rw [c25.1], fun b _ => ⟨by rw [c26.1], by rw [c28.1], by rw [c29.1], by rw [c27.1], by rw [c22.1], by rw [c23.1]⟩⟩, fun i _ => ⟨s30.2.1 i, s34.2.1 i, s32.2.1 i⟩⟩
/-- an int of a cell that belongs to no list -/
theorem mv_cell {x j : Nat} {v : Int} (hv : i32 v) (hO : mOk M) (w : Wd M a) (h0 : a ≤ x) (hx : x < a + 21192 ∧ x ∉ nums a ∧ (∀ q, q ∈ nums a → x ≠ q + 1)) (e : M' = mUI M x j v) : Mv (fun _ => False) (fun y => y = x) M a M' ∧ (∀ y k, mI M' y k = if y = x ∧ k = j then v else mI M y k) ∧ mL M' = mL M := by
  have f : FI (fun y => y = x) M M' := by rw [e]; exact FI.ui rfl
  refine ⟨mv_fi (by rw [e]; exact mOk_UI hO hv) w f (fun y z => by rw [z]; exact ⟨h0, by omega, hx.2.1, hx.2.2⟩), fun y k => by rw [e, mI_UI], f.2.2.2.1⟩
/-- a store beyond what is known -/
theorem ge_st {i j : Nat} {v : Int} (hg : g = a + 13 ∨ g = a + 49) (m : Mv (fun _ => False) (fun y => y = g + i) M a M') (f : ∀ y k, mI M' y k = if y = g + i ∧ k = j then v else mI M y k) (hl : mL M' = mL M) (h0 : i ≤ 15 → R ≤ j) (h1 : 18 ≤ i → i ≤ 21 → W ≤ j) (h2 : 22 ≤ i → i ≤ 25 → C ≤ j) (h3 : 26 ≤ i → 8 * C ≤ j) : Ge M g R W C Z T M' := by
  have no : ∀ q : Nat, ¬ False := fun _ z => z
  have s : ∀ {q}, q ∈ nums a → sameN M M' q := fun hq => m.lst hq (fun z => z)
  refine ⟨⟨fun n _ => ⟨(s (tL_in (q := g + 1) hg (tLk1 g))).2.1 n, (s (tL_in (q := g + 7) hg (tLk7 g))).2.1 n, (s (tL_in (q := g + 9) hg (tLk9 g))).2.1 n, (s (tL_in (q := g + 11) hg (tLk11 g))).2.1 n, (s (tL_in (q := g + 3) hg (tLk3 g))).2.1 n⟩, fun r hr => ⟨?_, ?_⟩, fun v hv => ?_⟩, fun r hr => ⟨?_, by rw [hl], by rw [hl]⟩, fun v hv => ⟨?_, ?_, ?_⟩, fun c hc => ⟨?_, ?_, fun b hb => ⟨?_, ?_, ?_, ?_, ?_, ?_⟩⟩, fun i _ => ⟨(s (n30 hg)).2.1 i, (s (n34 hg)).2.1 i, (s (n32 hg)).2.1 i⟩⟩
  all_goals rw [f, if_neg (fun z => by omega)]
/-- a long beyond what is known -/
theorem ge_sl {i j : Nat} {v : Int} (hg : g = a + 13 ∨ g = a + 49) (m : Mv (fun _ => False) (fun y => y = g + i) M a M') (f : ∀ y k, mL M' y k = if y = g + i ∧ k = j then v else mL M y k) (hl : mI M' = mI M) (h0 : R ≤ j) : Ge M g R W C Z T M' := by
  have s : ∀ {q}, q ∈ nums a → sameN M M' q := fun hq => m.lst hq (fun z => z)
  refine ⟨⟨fun n _ => ⟨(s (tL_in (q := g + 1) hg (tLk1 g))).2.1 n, (s (tL_in (q := g + 7) hg (tLk7 g))).2.1 n, (s (tL_in (q := g + 9) hg (tLk9 g))).2.1 n, (s (tL_in (q := g + 11) hg (tLk11 g))).2.1 n, (s (tL_in (q := g + 3) hg (tLk3 g))).2.1 n⟩, fun r hr => by rw [hl]; exact ⟨rfl, rfl⟩, fun v hv => by rw [hl]⟩, fun r hr => ⟨by rw [hl], ?_, ?_⟩, fun v hv => by rw [hl]; exact ⟨rfl, rfl, rfl⟩, fun c hc => by rw [hl]; exact ⟨rfl, rfl, fun _ _ => ⟨rfl, rfl, rfl, rfl, rfl, rfl⟩⟩, fun i _ => ⟨(s (n30 hg)).2.1 i, (s (n34 hg)).2.1 i, (s (n32 hg)).2.1 i⟩⟩
  all_goals rw [f, if_neg (fun z => by omega)]
/-- the draft's words, names and nodes after such a step -/
theorem Lc.mv (h : Lc M a g N T K) (m : Mv P S M a M') (hin : ∀ q, P q → q ∈ nums a) (hP : ∀ q, P q → ¬ (q = a + 1 ∨ q = a + 3 ∨ q = a + 5 ∨ q = a + 7 ∨ q = a + 9 ∨ q = a + 85 ∨ q = a + 87 ∨ q = a + 89 ∨ q = g + 1 ∨ q = g + 3 ∨ q = g + 5 ∨ q = g + 7 ∨ q = g + 9 ∨ q = g + 11)) (h6 : mI M g 6 ≤ mI M' g 6) (h12 : mI M g 12 ≤ mI M' g 12) (hb : mI M' g 6 ≤ 60 ∧ mI M' g 12 ≤ 12) (h13 : ∀ r : Nat, (r : Int) < mI M g 6 → mI M' (g + 13) r = mI M (g + 13) r) : Lc M' a g N T K := by
  obtain ⟨hO, hx, hnm, hd, h10, hg, hB, hT⟩ := h
  have w := hx.1.1
  have t2 : ¬ P (mR M a 2) := fun z => by
    have := hP _ z
    rcases w.1.2.1 with y | y <;> rw [y.2] at this <;> omega
  have k85 := m.lst (n85 (a := a)) (fun z => hP _ z (by omega))
  have k87 := m.lst (n87 (a := a)) (fun z => hP _ z (by omega))
  have k89 := m.lst (n89 (a := a)) (fun z => hP _ z (by omega))
  refine ⟨m.1, hx.mv m hin (fun z => hP _ z (by omega)) (fun z => hP _ z (by omega)) (fun z => hP _ z (by omega)) t2, ?_, fun q hq => ?_, by rw [m.rfl_a w hin]; exact h10, hg, ⟨by omega, hb.1, by omega, hb.2⟩, hT⟩
  · obtain ⟨n1, n2, n3, n4, n5'⟩ := hnm
    refine ⟨by rw [k85.1]; exact n1, by rw [k87.1]; exact n2, by rw [k89.1]; exact n3, n4, fun k hk => ?_⟩
    rw [k85.2.1, k87.2.1, k89.2.1]
    obtain ⟨p1, p2, p3⟩ := n5' k hk
    refine ⟨p1, by omega, fun z => ?_⟩
    rw [h13 _ (by omega)]
    exact p3 z
  · have hq' : q = g + 1 ∨ q = g + 3 ∨ q = g + 5 ∨ q = g + 7 ∨ q = g + 9 ∨ q = g + 11 := hq
    rw [(m.lst (tL_in hg hq) (fun z => hP _ z (by omega))).1]
    exact hd q hq
/-- what reading items may change -/
abbrev itP (a g : Nat) : Nat → Prop := fun q => q ∈ nums a ∧ ((g + 1 ≤ q ∧ q ≤ g + 34) ∨ (a + 85 ≤ q ∧ q ≤ a + 99))
abbrev itS (a g : Nat) : Nat → Prop := fun x => x = a ∨ (g ≤ x ∧ x ≤ g + 29) ∨ (a + 97 ≤ x ∧ x ≤ a + 104)
def iF (M : mM) (a g : Nat) (M' : mM) : Prop := Mv (itP a g) (itS a g) M a M' ∧ ∀ i, i ≠ 16 → i ≠ 17 → i ≠ 23 → mI M' a i = mI M a i
theorem itP_lt (w : Wd M a) : ∀ q, itP a g q → q < mZ M := fun q hq => w.lt hq.1
theorem iF.refl (hO : mOk M) (w : Wd M a) : iF M a g M := ⟨Mv.refl hO w (itP_lt w), fun _ _ _ _ => rfl⟩
theorem iF.trans (h : iF M a g M2) (k : iF M2 a g M3) : iF M a g M3 := ⟨h.1.trans k.1, fun i i1 i2 i3 => (k.2 i i1 i2 i3).trans (h.2 i i1 i2 i3)⟩
theorem iF.mk (w : Wd M a) (m : Mv P S M a M') (hP : ∀ q, P q → itP a g q) (hS : ∀ x, S x → itS a g x) (hf : ∀ i, i ≠ 16 → i ≠ 17 → i ≠ 23 → mI M' a i = mI M a i) : iF M a g M' := ⟨m.mono hP hS (itP_lt w), hf⟩
theorem EO.it {F : Prop} {R W T : Nat} (w : Wd M a) (h : EO F M a g R W T M') : iF M a g M' := by
  refine iF.mk w h.1 (fun q hq => ⟨by rw [hq]; exact n99, by omega⟩) (fun x hx => ?_) h.2.2
  have : x = a ∨ x = a + 97 ∨ x = a + 98 ∨ x = a + 102 ∨ x = a + 103 ∨ x = a + 104 := hx
  show x = a ∨ (g ≤ x ∧ x ≤ g + 29) ∨ (a + 97 ≤ x ∧ x ≤ a + 104)
  omega
end FR
end
section
/-! The reference: a rule item. -/
section RI
variable {G : mG} {d a g R W C Z T N K : Nat} {M M' M2 M3 : mM} {E : Eg9} {tg : Int}
/-- the draft at the end of an item -/
def Df (M : mM) (a g N T K R W C Z : Nat) (E : Eg9) (tg : Int) : Prop := Lc M a g N T K ∧ (mI M g 6 = R ∧ mI M g 12 = W ∧ mI M g 18 = C ∧ mI M g 17 = tg) ∧ (ln M (g + 30) = Z ∧ ln M (g + 32) = Z ∧ ln M (g + 34) = Z) ∧ K = R + W ∧ Dg M g R W C Z T E tg
/-- an item has been read: a fault was told, or the draft is sound -/
def itQ (M : mM) (a g N k : Nat) (M' : mM) : Prop := iF M a g M' ∧ (mI M' a 16 ≠ 0 ∨ (mI M' a 16 = 0 ∧ ∃ (T K R W C Z : Nat) (E : Eg9) (tg : Int), Df M' a g N T K R W C Z E tg ∧ T ≤ k ∧ Z ≤ k))
theorem st_it {c p : Int} {k : Nat} (w : Wd M a) (hc : c ≠ 0) (h : Mv (fun _ => False) (fun x => x = a) M a M' ∧ mI M' a 16 = c ∧ mI M' a 17 = p ∧ ∀ i, i ≠ 16 → i ≠ 17 → mI M' a i = mI M a i) : itQ M a g N k M' :=
  ⟨iF.mk w h.1 (fun q z => z.elim) (fun x z => Or.inl z) (fun i i1 i2 _ => h.2.2.2 i i1 i2), Or.inl (by rw [h.2.1]; exact hc)⟩
/-- a name is known -/
theorem Lc.kn {u v x : Int} (h : Lc M a g N T K) (hK : K < 200) (m : Mv (knP a) (fun _ => False) M a M') (l : ln M' (a + 85) = (K + 1 : Nat) ∧ ln M' (a + 87) = (K + 1 : Nat) ∧ ln M' (a + 89) = (K + 1 : Nat)) (o : ∀ j, j < K → nt M' (a + 85) j = nt M (a + 85) j ∧ nt M' (a + 87) j = nt M (a + 87) j ∧ nt M' (a + 89) j = nt M (a + 89) j) (e1 : nt M' (a + 85) K = u) (e2 : nt M' (a + 87) K = v) (e3 : nt M' (a + 89) K = x) (hu : 0 ≤ u ∧ u < N) (hv : (v = 3 ∧ 0 ≤ x ∧ x < mI M g 12) ∨ ((v = 1 ∨ v = 2) ∧ 0 ≤ x ∧ x < mI M g 6)) (h1 : v = 1 → mI M (g + 13) x.toNat = 0) : Lc M' a g N T (K + 1) ∧ mI M' g = mI M g ∧ mI M' a = mI M a := by
  obtain ⟨hO, hx, hnm, hd, h10, hg, hB, hT⟩ := h
  have w := hx.1.1
  have hin : ∀ q, knP a q → q ∈ nums a := fun q hq => knP_in hq
  have a0 := goff0 hg
  have gI := m.cell w hin a0.1 a0.2.1 a0.2.2.1 (fun z => z)
  have o13 := goffx (i := 13) hg (by decide) (by decide)
  have g13 := m.cell w hin o13.1 o13.2.1 o13.2.2 (fun z => z)
  have h2 : ¬ knP a (mR M a 2) := by
    rcases w.1.2.1 with y | y <;> rw [y.2] <;> omega
  refine ⟨⟨m.1, hx.mv m hin (by omega) (by omega) (by omega) h2, ⟨l.1, l.2.1, l.2.2, by omega, fun k hk => ?_⟩, fun q hq => ?_, by rw [m.rfl_a w hin]; exact h10, hg, by rw [gI]; exact hB, hT⟩, gI, (m.fld w hin (fun z => z)).1⟩
  · rw [gI, g13]
    by_cases z : k = K
    · rw [z, e1, e2, e3]
      exact ⟨hu, hv, h1⟩
    · obtain ⟨o1, o2, o3⟩ := o k (by omega)
      rw [o1, o2, o3]
      exact hnm.2.2.2.2 k (by omega)
  · have hq' : q = g + 1 ∨ q = g + 3 ∨ q = g + 5 ∨ q = g + 7 ∨ q = g + 9 ∨ q = g + 11 := hq
    rw [(m.lst (tL_in hg hq) (by omega)).1]
    exact hd q hq
theorem ge_kn (w : Wd M a) (hg : g = a + 13 ∨ g = a + 49) (m : Mv (knP a) (fun _ => False) M a M') : Ge M g R W C Z T M' ∧ ln M' (g + 30) = ln M (g + 30) ∧ ln M' (g + 32) = ln M (g + 32) ∧ ln M' (g + 34) = ln M (g + 34) := by
  have nn : ∀ n, so M' g n = so M g n ∧ va M' g n = va M g n ∧ fp M' g n = fp M g n ∧ np M' g n = np M g n ∧ pm M' g n = pm M g n := fun n => ⟨(m.lst (tL_in (q := g + 1) hg (tLk1 g)) (by omega)).2.1 n, (m.lst (tL_in (q := g + 7) hg (tLk7 g)) (by omega)).2.1 n, (m.lst (tL_in (q := g + 9) hg (tLk9 g)) (by omega)).2.1 n, (m.lst (tL_in (q := g + 11) hg (tLk11 g)) (by omega)).2.1 n, (m.lst (tL_in (q := g + 3) hg (tLk3 g)) (by omega)).2.1 n⟩
  exact ⟨ge_mv w hg m (fun q hq => knP_in hq) (by omega) (by omega) (by omega) (fun _ _ _ z => z) (fun n _ => nn n), (m.lst (n30 hg) (by omega)).1, (m.lst (n32 hg) (by omega)).1, (m.lst (n34 hg) (by omega)).1⟩
theorem knP_it {q : Nat} (h : knP a q) : itP a g q := ⟨knP_in h, by have : q = a + 85 ∨ q = a + 87 ∨ q = a + 89 := h; omega⟩
/-- the game's own numbers after a step elsewhere -/
theorem Mv.gI {P S : Nat → Prop} (m : Mv P S M a M') (w : Wd M a) (hg : g = a + 13 ∨ g = a + 49) (hin : ∀ q, P q → q ∈ nums a) (hS : ¬ S g) : mI M' g = mI M g := by
  have a0 := goff0 hg
  exact m.cell w hin a0.1 a0.2.1 a0.2.2.1 hS
end RI
end
section
/-! The reference: a rule item, to its end. -/
section RI2
variable {G : mG} {d a g R W C Z T N K : Nat} {M M' M2 M3 : mM} {E : Eg9} {tg : Int}
theorem Lc.wd {k : Nat} {Q : Int → mM → Prop} (h : Lc M a g N T K) (hk : k < N) (hQ : ∀ z, z = wk M a k → i32 z → Q z M) : Ci G y_MM_word1 (d + 1) [vr a, vi k] M Q := by
  refine (s_MM_word1 (d := d) h.1 h.2.1.1 hk).mono (fun z M1 e1 => ?_)
  obtain ⟨e1, hz⟩ := e1
  subst e1
  exact hQ z hz (by rw [hz]; exact wk32 h.1)
theorem Lc.fd {k : Nat} {Q : Int → mM → Prop} (h : Lc M a g N T K) (hk : k < N) (hQ : ∀ z : Int, -1 ≤ z → z < K → Q z M) : Ci G y_MM_find (d + 3) [vr a, vi k] M Q := by
  refine (s_MM_find (d := d) h.1 h.2.1 h.2.2.1 hk).mono (fun z M1 e1 => ?_)
  obtain ⟨e1, z1, z2⟩ := e1
  subst e1
  exact hQ z z1 z2
/-- a number of the game is stored -/
theorem gsti {i j : Nat} {v : Int} (h : Lc M a g N T K) (hv : i32 v) (hi : 13 ≤ i ∧ i ≤ 29) (f1 : frO (13 + i)) (f2 : frO (49 + i)) (h13 : i = 13 → mI M g 6 ≤ j) (e : M' = mUI M (g + i) j v) : Lc M' a g N T K ∧ iF M a g M' ∧ (mI M' g = mI M g ∧ mI M' a = mI M a) ∧ Mv (fun _ => False) (fun y => y = g + i) M a M' ∧ (∀ y k, mI M' y k = if y = g + i ∧ k = j then v else mI M y k) ∧ mL M' = mL M := by
  have hg := h.2.2.2.2.2.1
  have hB := h.2.2.2.2.2.2.1
  have w := h.2.1.1.1
  obtain ⟨m, f, l⟩ := mv_cell hv h.1 w (show a ≤ g + i by omega) (goffx hg f1 f2) e
  have no : ∀ q : Nat, False → q ∈ nums a := fun _ z => z.elim
  have gI := m.gI w hg no (by omega)
  have aI := (m.fld w no (by omega)).1
  refine ⟨h.mv m no (fun _ z => z.elim) (by rw [gI]; omega) (by rw [gI]; omega) (by rw [gI]; omega) (fun r hr => ?_), iF.mk w m (fun _ z => z.elim) (fun x z => Or.inr (Or.inl (by omega))) (fun i _ _ _ => by rw [aI]), ⟨gI, aI⟩, m, f, l⟩
  rw [f, if_neg (fun z => by
    have := h13 (by omega)
    omega)]
/-- a long of the game is stored -/
theorem gstl {i j : Nat} {v : Int} (h : Lc M a g N T K) (hv : i64 v) (hi : i = 16 ∨ i = 17) (e : M' = mUL M (g + i) j v) : Lc M' a g N T K ∧ iF M a g M' ∧ mI M' = mI M ∧ Mv (fun _ => False) (fun y => y = g + i) M a M' ∧ (∀ y k, mL M' y k = if y = g + i ∧ k = j then v else mL M y k) := by
  have hg := h.2.2.2.2.2.1
  have hB := h.2.2.2.2.2.2.1
  have w := h.2.1.1.1
  obtain ⟨m, f, l⟩ := mv_ul hv h.1 w e
  have no : ∀ q : Nat, False → q ∈ nums a := fun _ z => z.elim
  exact ⟨h.mv m no (fun _ z => z.elim) (by rw [l]; omega) (by rw [l]; omega) (by rw [l]; omega) (fun r hr => by rw [l]), iF.mk w m (fun _ z => z.elim) (fun x z => Or.inr (Or.inl (by omega))) (fun i _ _ _ => by rw [l]), l, m, f⟩
theorem rlP_it {q : Nat} (hg : g = a + 13 ∨ g = a + 49) (h : rlP a g q) : itP a g q := by
  refine ⟨rlP_in hg h, ?_⟩
  have : ((q = g + 1 ∨ q = g + 3 ∨ q = g + 5 ∨ q = g + 7 ∨ q = g + 9 ∨ q = g + 11) ∨ q = a + 91) ∨ (q = a + 93 ∨ q = a + 95 ∨ q = g + 7) := h
  omega
/-- a rule has been read: what is the same -/
theorem rlR.ge {co r : Int} {T' : Nat} (hL : Lc M a g N T K) (h : rlR co M a g N T K T' r M3) : iF M a g M3 ∧ (mI M3 a 16 = 0 → (∀ n, n < T → pm M3 g n = pm M g n) → Ge M g R W C Z T M3) ∧ ln M3 (g + 30) = ln M (g + 30) ∧ ln M3 (g + 32) = ln M (g + 32) ∧ ln M3 (g + 34) = ln M (g + 34) := by
  obtain ⟨R1, R2, R3, R4, R5, R6⟩ := h
  have hg := hL.2.2.2.2.2.1
  have w := hL.2.1.1.1
  have hin : ∀ q, rlP a g q → q ∈ nums a := fun q hq => rlP_in hg hq
  have no : ∀ i, 30 ≤ i → i ≤ 34 → ¬ rlP a g (g + i) := fun i i1 i2 z => by
    have : ((g + i = g + 1 ∨ g + i = g + 3 ∨ g + i = g + 5 ∨ g + i = g + 7 ∨ g + i = g + 9 ∨ g + i = g + 11) ∨ g + i = a + 91) ∨ (g + i = a + 93 ∨ g + i = a + 95 ∨ g + i = g + 7) := z
    omega
  refine ⟨iF.mk w R1 (fun q hq => rlP_it hg hq) (fun x hx => Or.inl hx) (fun i i1 i2 _ => R3 i i1 i2), fun z hp => ?_, (R1.lst (n30 hg) (no 30 (by omega) (by omega))).1, (R1.lst (n32 hg) (no 32 (by omega) (by omega))).1, (R1.lst (n34 hg) (no 34 (by omega) (by omega))).1⟩
  rcases R6 with y | ⟨-, -, y⟩
  · exact absurd z y
  · exact ge_mv w hg R1 hin (no 30 (by omega) (by omega)) (no 34 (by omega) (by omega)) (no 32 (by omega) (by omega)) (fun i i1 i2 (z : g + i = a) => by omega) (fun n hn => ⟨(y n hn).1, (y n hn).2.1, (y n hn).2.2.1, (y n hn).2.2.2, hp n hn⟩)
/-- after working out, the draft's words, names and nodes -/
theorem EO.lc {F : Prop} {R' W' T' : Nat} (h : Lc M a g N T K) (k : EO F M a g R' W' T' M') : Lc M' a g N T K ∧ mI M' g = mI M g ∧ Ge M g R W C Z T M' ∧ ln M' (g + 30) = ln M (g + 30) ∧ ln M' (g + 32) = ln M (g + 32) ∧ ln M' (g + 34) = ln M (g + 34) := by
  have hg := h.2.2.2.2.2.1
  have hB := h.2.2.2.2.2.2.1
  have w := h.2.1.1.1
  have hin : ∀ q, q = a + 99 → q ∈ nums a := fun q hq => by rw [hq]; exact n99
  have ns : ∀ i, i ≤ 29 → ¬ woS a (g + i) := fun i i1 z => by
    have : g + i = a ∨ g + i = a + 97 ∨ g + i = a + 98 ∨ g + i = a + 102 ∨ g + i = a + 103 ∨ g + i = a + 104 := z
    omega
  have gI := k.1.gI w hg hin (ns 0 (by omega))
  have gs := k.gs w
  exact ⟨h.mv k.1 hin (fun q hq => by omega) (by rw [gI]; omega) (by rw [gI]; omega) (by rw [gI]; omega) (fun r _ => by rw [gs.1]), gI, ge_mv w hg k.1 hin (by omega) (by omega) (by omega) (fun i _ i2 => ns i i2) (fun n _ => ⟨(k.nod n).1, (k.nod n).2.1, (k.nod n).2.2.1, (k.nod n).2.2.2, (k.1.lst (tL_in (q := g + 3) hg (tLk3 g)) (by omega)).2.1 n⟩), (k.1.lst (n30 hg) (by omega)).1, (k.1.lst (n32 hg) (by omega)).1, (k.1.lst (n34 hg) (by omega)).1⟩
end RI2
end
section
/-! The reference: ruleItem. -/
section RI3
variable {G : mG} {d a g R W C Z T N K : Nat} {M : mM} {E : Eg9} {tg : Int}
/-- a new rule's numbers are stored -/
def riS (M : mM) (a g N T K R W C Z T' f : Nat) (co v6 x3 : Int) (M6 : mM) : Prop := Lc M6 a g N T' K ∧ iF M a g M6 ∧ mI M6 g = mI M g ∧ (ln M6 (g + 30) = ln M (g + 30) ∧ ln M6 (g + 32) = ln M (g + 32) ∧ ln M6 (g + 34) = ln M (g + 34)) ∧ Ge M g R W C Z T M6 ∧ mI M6 (g + 13) R = v6 ∧ mI M6 (g + 15) R = (T : Int) ∧ tn M6 g R = x3 ∧ ∀ F : Prop, (co = 0 → F) → Ty (nme F M6 g R W) (tn M6 g) M6 g f 0 T T' (fun _ => x3)
theorem ri_a {T' : Nat} {co v6 x3 : Int} {M3 M4 M5 M6 : mM} (h : Df M a g N T K R W C Z E tg) (hR : R < 60) (t1 : T < T') (Rl : rlR co M a g N T K T' x3 M3) (z16 : mI M3 a 16 = 0) (hp : ∀ n, n < T → pm M3 g n = pm M g n) (c6 : v6 = 0 ∨ v6 = 1) (e4 : M4 = mUI M3 (g + 13) R v6) (e5 : M5 = mUI M4 (g + 14) R x3) (e6 : M6 = mUI M5 (g + 15) R (T : Int)) : (∃ f, riS M a g N T K R W C Z T' f co v6 x3 M6) ∧ Lc M4 a g N T' K ∧ Lc M5 a g N T' K := by
  obtain ⟨hL, ⟨g6, g12, g18, g17⟩, -, -, hD⟩ := h
  have hg := hL.2.2.2.2.2.1
  have hBd := hD.1.1
  have hT3 := Rl.2.1.2.2.2.2.2.2.2
  obtain ⟨I3, G3, z30, z32, z34⟩ := rlR.ge (R := R) (W := W) (C := C) (Z := Z) hL Rl
  have G3 := G3 z16 hp
  obtain ⟨-, R2, -, R4, R5, R6⟩ := Rl
  have gI3 : mI M3 g = mI M g := R4
  obtain ⟨f, ty⟩ : ∃ f, Ty (nmr co M g) (tn M g) M3 g f 0 T T' (fun _ => x3) := by
    rcases R6 with y | ⟨-, y, -⟩
    · exact absurd z16 y
    · exact y
  clear R6
  have g63 : mI M3 g 6 ≤ R := by rw [gI3, g6]; omega
  obtain ⟨L4, I4, ⟨gI4, aI4⟩, m4, f4, l4⟩ := gsti R2 (i := 13) (i32s (by omega) (by omega)) (by omega) (by decide) (by decide) (fun _ => g63) e4
  have G4 := ge_st (R := R) (W := W) (C := C) (Z := Z) (T := T') hg m4 f4 l4 (fun _ => Nat.le_refl R) (by omega) (by omega) (by omega)
  obtain ⟨L5, I5, ⟨gI5, aI5⟩, m5, f5, l5⟩ := gsti L4 (i := 14) (i32s (by omega) (by omega)) (by omega) (by decide) (by decide) (fun z => by omega) e5
  have G5 := ge_st (R := R) (W := W) (C := C) (Z := Z) (T := T') hg m5 f5 l5 (fun _ => Nat.le_refl R) (by omega) (by omega) (by omega)
  obtain ⟨L6, I6, ⟨gI6, aI6⟩, m6, f6, l6⟩ := gsti L5 (i := 15) (i32s (by omega) (by omega)) (by omega) (by decide) (by decide) (fun z => by omega) e6
  have G6 := ge_st (R := R) (W := W) (C := C) (Z := Z) (T := T') hg m6 f6 l6 (fun _ => Nat.le_refl R) (by omega) (by omega) (by omega)
  have G36 := (G4.trans G5).trans G6
  have G06 := G3.trans (G36.down (Nat.le_refl _) (Nat.le_refl _) (Nat.le_refl _) (Nat.le_refl _) (Nat.le_of_lt t1))
  have c13 : mI M6 (g + 13) R = v6 := by rw [f6, if_neg (fun z => by omega), f5, if_neg (fun z => by omega), f4, if_pos ⟨rfl, rfl⟩]
  have c14 : mI M6 (g + 14) R = x3 := by rw [f6, if_neg (fun z => by omega), f5, if_pos ⟨rfl, rfl⟩]
  have c15 : mI M6 (g + 15) R = (T : Int) := by rw [f6, if_pos ⟨rfl, rfl⟩]
  have tn6 : tn M6 g R = x3 := by
    unfold tn
    rw [if_neg (show ¬ (100 : Int) ≤ (R : Int) by omega), Int.toNat_natCast, c14]
    split <;> omega
  have gI06 : mI M6 g = mI M g := by rw [gI6, gI5, gI4, gI3]
  have y0 : ∀ {q}, q ∈ nums a → ln M6 q = ln M3 q := fun hq => by rw [(m6.lst hq (fun z => z)).1, (m5.lst hq (fun z => z)).1, (m4.lst hq (fun z => z)).1]
  refine ⟨⟨f, L6, ((I3.trans I4).trans I5).trans I6, gI06, ⟨by rw [y0 (n30 hg), z30], by rw [y0 (n32 hg), z32], by rw [y0 (n34 hg), z34]⟩, G06, c13, c15, tn6, fun F hF => ?_⟩, L4, L5⟩
  clear c13 c14 c15 tn6 y0 f4 f5 f6 m4 m5 m6 L4 L5 L6 I3 I4 I5 I6 l4 l5 l6 G4 G5 G6 G3
  refine (ty.mono (nm' := nme F M6 g R W) (w' := tn M6 g) (fun v hv => ?_)).fr (fun n _ n2 => ⟨(G36.1.1 n n2).1, (G36.1.1 n n2).2.1, (G36.1.1 n n2).2.2.1⟩) (fun n _ n2 => (G36.1.1 n n2).2.2.2.1) (fun z => absurd rfl z)
  unfold nmr at hv
  rw [g6, g12] at hv
  rcases hv with ⟨h1, h2, h3, h4⟩ | ⟨h1, h2, h3, h4⟩
  · have gt := G06.1.tr (r := v.toNat) hBd (by omega)
    rw [show ((v.toNat : Nat) : Int) = v by omega] at gt
    refine ⟨Or.inl ⟨h1, h2, ?_⟩, gt⟩
    by_cases z : co = 0
    · exact Or.inl (hF z)
    · right
      rw [(G06.1.2.1 v.toNat (by omega)).1]
      exact h4 z
  · exact ⟨Or.inr ⟨hF h1, h2, h3⟩, G06.1.tv h2 h3⟩
end RI3
end
section
/-! The reference: whole numbers and first values of variables. -/
section VI
variable {G : mG} {d a g R W C Z T N K : Nat} {M M2 M3 : mM} {E : Eg9} {F : Prop}
theorem rwd_all {w : Nat → Int} {c i j m : Nat} (h : Eo w c i j) (h1 : i ≤ m) (h2 : m < j) : rwd (w m) := by
  have := (h.pr.2.2.2.2.1.2.2.2 (m - i) (by omega)).1
  rw [show i + (m - i) = m by omega] at this
  exact this
theorem s_MM_initOf {p i e : Nat} (h : Lc M a g N T K) (h1 : p ≤ i) (h2 : i ≤ e) (he : e < N) (hn : ∀ m, p ≤ m → m < i → wk M a m ≠ 9) (hi : i = e ∨ wk M a i = 9) : Ci G y_MM_initOf (d + 2) [vr a, vi p, vi e] M (fun x M' => M' = M ∧ x = i) := by
  have hN := h.2.1.1.2.2
  have w := h.2.1.1.1
  refine k_MM_initOf h.1 (i32s (by omega) (by omega)) (i32s (by omega) (by omega)) ?_
  suffices H : ∀ (c m : Nat), m + c = i → p ≤ m → h_MM_initOf_2 G (d + 1) a e m M (fun x M' => M' = M ∧ x = i) from H (i - p) p (by omega) (Nat.le_refl _)
  intro c
  induction c with
  | zero =>
    intro m hm hp
    have e1 : m = i := by omega
    subst e1
    refine k_MM_initOf_2 h.1 (i32s (by omega) (by omega)) (i32s (by omega) (by omega)) ⟨fun _ => ⟨rfl, rfl⟩, fun q => ⟨w.1.1, h.wd (d := d) (by omega) (fun z hz iz => ⟨iz, h.1, fun _ => ⟨rfl, rfl⟩, fun q2 => ?_⟩)⟩⟩
    rcases hi with y | y
    · omega
    · exact absurd (hz.trans y) q2
  | succ c ih =>
    intro m hm hp
    refine k_MM_initOf_2 h.1 (i32s (by omega) (by omega)) (i32s (by omega) (by omega)) ⟨fun q => by omega, fun q => ⟨w.1.1, h.wd (d := d) (by omega) (fun z hz iz => ⟨iz, h.1, fun q2 => absurd (hz.symm.trans q2) (hn m hp (by omega)), fun q2 => ?_⟩)⟩⟩
    have := ih (m + 1) (by omega) (by omega)
    rw [show ((m + 1 : Nat) : Int) = (m : Int) + 1 by omega] at this
    exact this
theorem nme.wk {v : Int} {b : Nat} (h : nme F M g b W v) : nme True M g b W v := by
  rcases h with ⟨h1, h2, -⟩ | ⟨-, h⟩
  · exact Or.inl ⟨h1, h2, Or.inl trivial⟩
  · exact Or.inr ⟨trivial, h⟩
theorem Gn.nm {v : Int} {b : Nat} (h : Gn M g R W T M2) (hb : b ≤ R) (hv : nme F M g b W v) : nme F M2 g b W v := by
  rcases hv with ⟨h1, h2, h3⟩ | h'
  · refine Or.inl ⟨h1, h2, h3.imp (fun z => z) (fun z => ?_)⟩
    rw [(h.2.1 v.toNat (by omega)).1]
    exact z
  · exact Or.inr h'
/-- a rule made of constants alone -/
def Cte (M : mM) (g R W T n : Nat) (t : Int) : Prop := ∃ f e : Nat, Ty (nme False M g R W) (tn M g) M g f 0 n e (fun _ => t) ∧ e ≤ T
theorem Cte.gn {n : Nat} {t : Int} (h : Cte M g R W T n t) (k : Gn M g R W T M2) (hR : R ≤ 60) : Cte M2 g R W T n t := by
  obtain ⟨f, e, h1, h2⟩ := h
  exact ⟨f, e, (h1.mono (nm' := nme False M2 g R W) (w' := tn M2 g) (fun v hv => ⟨k.nm (Nat.le_refl _) hv, k.tnm hR hv.wk (Nat.le_refl _)⟩)).fr (fun n _ n2 => ⟨(k.1 n (by omega)).1, (k.1 n (by omega)).2.1, (k.1 n (by omega)).2.2.1⟩) (fun n _ n2 => (k.1 n (by omega)).2.2.2.1) (fun z => absurd rfl z), h2⟩
theorem Cte.up {n T' : Nat} {t : Int} (h : Cte M g R W T n t) (hT : T ≤ T') : Cte M g R W T' n t := by
  obtain ⟨f, e, h1, h2⟩ := h
  exact ⟨f, e, h1, by omega⟩
end VI
end
section
/-! The reference: a variable item, its end. -/
section VI2
variable {G : mG} {d a g R W C Z T T2 T3 N K : Nat} {M M2 M3 : mM} {E : Eg9} {tg bl : Int}
/-- inside a variable item -/
def vI (M : mM) (a g N T K R W C Z : Nat) (bl : Int) (T2 : Nat) (M2 : mM) : Prop := Lc M2 a g N T2 K ∧ iF M a g M2 ∧ mI M2 g = mI M g ∧ (ln M2 (g + 30) = ln M (g + 30) ∧ ln M2 (g + 32) = ln M (g + 32) ∧ ln M2 (g + 34) = ln M (g + 34)) ∧ mI M2 (g + 18) W = bl ∧ T ≤ T2 ∧ Ge M g R W C Z T M2
theorem vI.step (h : vI M a g N T K R W C Z bl T2 M2) (hT : T2 ≤ T3) (L3 : Lc M3 a g N T3 K) (I : iF M2 a g M3) (gI : mI M3 g = mI M2 g) (z : ln M3 (g + 30) = ln M2 (g + 30) ∧ ln M3 (g + 32) = ln M2 (g + 32) ∧ ln M3 (g + 34) = ln M2 (g + 34)) (c18 : mI M3 (g + 18) W = mI M2 (g + 18) W) (k : Ge M2 g R W C Z T2 M3) : vI M a g N T K R W C Z bl T3 M3 := by
  obtain ⟨-, h2, h3, h4, h5, h6, h7⟩ := h
  exact ⟨L3, h2.trans I, gI.trans h3, ⟨z.1.trans h4.1, z.2.1.trans h4.2.1, z.2.2.trans h4.2.2⟩, c18.trans h5, by omega, h7.trans (k.down (Nat.le_refl _) (Nat.le_refl _) (Nat.le_refl _) (Nat.le_refl _) h6)⟩
theorem vI.rl {co r : Int} (h : vI M a g N T K R W C Z bl T2 M2) (hT : T2 ≤ T3) (q : rlR co M2 a g N T2 K T3 r M3) (z : mI M3 a 16 = 0) (hp : ∀ n, n < T2 → pm M3 g n = pm M2 g n) : vI M a g N T K R W C Z bl T3 M3 := by
  obtain ⟨I3, G3, z3⟩ := rlR.ge (R := R) (W := W) (C := C) (Z := Z) h.1 q
  have hg := h.1.2.2.2.2.2.1
  have o18 := goffx (i := 18) hg (by decide) (by decide)
  have c18 := q.1.cell h.1.2.1.1.1 (fun q hq => rlP_in hg hq) o18.1 o18.2.1 o18.2.2 (by omega)
  exact h.step hT q.2.1 I3 q.2.2.2.1 z3 (by rw [c18]) (G3 z hp)
theorem vI.eo {F : Prop} {R' W' T' : Nat} (h : vI M a g N T K R W C Z bl T2 M2) (k : EO F M2 a g R' W' T' M3) : vI M a g N T K R W C Z bl T2 M3 := by
  obtain ⟨L3, g3, G3, z3⟩ := k.lc (R := R) (W := W) (C := C) (Z := Z) h.1
  have w2 := h.1.2.1.1.1
  exact h.step (Nat.le_refl _) L3 (k.it w2) g3 z3 (by rw [(k.gs w2).2.2.2.1]) G3
theorem vI.st {i : Nat} {v : Int} (h : vI M a g N T K R W C Z bl T2 M2) (hv : i32 v) (hi : i = 19 ∨ i = 20 ∨ i = 21) (f1 : frO (13 + i)) (f2 : frO (49 + i)) (e : M3 = mUI M2 (g + i) W v) : vI M a g N T K R W C Z bl T2 M3 ∧ (∀ y k, mI M3 y k = if y = g + i ∧ k = W then v else mI M2 y k) ∧ mI M3 a = mI M2 a := by
  obtain ⟨L3, I3, ⟨g3, a3⟩, m3, f3, l3⟩ := gsti h.1 hv (by omega) f1 f2 (fun z => by omega) e
  have hg := h.1.2.2.2.2.2.1
  have G3 := ge_st (R := R) (W := W) (C := C) (Z := Z) (T := T2) hg m3 f3 l3 (by omega) (fun _ _ => Nat.le_refl W) (by omega) (by omega)
  refine ⟨h.step (Nat.le_refl _) L3 I3 g3 ⟨(m3.lst (n30 hg) (fun z => z)).1, (m3.lst (n32 hg) (fun z => z)).1, (m3.lst (n34 hg) (fun z => z)).1⟩ ?_ G3, f3, a3⟩
  rw [f3, if_neg (fun z => by omega)]
theorem Lc.sp {P S : Nat → Prop} (h : Lc M a g N T K) (m : Mv P S M a M2) (hP : ∀ q, P q → False) (hS : ∀ x, S x → x = a) : Lc M2 a g N T K ∧ mI M2 g = mI M g ∧ Ge M g R W C Z T M2 ∧ (ln M2 (g + 30) = ln M (g + 30) ∧ ln M2 (g + 32) = ln M (g + 32) ∧ ln M2 (g + 34) = ln M (g + 34)) ∧ mI M2 (g + 18) = mI M (g + 18) := by
  have hg := h.2.2.2.2.2.1
  have hB := h.2.2.2.2.2.2.1
  have w := h.2.1.1.1
  have hin : ∀ q, P q → q ∈ nums a := fun q hq => (hP q hq).elim
  have ns : ∀ i, i ≤ 29 → ¬ S (g + i) := fun i i1 z => by
    have := hS _ z
    omega
  have gI := m.gI w hg hin (ns 0 (by omega))
  have o13 := goffx (i := 13) hg (by decide) (by decide)
  have c13 := m.cell w hin o13.1 o13.2.1 o13.2.2 (ns 13 (by omega))
  have o18 := goffx (i := 18) hg (by decide) (by decide)
  have c18 := m.cell w hin o18.1 o18.2.1 o18.2.2 (ns 18 (by omega))
  exact ⟨h.mv m hin (fun q hq => (hP q hq).elim) (by rw [gI]; omega) (by rw [gI]; omega) (by rw [gI]; omega) (fun r _ => by rw [c13]), gI, ge_mv w hg m hin (fun z => hP _ z) (fun z => hP _ z) (fun z => hP _ z) (fun i _ i2 => ns i i2) (fun n _ => ⟨(m.lst (tL_in (q := g + 1) hg (tLk1 g)) (fun z => hP _ z)).2.1 n, (m.lst (tL_in (q := g + 7) hg (tLk7 g)) (fun z => hP _ z)).2.1 n, (m.lst (tL_in (q := g + 9) hg (tLk9 g)) (fun z => hP _ z)).2.1 n, (m.lst (tL_in (q := g + 11) hg (tLk11 g)) (fun z => hP _ z)).2.1 n, (m.lst (tL_in (q := g + 3) hg (tLk3 g)) (fun z => hP _ z)).2.1 n⟩), ⟨(m.lst (n30 hg) (fun z => hP _ z)).1, (m.lst (n32 hg) (fun z => hP _ z)).1, (m.lst (n34 hg) (fun z => hP _ z)).1⟩, c18⟩
theorem vI.sp {c p : Int} (h : vI M a g N T K R W C Z bl T2 M2) (q : Mv (fun _ => False) (fun x => x = a) M2 a M3 ∧ mI M3 a 16 = c ∧ mI M3 a 17 = p ∧ ∀ i, i ≠ 16 → i ≠ 17 → mI M3 a i = mI M2 a i) : vI M a g N T K R W C Z bl T2 M3 := by
  obtain ⟨L3, g3, G3, z3, c18⟩ := h.1.sp (R := R) (W := W) (C := C) (Z := Z) q.1 (fun _ z => z) (fun _ z => z)
  exact h.step (Nat.le_refl _) L3 (iF.mk h.1.2.1.1.1 q.1 (fun _ z => z.elim) (fun x z => Or.inl z) (fun i i1 i2 _ => q.2.2.2 i i1 i2)) g3 z3 (by rw [c18]) G3
theorem vI.ev (h : vI M a g N T K R W C Z bl T2 M2) (hD : Dg M g R W C Z T E tg) (hT : T2 ≤ 16384) : Ev False M2 a g R W T2 := by
  obtain ⟨L, -, -, -, -, -, G⟩ := h
  have D := hD.ge G
  exact ⟨L.1, L.2.1.1.1, L.2.2.2.2.2.1, L.2.2.2.1, ⟨D.1.1, D.1.2.1, hT⟩, fun r hr => ⟨D.2.1 r hr, fun z => z.elim⟩, fun z => z.elim⟩
end VI2
end
section
/-! The reference: a variable item, its range. -/
section VI3
variable {G : mG} {d a g R W C Z T T2 T3 N K : Nat} {M M2 M3 : mM} {E : Eg9} {tg bl : Int}
theorem vst_ge {i : Nat} {v : Int} (h : Lc M2 a g N T2 K) (hv : i32 v) (hi : 18 ≤ i ∧ i ≤ 21) (f1 : frO (13 + i)) (f2 : frO (49 + i)) (e : M3 = mUI M2 (g + i) W v) : Ge M2 g R W C Z T2 M3 := by
  obtain ⟨L3, I3, ⟨g3, a3⟩, m3, f3, l3⟩ := gsti h hv (by omega) f1 f2 (fun z => by omega) e
  exact ge_st h.2.2.2.2.2.1 m3 f3 l3 (by omega) (fun _ _ => Nat.le_refl W) (by omega) (by omega)
theorem vI.new (h : Df M a g N T K R W C Z E tg) (hb : bl = 0 ∨ bl = 1) (e : M2 = mUI M (g + 18) W bl) : vI M a g N T K R W C Z bl T M2 ∧ mI M2 a = mI M a := by
  have ib : i32 bl := i32s (by omega) (by omega)
  have hg := h.1.2.2.2.2.2.1
  have G2 := vst_ge (R := R) (C := C) (Z := Z) (i := 18) h.1 ib (by omega) (by decide) (by decide) e
  obtain ⟨L3, I3, ⟨g3, a3⟩, m3, f3, l3⟩ := gsti (i := 18) h.1 ib (by omega) (by decide) (by decide) (fun z => by omega) e
  exact ⟨⟨L3, I3, g3, ⟨(m3.lst (n30 hg) (fun z => z)).1, (m3.lst (n32 hg) (fun z => z)).1, (m3.lst (n34 hg) (fun z => z)).1⟩, by rw [f3, if_pos ⟨rfl, rfl⟩], Nat.le_refl _, G2⟩, a3⟩
theorem iF.wk (h : iF M a g M2) (hg : g = a + 13 ∨ g = a + 49) : wk M2 a = wk M a := by
  funext k
  exact (h.1.lst n5 (fun z => by have := z.2; omega)).2.1 k
end VI3
end
section
/-! The reference: varItem. -/
section VI4
variable {G : mG} {d a g R W C Z T T2 N K : Nat} {M M2 : mM} {E : Eg9} {tg : Int}
theorem Lc.ub {i j : Nat} {s : Int} {Q : Int → mM → Prop} (h : Lc M a g N T K) (hij : i ≤ j) (hb : Bl (wk M a) i (j - i)) (hj : j < N) (h1 : wk M a j = s) (hs : s = 16 ∨ s = 17 ∨ s = 33) (hQ : Q j M) : Ci G y_MM_until (d + 2) [vr a, vi i, vi s] M Q := by
  refine (s_until_bl (d := d) h.1 h.2.1.1 hij hb hj h1 hs).mono (fun x M1 e1 => ?_)
  obtain ⟨e1, hx⟩ := e1
  subst e1
  rw [hx]
  exact hQ
theorem Lc.io {p i e : Nat} {Q : Int → mM → Prop} (h : Lc M a g N T K) (h1 : p ≤ i) (h2 : i ≤ e) (he : e < N) (hn : ∀ m, p ≤ m → m < i → wk M a m ≠ 9) (hi : i = e ∨ wk M a i = 9) (hQ : Q i M) : Ci G y_MM_initOf (d + 2) [vr a, vi p, vi e] M Q := by
  refine (s_MM_initOf (d := d) h h1 h2 he hn hi).mono (fun x M1 e1 => ?_)
  obtain ⟨e1, hx⟩ := e1
  subst e1
  rw [hx]
  exact hQ
theorem vI.g6 {bl : Int} (v : vI M a g N T K R W C Z bl T2 M2) (h : Df M a g N T K R W C Z E tg) : mI M2 g 6 = R := by rw [v.2.2.1]; exact h.2.1.1
end VI4
end
