/-! The reference: steps of the draft. -/
section FR
variable {a g R W C Z T N K : Nat} {M M' M2 M3 : mM} {P S : Nat → Prop}
theorem Gn.trans (h : Gn M g R W T M2) (k : Gn M2 g R W T M3) : Gn M g R W T M3 :=
  ⟨fun n hn => ⟨(k.1 n hn).1.trans (h.1 n hn).1, (k.1 n hn).2.1.trans (h.1 n hn).2.1, (k.1 n hn).2.2.1.trans (h.1 n hn).2.2.1, (k.1 n hn).2.2.2.1.trans (h.1 n hn).2.2.2.1, (k.1 n hn).2.2.2.2.trans (h.1 n hn).2.2.2.2⟩, fun r hr => ⟨(k.2.1 r hr).1.trans (h.2.1 r hr).1, (k.2.1 r hr).2.trans (h.2.1 r hr).2⟩, fun v hv => (k.2.2 v hv).trans (h.2.2 v hv)⟩
theorem Ge.trans (h : Ge M g R W C Z T M2) (k : Ge M2 g R W C Z T M3) : Ge M g R W C Z T M3 := by
  obtain ⟨h0, h1, h2, h3, h4⟩ := h
  obtain ⟨k0, k1, k2, k3, k4⟩ := k
  refine ⟨h0.trans k0, fun r hr => ⟨(k1 r hr).1.trans (h1 r hr).1, (k1 r hr).2.1.trans (h1 r hr).2.1, (k1 r hr).2.2.trans (h1 r hr).2.2⟩, fun v hv => ⟨(k2 v hv).1.trans (h2 v hv).1, (k2 v hv).2.1.trans (h2 v hv).2.1, (k2 v hv).2.2.trans (h2 v hv).2.2⟩, fun c hc => ⟨(k3 c hc).1.trans (h3 c hc).1, (k3 c hc).2.1.trans (h3 c hc).2.1, fun b hb => ⟨((k3 c hc).2.2 b hb).1.trans ((h3 c hc).2.2 b hb).1, ((k3 c hc).2.2 b hb).2.1.trans ((h3 c hc).2.2 b hb).2.1, ((k3 c hc).2.2 b hb).2.2.1.trans ((h3 c hc).2.2 b hb).2.2.1, ((k3 c hc).2.2 b hb).2.2.2.1.trans ((h3 c hc).2.2 b hb).2.2.2.1, ((k3 c hc).2.2 b hb).2.2.2.2.1.trans ((h3 c hc).2.2 b hb).2.2.2.2.1, ((k3 c hc).2.2 b hb).2.2.2.2.2.trans ((h3 c hc).2.2 b hb).2.2.2.2.2⟩⟩, fun i hi => ⟨(k4 i hi).1.trans (h4 i hi).1, (k4 i hi).2.1.trans (h4 i hi).2.1, (k4 i hi).2.2.trans (h4 i hi).2.2⟩⟩
theorem Ge.refl : Ge M g R W C Z T M := ⟨⟨fun _ _ => ⟨rfl, rfl, rfl, rfl, rfl⟩, fun _ _ => ⟨rfl, rfl⟩, fun _ _ => rfl⟩, fun _ _ => ⟨rfl, rfl, rfl⟩, fun _ _ => ⟨rfl, rfl, rfl⟩, fun _ _ => ⟨rfl, rfl, fun _ _ => ⟨rfl, rfl, rfl, rfl, rfl, rfl⟩⟩, fun _ _ => ⟨rfl, rfl, rfl⟩⟩
theorem Ge.down {R' W' C' Z' T' : Nat} (h : Ge M g R' W' C' Z' T' M2) (hR : R ≤ R') (hW : W ≤ W') (hC : C ≤ C') (hZ : Z ≤ Z') (hT : T ≤ T') : Ge M g R W C Z T M2 :=
  ⟨⟨fun n hn => h.1.1 n (by omega), fun r hr => h.1.2.1 r (by omega), fun v hv => h.1.2.2 v (by omega)⟩, fun r hr => h.2.1 r (by omega), fun v hv => h.2.2.1 v (by omega), fun c hc => h.2.2.2.1 c (by omega), fun i hi => h.2.2.2.2 i (by omega)⟩
theorem n30 (hg : g = a + 13 ∨ g = a + 49) : g + 30 ∈ nums a := by
  rcases hg with z | z <;> rw [z, Nat.add_assoc] <;> exact nums_o (by decide)
theorem n32 (hg : g = a + 13 ∨ g = a + 49) : g + 32 ∈ nums a := by
  rcases hg with z | z <;> rw [z, Nat.add_assoc] <;> exact nums_o (by decide)
theorem n34 (hg : g = a + 13 ∨ g = a + 49) : g + 34 ∈ nums a := by
  rcases hg with z | z <;> rw [z, Nat.add_assoc] <;> exact nums_o (by decide)
/-- a step that leaves the game's cells and set lists -/
theorem ge_mv (w : Wd M a) (hg : g = a + 13 ∨ g = a + 49) (m : Mv P S M a M') (hin : ∀ q, P q → q ∈ nums a) (h30 : ¬ P (g + 30)) (h34 : ¬ P (g + 34)) (h32 : ¬ P (g + 32)) (hS : ∀ i, 13 ≤ i → i ≤ 29 → ¬ S (g + i)) (hn : ∀ n, n < T → so M' g n = so M g n ∧ va M' g n = va M g n ∧ fp M' g n = fp M g n ∧ np M' g n = np M g n ∧ pm M' g n = pm M g n) : Ge M g R W C Z T M' := by
  have c13 := m.cellL w hin (goffx (i := 13) hg (by decide) (by decide)) (hS 13 (by omega) (by omega))
  have c14 := m.cellL w hin (goffx (i := 14) hg (by decide) (by decide)) (hS 14 (by omega) (by omega))
  have c15 := m.cellL w hin (goffx (i := 15) hg (by decide) (by decide)) (hS 15 (by omega) (by omega))
  have c16 := m.cellL w hin (goffx (i := 16) hg (by decide) (by decide)) (hS 16 (by omega) (by omega))
  have c17 := m.cellL w hin (goffx (i := 17) hg (by decide) (by decide)) (hS 17 (by omega) (by omega))
  have c18 := m.cellL w hin (goffx (i := 18) hg (by decide) (by decide)) (hS 18 (by omega) (by omega))
  have c19 := m.cellL w hin (goffx (i := 19) hg (by decide) (by decide)) (hS 19 (by omega) (by omega))
  have c20 := m.cellL w hin (goffx (i := 20) hg (by decide) (by decide)) (hS 20 (by omega) (by omega))
  have c21 := m.cellL w hin (goffx (i := 21) hg (by decide) (by decide)) (hS 21 (by omega) (by omega))
  have c24 := m.cellL w hin (goffx (i := 24) hg (by decide) (by decide)) (hS 24 (by omega) (by omega))
  have c25 := m.cellL w hin (goffx (i := 25) hg (by decide) (by decide)) (hS 25 (by omega) (by omega))
  have c26 := m.cellL w hin (goffx (i := 26) hg (by decide) (by decide)) (hS 26 (by omega) (by omega))
  have c28 := m.cellL w hin (goffx (i := 28) hg (by decide) (by decide)) (hS 28 (by omega) (by omega))
  have c29 := m.cellL w hin (goffx (i := 29) hg (by decide) (by decide)) (hS 29 (by omega) (by omega))
  have c22 := m.cellL w hin (goffx (i := 22) hg (by decide) (by decide)) (hS 22 (by omega) (by omega))
  have c23 := m.cellL w hin (goffx (i := 23) hg (by decide) (by decide)) (hS 23 (by omega) (by omega))
  have c27 := m.cellL w hin (goffx (i := 27) hg (by decide) (by decide)) (hS 27 (by omega) (by omega))
  have s32 := m.lst (n32 hg) h32
  have s30 := m.lst (n30 hg) h30
  have s34 := m.lst (n34 hg) h34
  exact ⟨⟨hn, fun r _ => ⟨by rw [c13.1], by rw [c14.1]⟩, fun v _ => by rw [c18.1]⟩, fun r _ => ⟨by rw [c15.1], by rw [c16.2], by rw [c17.2]⟩, fun v _ => ⟨by rw [c19.1], by rw [c20.1], by rw [c21.1]⟩, fun c _ => ⟨by rw [c24.1], by rw [c25.1], fun b _ => ⟨by rw [c26.1], by rw [c28.1], by rw [c29.1], by rw [c27.1], by rw [c22.1], by rw [c23.1]⟩⟩, fun i _ => ⟨s30.2.1 i, s34.2.1 i, s32.2.1 i⟩⟩
/-- an int of a cell that belongs to no list -/
theorem mv_cell {x j : Nat} {v : Int} (hv : i32 v) (hO : mOk M) (w : Wd M a) (h0 : a ≤ x) (hx : x < a + 21192 ∧ x ∉ nums a ∧ (∀ q, q ∈ nums a → x ≠ q + 1)) (e : M' = mUI M x j v) : Mv (fun _ => False) (fun y => y = x) M a M' ∧ (∀ y k, mI M' y k = if y = x ∧ k = j then v else mI M y k) ∧ mL M' = mL M := by
  have f : FI (fun y => y = x) M M' := by rw [e]; exact FI.ui rfl
  refine ⟨mv_fi (by rw [e]; exact mOk_UI hO hv) w f (fun y z => by rw [z]; exact ⟨h0, by omega, hx.2.1, hx.2.2⟩), fun y k => by rw [e, mI_UI], f.2.2.2.1⟩
/-- a store beyond what is known -/
theorem ge_st {i j : Nat} {v : Int} (hg : g = a + 13 ∨ g = a + 49) (m : Mv (fun _ => False) (fun y => y = g + i) M a M') (f : ∀ y k, mI M' y k = if y = g + i ∧ k = j then v else mI M y k) (hl : mL M' = mL M) (h0 : i ≤ 15 → R ≤ j) (h1 : 18 ≤ i → i ≤ 21 → W ≤ j) (h2 : 22 ≤ i → i ≤ 25 → C ≤ j) (h3 : 26 ≤ i → 8 * C ≤ j) : Ge M g R W C Z T M' := by
  have no : ∀ q : Nat, ¬ False := fun _ z => z
  have s : ∀ {q}, q ∈ nums a → sameN M M' q := fun hq => m.lst hq (fun z => z)
  refine ⟨⟨fun n _ => ⟨(s (tL_in (q := g + 1) hg (tLk1 g))).2.1 n, (s (tL_in (q := g + 7) hg (tLk7 g))).2.1 n, (s (tL_in (q := g + 9) hg (tLk9 g))).2.1 n, (s (tL_in (q := g + 11) hg (tLk11 g))).2.1 n, (s (tL_in (q := g + 3) hg (tLk3 g))).2.1 n⟩, fun r hr => ⟨?_, ?_⟩, fun v hv => ?_⟩, fun r hr => ⟨?_, by rw [hl], by rw [hl]⟩, fun v hv => ⟨?_, ?_, ?_⟩, fun c hc => ⟨?_, ?_, fun b hb => ⟨?_, ?_, ?_, ?_, ?_, ?_⟩⟩, fun i _ => ⟨(s (n30 hg)).2.1 i, (s (n34 hg)).2.1 i, (s (n32 hg)).2.1 i⟩⟩
  all_goals rw [f, if_neg (fun z => by omega)]
/-- a long beyond what is known -/
theorem ge_sl {i j : Nat} {v : Int} (hg : g = a + 13 ∨ g = a + 49) (m : Mv (fun _ => False) (fun y => y = g + i) M a M') (f : ∀ y k, mL M' y k = if y = g + i ∧ k = j then v else mL M y k) (hl : mI M' = mI M) (h0 : R ≤ j) : Ge M g R W C Z T M' := by
  have s : ∀ {q}, q ∈ nums a → sameN M M' q := fun hq => m.lst hq (fun z => z)
  refine ⟨⟨fun n _ => ⟨(s (tL_in (q := g + 1) hg (tLk1 g))).2.1 n, (s (tL_in (q := g + 7) hg (tLk7 g))).2.1 n, (s (tL_in (q := g + 9) hg (tLk9 g))).2.1 n, (s (tL_in (q := g + 11) hg (tLk11 g))).2.1 n, (s (tL_in (q := g + 3) hg (tLk3 g))).2.1 n⟩, fun r hr => by rw [hl]; exact ⟨rfl, rfl⟩, fun v hv => by rw [hl]⟩, fun r hr => ⟨by rw [hl], ?_, ?_⟩, fun v hv => by rw [hl]; exact ⟨rfl, rfl, rfl⟩, fun c hc => by rw [hl]; exact ⟨rfl, rfl, fun _ _ => ⟨rfl, rfl, rfl, rfl, rfl, rfl⟩⟩, fun i _ => ⟨(s (n30 hg)).2.1 i, (s (n34 hg)).2.1 i, (s (n32 hg)).2.1 i⟩⟩
  all_goals rw [f, if_neg (fun z => by omega)]
/-- the draft's words, names and nodes after such a step -/
theorem Lc.mv (h : Lc M a g N T K) (m : Mv P S M a M') (hin : ∀ q, P q → q ∈ nums a) (hP : ∀ q, P q → ¬ (q = a + 1 ∨ q = a + 3 ∨ q = a + 5 ∨ q = a + 7 ∨ q = a + 9 ∨ q = a + 85 ∨ q = a + 87 ∨ q = a + 89 ∨ q = g + 1 ∨ q = g + 3 ∨ q = g + 5 ∨ q = g + 7 ∨ q = g + 9 ∨ q = g + 11)) (h6 : mI M g 6 ≤ mI M' g 6) (h12 : mI M g 12 ≤ mI M' g 12) (hb : mI M' g 6 ≤ 60 ∧ mI M' g 12 ≤ 12) (h13 : ∀ r : Nat, (r : Int) < mI M g 6 → mI M' (g + 13) r = mI M (g + 13) r) : Lc M' a g N T K := by
  obtain ⟨hO, hx, hnm, hd, h10, hg, hB, hT⟩ := h
  have w := hx.1.1
  have t2 : ¬ P (mR M a 2) := fun z => by
    have := hP _ z
    rcases w.1.2.1 with y | y <;> rw [y.2] at this <;> omega
  have k85 := m.lst (n85 (a := a)) (fun z => hP _ z (by omega))
  have k87 := m.lst (n87 (a := a)) (fun z => hP _ z (by omega))
  have k89 := m.lst (n89 (a := a)) (fun z => hP _ z (by omega))
  refine ⟨m.1, hx.mv m hin (fun z => hP _ z (by omega)) (fun z => hP _ z (by omega)) (fun z => hP _ z (by omega)) t2, ?_, fun q hq => ?_, by rw [m.rfl_a w hin]; exact h10, hg, ⟨by omega, hb.1, by omega, hb.2⟩, hT⟩
  · obtain ⟨n1, n2, n3, n4, n5'⟩ := hnm
    refine ⟨by rw [k85.1]; exact n1, by rw [k87.1]; exact n2, by rw [k89.1]; exact n3, n4, fun k hk => ?_⟩
    rw [k85.2.1, k87.2.1, k89.2.1]
    obtain ⟨p1, p2, p3⟩ := n5' k hk
    refine ⟨p1, by omega, fun z => ?_⟩
    rw [h13 _ (by omega)]
    exact p3 z
  · have hq' : q = g + 1 ∨ q = g + 3 ∨ q = g + 5 ∨ q = g + 7 ∨ q = g + 9 ∨ q = g + 11 := hq
    rw [(m.lst (tL_in hg hq) (fun z => hP _ z (by omega))).1]
    exact hd q hq
/-- what reading items may change -/
abbrev itP (a g : Nat) : Nat → Prop := fun q => q ∈ nums a ∧ ((g + 1 ≤ q ∧ q ≤ g + 34) ∨ (a + 85 ≤ q ∧ q ≤ a + 99))
abbrev itS (a g : Nat) : Nat → Prop := fun x => x = a ∨ (g ≤ x ∧ x ≤ g + 29) ∨ (a + 97 ≤ x ∧ x ≤ a + 104)
def iF (M : mM) (a g : Nat) (M' : mM) : Prop := Mv (itP a g) (itS a g) M a M' ∧ ∀ i, i ≠ 16 → i ≠ 17 → i ≠ 23 → mI M' a i = mI M a i
theorem itP_lt (w : Wd M a) : ∀ q, itP a g q → q < mZ M := fun q hq => w.lt hq.1
theorem iF.refl (hO : mOk M) (w : Wd M a) : iF M a g M := ⟨Mv.refl hO w (itP_lt w), fun _ _ _ _ => rfl⟩
theorem iF.trans (h : iF M a g M2) (k : iF M2 a g M3) : iF M a g M3 := ⟨h.1.trans k.1, fun i i1 i2 i3 => (k.2 i i1 i2 i3).trans (h.2 i i1 i2 i3)⟩
theorem iF.mk (w : Wd M a) (m : Mv P S M a M') (hP : ∀ q, P q → itP a g q) (hS : ∀ x, S x → itS a g x) (hf : ∀ i, i ≠ 16 → i ≠ 17 → i ≠ 23 → mI M' a i = mI M a i) : iF M a g M' := ⟨m.mono hP hS (itP_lt w), hf⟩
theorem EO.it {F : Prop} {R W T : Nat} (w : Wd M a) (h : EO F M a g R W T M') : iF M a g M' := by
  refine iF.mk w h.1 (fun q hq => ⟨by rw [hq]; exact n99, by omega⟩) (fun x hx => ?_) h.2.2
  have : x = a ∨ x = a + 97 ∨ x = a + 98 ∨ x = a + 102 ∨ x = a + 103 ∨ x = a + 104 := hx
  show x = a ∨ (g ≤ x ∧ x ≤ g + 29) ∨ (a + 97 ≤ x ∧ x ≤ a + 104)
  omega
end FR
