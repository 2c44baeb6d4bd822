/-! The reference at rest. -/
/-- the latest fault's place, the state of explore's, are values worked out; the states, their kinds and commands -/
abbrev tE9 : Type := (Int × Int × Int) × List (List Int) × xt9
/-- is there a text, how many vars, names, commands; what exploring it comes to; what was explored -/
abbrev tI9 : Type := Int × Int × Int × Int × xR9 × tE9
def e09 : tE9 := ((-1, -1, 0), [], [])
def x09 : xR9 := ((0, 0), 0, [], [])
section RX
variable {a g : Nat} {M M' M2 : mM} {P S : Nat → Prop} {i9 : tI9}
/-- a game that has been read -/
def Gd (i9 : tI9) (M : mM) (g : Nat) : Prop := ∃ (T R W C Z : Nat) (E : Eg9) (tg : Int), nd M g T ∧ (T ≤ 16384 ∧ Z ≤ 16384) ∧ (mI M g 6 = R ∧ mI M g 12 = W ∧ mI M g 18 = C ∧ mI M g 17 = tg) ∧ (ln M (g + 30) = Z ∧ ln M (g + 32) = Z ∧ ln M (g + 34) = Z) ∧ Dg M g R W C Z T E tg ∧ 0 ≤ tg ∧ (mI M g 12 = i9.2.1 ∧ mI M g 6 = i9.2.2.1 ∧ mI M g 18 = i9.2.2.2.1 ∧ GaO E.2 ∧ i9.2.2.2.2.1 = XpG E.2)
/-- the tables of the states -/
def XL (M : mM) (a : Nat) : Prop := (∀ k : Nat, (k : Int) < mI M a 29 → 0 ≤ mI M (a + 107) k ∧ 0 ≤ mI M (a + 108) k ∧ mI M (a + 107) k + mI M (a + 108) k ≤ ln M (a + 109) ∧ mny M (a + 117) k = mI M (a + 108) k) ∧ ln M (a + 111) = ln M (a + 109) ∧ ln M (a + 113) = ln M (a + 109) ∧ ∀ i : Nat, (i : Int) < ln M (a + 109) → 0 ≤ nt M (a + 111) i ∧ 0 ≤ nt M (a + 113) i ∧ nt M (a + 111) i + nt M (a + 113) i ≤ 4096
def RX (i9 : tI9) (M : mM) (a g : Nat) : Prop := (0 ≤ mI M a 29 ∧ mI M a 29 ≤ 512) ∧ Sv M (a + 117) (mI M a 29).toNat ∧ (mI M a 11 ≠ 0 → Gd i9 M g) ∧ (0 < mI M a 29 → mI M a 11 ≠ 0 ∧ XL M a) ∧ (0 ≤ mI M a 48 ∧ mI M a 48 ≤ 900 ∧ mI M a 11 = i9.1)
/-- a list's length and entries are the same -/
def sl (M M' : mM) (q : Nat) : Prop := ln M' q = ln M q ∧ ∀ j, nt M' q j = nt M q j
/-- what was explored is the same -/
def xeF (M M' : mM) (a : Nat) : Prop := (mI M' a 29 = mI M a 29 ∧ mI M' a 30 = mI M a 30 ∧ mI M' a 40 = mI M a 40) ∧ (mI M' (a + 105) = mI M (a + 105) ∧ mI M' (a + 106) = mI M (a + 106) ∧ mI M' (a + 107) = mI M (a + 107) ∧ mI M' (a + 108) = mI M (a + 108) ∧ mI M' (a + 21185) = mI M (a + 21185)) ∧ (mL M' (a + 21186) = mL M (a + 21186) ∧ mL M' (a + 21187) = mL M (a + 21187)) ∧ sl M M' (a + 109) ∧ sl M M' (a + 111) ∧ sl M M' (a + 113) ∧ sl M M' (a + 115) ∧ mI M' (a + 117) 1 = mI M (a + 117) 1 ∧ ∀ i, 22 ≤ i → i ≤ 28 → mI M' (a + 117 + i) = mI M (a + 117 + i)
theorem sl.tr {M M' M2 : mM} {q : Nat} (x : sl M M' q) (y : sl M' M2 q) : sl M M2 q := ⟨y.1.trans x.1, fun j => (y.2 j).trans (x.2 j)⟩
theorem xeF.trans {M M' M2 : mM} {a : Nat} (h : xeF M M' a) (k : xeF M' M2 a) : xeF M M2 a := by
  obtain ⟨⟨a1, a2, a3⟩, ⟨b1, b2, b3, b4, b5⟩, ⟨c1, c2⟩, d1, d2, d3, d4, d5, d6⟩ := h
  obtain ⟨⟨x1, x2, x3⟩, ⟨y1, y2, y3, y4, y5⟩, ⟨z1, z2⟩, u1, u2, u3, u4, u5, u6⟩ := k
  exact ⟨⟨x1.trans a1, x2.trans a2, x3.trans a3⟩, ⟨y1.trans b1, y2.trans b2, y3.trans b3, y4.trans b4, y5.trans b5⟩, ⟨z1.trans c1, z2.trans c2⟩, d1.tr u1, d2.tr u2, d3.tr u3, d4.tr u4, u5.trans d5, fun i p q => (u6 i p q).trans (d6 i p q)⟩
/-- what the game, the states and the solver hold is the same -/
def RA (M M' : mM) (a g : Nat) : Prop := (mI M' a 11 = mI M a 11 ∧ mI M' a 29 = mI M a 29 ∧ mI M' a 48 = mI M a 48) ∧ Ag M M' (a + 117) (a + 117 + 21067) ∧ (sl M M' (a + 109) ∧ sl M M' (a + 111) ∧ sl M M' (a + 113)) ∧ (mI M' (a + 107) = mI M (a + 107) ∧ mI M' (a + 108) = mI M (a + 108)) ∧ (∀ q, gL9 g q → sl M M' q) ∧ mI M' g = mI M g ∧ (∀ i, 13 ≤ i → i ≤ 29 → mI M' (g + i) = mI M (g + i) ∧ mL M' (g + i) = mL M (g + i)) ∧ xeF M M' a
theorem Gd.ra (h : Gd i9 M g) (hl : ∀ q, gL9 g q → sl M M' q) (hI : mI M' g = mI M g) (hc : ∀ i, 13 ≤ i → i ≤ 29 → mI M' (g + i) = mI M (g + i) ∧ mL M' (g + i) = mL M (g + i)) : Gd i9 M' g := by
  obtain ⟨T, R, W, C, Z, E, tg, h1, h2, h3, h4, h5, h6⟩ := h
  have G : Ge M g R W C Z T M' := ⟨⟨fun n _ => ⟨(hl (g + 1) (by first | exact tLk1 g | exact gLk1 g | omega)).2 n, (hl (g + 7) (by first | exact tLk7 g | exact gLk7 g | omega)).2 n, (hl (g + 9) (by first | exact tLk9 g | exact gLk9 g | omega)).2 n, (hl (g + 11) (by first | exact tLk11 g | exact gLk11 g | omega)).2 n, (hl (g + 3) (by first | exact tLk3 g | exact gLk3 g | omega)).2 n⟩, fun r _ => ⟨by rw [(hc 13 (by omega) (by omega)).1], by rw [(hc 14 (by omega) (by omega)).1]⟩, fun v _ => by rw [(hc 18 (by omega) (by omega)).1]⟩, fun r _ => ⟨by rw [(hc 15 (by omega) (by omega)).1], by rw [(hc 16 (by omega) (by omega)).2], by rw [(hc 17 (by omega) (by omega)).2]⟩, fun v _ => ⟨by rw [(hc 19 (by omega) (by omega)).1], by rw [(hc 20 (by omega) (by omega)).1], by rw [(hc 21 (by omega) (by omega)).1]⟩, fun c _ => ⟨by rw [(hc 24 (by omega) (by omega)).1], by rw [(hc 25 (by omega) (by omega)).1], fun b _ => ⟨by rw [(hc 26 (by omega) (by omega)).1], by rw [(hc 28 (by omega) (by omega)).1], by rw [(hc 29 (by omega) (by omega)).1], by rw [(hc 27 (by omega) (by omega)).1], by rw [(hc 22 (by omega) (by omega)).1], by rw [(hc 23 (by omega) (by omega)).1]⟩⟩, fun i _ => ⟨(hl (g + 30) (by first | exact gLk30 g | omega)).2 i, (hl (g + 34) (by first | exact gLk34 g | omega)).2 i, (hl (g + 32) (by first | exact gLk32 g | omega)).2 i⟩⟩
  refine ⟨T, R, W, C, Z, E, tg, fun q hq => ?_, h2, by rw [hI]; exact h3, ⟨by rw [(hl (g + 30) (by first | exact gLk30 g | omega)).1]; exact h4.1, by rw [(hl (g + 32) (by first | exact gLk32 g | omega)).1]; exact h4.2.1, by rw [(hl (g + 34) (by first | exact gLk34 g | omega)).1]; exact h4.2.2⟩, h5.ge G, h6.1, by rw [hI]; exact h6.2⟩
  have hq' : q = g + 1 ∨ q = g + 3 ∨ q = g + 5 ∨ q = g + 7 ∨ q = g + 9 ∨ q = g + 11 := hq
  rw [(hl q (by omega)).1]
  exact h1 q hq
theorem RX.ra (h : RX i9 M a g) (k : RA M M' a g) : RX i9 M' a g := by
  obtain ⟨h1, h2, h3, h4, h5⟩ := h
  obtain ⟨⟨k1, k2, k3⟩, k4, ⟨k5, k6, k7⟩, ⟨k8, k9⟩, k10, k11, k12, -⟩ := k
  unfold RX
  rw [k1, k2, k3]
  refine ⟨h1, h2.ag k4, fun q => (h3 q).ra k10 k11 k12, fun q => ⟨(h4 q).1, ?_⟩, h5⟩
  obtain ⟨x1, x2, x3, x4⟩ := (h4 q).2
  have e23 := (k4 (a + 117 + 23) (by omega) (by omega)).2.2.2
  unfold XL mny
  rw [k2, k5.1, k6.1, k7.1, k8, k9, e23]
  refine ⟨x1, x2, x3, fun i hi => ?_⟩
  rw [k6.2, k7.2]
  exact x4 i hi
theorem sameN.sl {q : Nat} (h : sameN M M' q) : sl M M' q := ⟨h.1, h.2.1⟩
theorem ra_mv (w : Wd M a) (hg : g = a + 13 ∨ g = a + 49) (m : Mv P S M a M') (hin : ∀ q, P q → q ∈ nums a) (hP : ∀ q, P q → ¬ gL9 g q ∧ q ≠ a + 109 ∧ q ≠ a + 111 ∧ q ≠ a + 113 ∧ q ≠ a + 115) (hS : ∀ x, S x → ¬ (x = g ∨ (g + 13 ≤ x ∧ x ≤ g + 29) ∨ (a + 105 ≤ x ∧ x ≤ a + 108) ∨ (a + 117 ≤ x ∧ x ≤ a + 21187))) (hf : mI M' a 11 = mI M a 11 ∧ mI M' a 29 = mI M a 29 ∧ mI M' a 48 = mI M a 48 ∧ mI M' a 30 = mI M a 30 ∧ mI M' a 40 = mI M a 40) : RA M M' a g := by
  have hz := w.2.2.2
  have k109 : a + 109 ∈ nums a := nums_o (by decide)
  have k111 : a + 111 ∈ nums a := nums_o (by decide)
  have k113 : a + 113 ∈ nums a := nums_o (by decide)
  have k115 : a + 115 ∈ nums a := nums_o (by decide)
  have fre : ∀ i, 13 ≤ i → i ≤ 29 → g + i < a + 21192 ∧ g + i ∉ nums a ∧ (∀ q, q ∈ nums a → g + i ≠ q + 1) := fun i i1 i2 => by
    have : i = 13 ∨ i = 14 ∨ i = 15 ∨ i = 16 ∨ i = 17 ∨ i = 18 ∨ i = 19 ∨ i = 20 ∨ i = 21 ∨ i = 22 ∨ i = 23 ∨ i = 24 ∨ i = 25 ∨ i = 26 ∨ i = 27 ∨ i = 28 ∨ i = 29 := by omega
    rcases this with y | y | y | y | y | y | y | y | y | y | y | y | y | y | y | y | y <;> subst y <;> exact goffx hg (by decide) (by decide)
  have c7 := (m.cellL w hin (offx (a := a) (o := 107) (by decide)) (fun z => hS _ z (by omega))).1
  have c8 := (m.cellL w hin (offx (a := a) (o := 108) (by decide)) (fun z => hS _ z (by omega))).1
  have ag : Ag M M' (a + 117) (a + 117 + 21067) := fun x x1 x2 => by
    have np : ¬ P x := fun z => by have := nums_in (hin x z); omega
    have f := m.2.2.2.1
    refine ⟨(f.2.1 x (by omega)).1, (f.2.1 x (by omega)).2, f.2.2.1 x (by omega) np, (f.2.2.2.1 x (by omega) np (fun q hq z => ?_) (fun z => hS _ z (by omega))).1⟩
    rcases (w.arr (hin q hq)).2 with y | y
    · have := nums_in (hin q hq); omega
    · omega
  have xe : xeF M M' a := ⟨⟨hf.2.1, hf.2.2.2.1, hf.2.2.2.2⟩, ⟨(m.cellL w hin (offx (a := a) (o := 105) (by decide)) (fun z => hS _ z (by omega))).1, (m.cellL w hin (offx (a := a) (o := 106) (by decide)) (fun z => hS _ z (by omega))).1, c7, c8, (m.cellL w hin (offx (a := a) (o := 21185) (by decide)) (fun z => hS _ z (by omega))).1⟩, ⟨(m.cellL w hin (offx (a := a) (o := 21186) (by decide)) (fun z => hS _ z (by omega))).2, (m.cellL w hin (offx (a := a) (o := 21187) (by decide)) (fun z => hS _ z (by omega))).2⟩, (m.lst k109 (fun z => (hP _ z).2.1 rfl)).sl, (m.lst k111 (fun z => (hP _ z).2.2.1 rfl)).sl, (m.lst k113 (fun z => (hP _ z).2.2.2.1 rfl)).sl, (m.lst k115 (fun z => (hP _ z).2.2.2.2 rfl)).sl, by rw [(ag (a + 117) (by omega) (by omega)).2.2.2], fun i p q => (ag (a + 117 + i) (by omega) (by omega)).2.2.2⟩
  exact ⟨⟨hf.1, hf.2.1, hf.2.2.1⟩, ag, ⟨(m.lst k109 (fun z => (hP _ z).2.1 rfl)).sl, (m.lst k111 (fun z => (hP _ z).2.2.1 rfl)).sl, (m.lst k113 (fun z => (hP _ z).2.2.2.1 rfl)).sl⟩, ⟨(m.cellL w hin (offx (a := a) (o := 107) (by decide)) (fun z => hS _ z (by omega))).1, (m.cellL w hin (offx (a := a) (o := 108) (by decide)) (fun z => hS _ z (by omega))).1⟩, fun q hq => (m.lst (gL9_in hg hq) (fun z => (hP _ z).1 hq)).sl, m.gI w hg hin (fun z => hS _ z (by omega)), fun i i1 i2 => m.cellL w hin (fre i i1 i2) (fun z => hS _ z (by omega)), xe⟩
/-- only references of a itself differ -/
def ur (M M' : mM) (a : Nat) : Prop := mK M' = mK M ∧ mN M' = mN M ∧ mI M' = mI M ∧ mL M' = mL M ∧ mZ M' = mZ M ∧ mS M' = mS M ∧ ∀ b, b ≠ a → mR M' b = mR M b
theorem ur.one {j x : Nat} (e : M' = mUR M a j x) : ur M M' a := by
  subst e
  refine ⟨rfl, rfl, rfl, rfl, rfl, rfl, fun b hb => ?_⟩
  funext k
  rw [mR_UR, if_neg (fun z => hb z.1)]
theorem ur.trans (h : ur M M' a) (k : ur M' M2 a) : ur M M2 a := by
  obtain ⟨h1, h2, h3, h4, h5, h6, h7⟩ := h
  obtain ⟨k1, k2, k3, k4, k5, k6, k7⟩ := k
  exact ⟨k1.trans h1, k2.trans h2, k3.trans h3, k4.trans h4, k5.trans h5, k6.trans h6, fun b hb => (k7 b hb).trans (h7 b hb)⟩
theorem ur.sl {q : Nat} (h : ur M M' a) (hq : q ∈ nums a) : sameN M M' q := by
  obtain ⟨h1, h2, h3, h4, h5, h6, h7⟩ := h
  have r := h7 q (by have := nums_in hq; omega)
  refine ⟨by unfold ln; rw [h3], fun j => by unfold nt; rw [h3, r], by unfold cp; rw [h2, r], r⟩
theorem ra_ur (hg : g = a + 13 ∨ g = a + 49) (h : ur M M' a) : RA M M' a g := by
  obtain ⟨h1, h2, h3, h4, h5, h6, h7⟩ := id h
  exact ⟨by rw [h3]; exact ⟨rfl, rfl, rfl⟩, fun x x1 x2 => ⟨by rw [h1], by rw [h2], h7 x (by omega), by rw [h3]⟩, ⟨(h.sl (nums_o (by decide))).sl, (h.sl (nums_o (by decide))).sl, (h.sl (nums_o (by decide))).sl⟩, by rw [h3]; exact ⟨rfl, rfl⟩, fun q hq => (h.sl (gL9_in hg hq)).sl, by rw [h3], fun i _ _ => by rw [h3, h4]; exact ⟨rfl, rfl⟩, ⟨by rw [h3]; exact ⟨rfl, rfl, rfl⟩, by rw [h3]; exact ⟨rfl, rfl, rfl, rfl, rfl⟩, by rw [h4]; exact ⟨rfl, rfl⟩, (h.sl (nums_o (by decide))).sl, (h.sl (nums_o (by decide))).sl, (h.sl (nums_o (by decide))).sl, (h.sl (nums_o (by decide))).sl, by rw [h3], fun i _ _ => by rw [h3]⟩⟩
theorem RA.trans (h : RA M M' a g) (k : RA M' M2 a g) : RA M M2 a g := by
  obtain ⟨⟨h1, h2, h3⟩, h4, ⟨h5, h6, h7⟩, ⟨h8, h9⟩, h10, h11, h12, h13⟩ := h
  obtain ⟨⟨k1, k2, k3⟩, k4, ⟨k5, k6, k7⟩, ⟨k8, k9⟩, k10, k11, k12, k13⟩ := k
  have st : ∀ {q}, sl M M' q → sl M' M2 q → sl M M2 q := fun x y => ⟨y.1.trans x.1, fun j => (y.2 j).trans (x.2 j)⟩
  exact ⟨⟨k1.trans h1, k2.trans h2, k3.trans h3⟩, fun x x1 x2 => ⟨(k4 x x1 x2).1.trans (h4 x x1 x2).1, (k4 x x1 x2).2.1.trans (h4 x x1 x2).2.1, (k4 x x1 x2).2.2.1.trans (h4 x x1 x2).2.2.1, (k4 x x1 x2).2.2.2.trans (h4 x x1 x2).2.2.2⟩, ⟨st h5 k5, st h6 k6, st h7 k7⟩, ⟨k8.trans h8, k9.trans h9⟩, fun q hq => st (h10 q hq) (k10 q hq), k11.trans h11, fun i i1 i2 => ⟨(k12 i i1 i2).1.trans (h12 i i1 i2).1, (k12 i i1 i2).2.trans (h12 i i1 i2).2⟩, h13.trans k13⟩
theorem Wd.ur (w : Wd M a) (h : ur M M' a) (hr : ∀ i, i ≠ 1 → i ≠ 2 → i ≠ 9 → i ≠ 10 → mR M' a i = mR M a i) (h12 : (mR M' a 1 = a + 1 ∧ mR M' a 2 = a + 3) ∨ (mR M' a 1 = a + 3 ∧ mR M' a 2 = a + 1)) (h90 : (mR M' a 9 = a + 13 ∧ mR M' a 10 = a + 49) ∨ (mR M' a 9 = a + 49 ∧ mR M' a 10 = a + 13)) : Wd M' a := by
  have ne : ∀ p, p ∈ nums a → p ≠ a := fun p hp => by have := nums_in hp; omega
  have n13 : a + 13 ≠ a := by omega
  have n49 : a + 49 ≠ a := by omega
  obtain ⟨h1, h2, h3, h4, h5, h6, h7⟩ := h
  obtain ⟨⟨p1, p2, p3, p4, p5, p6, p7, p8, p9, p10, p11, p12⟩, w2, w3, w4⟩ := w
  have gpu : ∀ g', g' ≠ a → Gp M g' → Gp M' g' := fun g' hne hp => by
    unfold Gp at hp ⊢
    rw [h1, h2, h7 g' hne]
    exact hp
  refine ⟨⟨by rw [h1]; exact p1, h12, ?_, h90, ?_, ?_, ?_, by rw [h1, h2]; exact p8, by rw [h1, h2]; exact p9, by rw [h1, h2]; exact p10, gpu _ n13 p11, gpu _ n49 p12⟩, fun p hp => ?_, fun p q hp hq hne => ?_, by rw [h5]; exact w4⟩
  · rw [hr 3 (by decide) (by decide) (by decide) (by decide), hr 4 (by decide) (by decide) (by decide) (by decide), hr 5 (by decide) (by decide) (by decide) (by decide), hr 6 (by decide) (by decide) (by decide) (by decide)]
    exact p3
  · rw [hr 13 (by decide) (by decide) (by decide) (by decide), hr 14 (by decide) (by decide) (by decide) (by decide), hr 15 (by decide) (by decide) (by decide) (by decide), hr 18 (by decide) (by decide) (by decide) (by decide), hr 19 (by decide) (by decide) (by decide) (by decide), hr 20 (by decide) (by decide) (by decide) (by decide), hr 21 (by decide) (by decide) (by decide) (by decide), hr 22 (by decide) (by decide) (by decide) (by decide), hr 24 (by decide) (by decide) (by decide) (by decide), hr 25 (by decide) (by decide) (by decide) (by decide), hr 26 (by decide) (by decide) (by decide) (by decide), hr 27 (by decide) (by decide) (by decide) (by decide), hr 28 (by decide) (by decide) (by decide) (by decide)]
    exact p5
  · rw [hr 31 (by decide) (by decide) (by decide) (by decide), hr 32 (by decide) (by decide) (by decide) (by decide), hr 33 (by decide) (by decide) (by decide) (by decide), hr 34 (by decide) (by decide) (by decide) (by decide), hr 35 (by decide) (by decide) (by decide) (by decide), hr 36 (by decide) (by decide) (by decide) (by decide), hr 37 (by decide) (by decide) (by decide) (by decide), hr 38 (by decide) (by decide) (by decide) (by decide), hr 39 (by decide) (by decide) (by decide) (by decide)]
    exact p6
  · rw [hr 41 (by decide) (by decide) (by decide) (by decide), hr 42 (by decide) (by decide) (by decide) (by decide), hr 43 (by decide) (by decide) (by decide) (by decide), hr 44 (by decide) (by decide) (by decide) (by decide), hr 45 (by decide) (by decide) (by decide) (by decide), hr 46 (by decide) (by decide) (by decide) (by decide), hr 47 (by decide) (by decide) (by decide) (by decide)]
    exact p7
  · have r := h7 p (ne p hp)
    have q := w2 p hp
    unfold Nu cp at q ⊢
    rw [h1, h2, h3, h5, r]
    exact q
  · rw [h7 p (ne p hp), h7 q (ne q hq)]
    exact w3 p q hp hq hne
end RX
