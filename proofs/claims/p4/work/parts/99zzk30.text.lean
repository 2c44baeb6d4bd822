/-! The class's reader of texts: places, tables, frames. -/
section TRA
variable {G : mG} {d z q w T A B D N C n p O P K Ab Be Cm V F c s L L' cnt Bn a : Nat} {M0 M M' M1 M2 : mM} {ns ns' : Nat → Int} {sf ef sf' ef' : Nat → Nat} {H : Nat → Nat} {S R : Nat → Prop}
theorem CO.wide {V' F' : Nat} {pd : Nat → Prop} {e : Nat} (h : CO M O P V F ns H s e pd) (hV : V ≤ V') (hF : F ≤ F') (hn : ∀ x, x < F → ns' x = ns x) : CO M O P V' F' ns' H s e pd := fun pc h0 h1 => by
  obtain ⟨a1, a2, a3⟩ := h pc h0 h1
  refine ⟨?_, a2, a3⟩
  clear a2 h
  unfold stO at a1 ⊢
  rcases a1 with u | u | u | u | u | u | u | u
  · exact Or.inl u
  · obtain ⟨u1, u2, u3, u4, u5⟩ := u
    exact Or.inr (Or.inl ⟨u1, u2, by omega, by rw [hn _ (by omega)]; exact u4, u5⟩)
  · obtain ⟨u1, u2, u3, u4⟩ := u
    exact Or.inr (Or.inr (Or.inl ⟨u1, u2, by omega, u4⟩))
  · exact Or.inr (Or.inr (Or.inr (Or.inl u)))
  · exact Or.inr (Or.inr (Or.inr (Or.inr (Or.inl u))))
  · exact Or.inr (Or.inr (Or.inr (Or.inr (Or.inr (Or.inl u)))))
  · exact Or.inr (Or.inr (Or.inr (Or.inr (Or.inr (Or.inr (Or.inl u))))))
  · obtain ⟨u1, u2, u3, u4, u5⟩ := u
    exact Or.inr (Or.inr (Or.inr (Or.inr (Or.inr (Or.inr (Or.inr ⟨u1, u2, u3, by omega, u5⟩))))))
theorem Cod.wide {V' F' e h : Nat} (hc : Cod M O P V F ns s e H h) (hV : V ≤ V') (hF : F ≤ F') (hn : ∀ x, x < F → ns' x = ns x) : Cod M O P V' F' ns' s e H h := ⟨hc.1.wide hV hF hn, hc.2⟩
/-- the code is the same -/
theorem Cod.cg {e h : Nat} (hc : Cod M O P V F ns s e H h) (hO : ∀ i, i ≤ e → mI M' O i = mI M O i) (hP : ∀ i, i ≤ e → mI M' P i = mI M P i) : Cod M' O P V F ns s e H h := by
  obtain ⟨c1, c2, c3, c4, c5, c6⟩ := hc
  refine ⟨fun pc h0 h1 => ?_, c2, c3, c4, by rw [hO e (Nat.le_refl _)]; exact c5, c6⟩
  rw [hO pc (by omega), hP pc (by omega)]
  exact c1 pc h0 h1
/-- a piece of code at s -/
def PC (M : mM) (O P V F : Nat) (ns : Nat → Int) (ef : Nat → Nat) (L s h : Nat) : Prop := ∃ e H Ft, Cod M O P V Ft ns s e H h ∧ e < L ∧ Ft ≤ F ∧ ∀ y, y < Ft → ns y = 7 → ef y < s
theorem PC.wide {V' F' h : Nat} (hc : PC M O P V F ns ef L s h) (hV : V ≤ V') (hF : F ≤ F') (hL : L ≤ L') (hn : ∀ x, x < F → ns' x = ns x ∧ ef' x = ef x) : PC M O P V' F' ns' ef' L' s h := by
  obtain ⟨e, H, Ft, c1, c2, c3, c4⟩ := hc
  refine ⟨e, H, Ft, c1.wide hV (Nat.le_refl _) (fun x hx => (hn x (by omega)).1), by omega, by omega, fun y hy h7 => ?_⟩
  rw [(hn y (by omega)).2]
  exact c4 y hy (by rw [← (hn y (by omega)).1]; exact h7)
theorem PC.cg {h : Nat} (hc : PC M O P V F ns ef L s h) (hO : ∀ i, i < L → mI M' O i = mI M O i) (hP : ∀ i, i < L → mI M' P i = mI M P i) : PC M' O P V F ns ef L s h := by
  obtain ⟨e, H, Ft, c1, c2, c3, c4⟩ := hc
  exact ⟨e, H, Ft, c1.cg (fun i hi => hO i (by omega)) (fun i hi => hP i (by omega)), c2, c3, c4⟩
theorem FO.cg (h : FO M p O P V ns sf ef L F) (hO : ∀ i, i < L → mI M' O i = mI M O i) (hP : ∀ i, i < L → mI M' P i = mI M P i) (h7 : ∀ i, i < F → mI M' (p + 7) i = mI M (p + 7) i) (h8 : ∀ i, i < F → mI M' (p + 8) i = mI M (p + 8) i) : FO M' p O P V ns sf ef L F := fun x hx => by
  obtain ⟨a1, a2⟩ := h x hx
  rw [h7 x hx, h8 x hx]
  refine ⟨a1, fun y => ?_⟩
  obtain ⟨b1, ⟨Hx, b2⟩, b3, b4⟩ := a2 y
  exact ⟨b1, ⟨Hx, b2.cg (fun i hi => hO i (by omega)) (fun i hi => hP i (by omega))⟩, b3, b4⟩
theorem FO.wide {V' : Nat} (h : FO M p O P V ns sf ef L F) (hV : V ≤ V') (hL : L ≤ L') : FO M p O P V' ns sf ef L' F := fun x hx => by
  obtain ⟨a1, a2⟩ := h x hx
  refine ⟨a1, fun y => ?_⟩
  obtain ⟨b1, ⟨Hx, b2⟩, b3, b4⟩ := a2 y
  exact ⟨b1, ⟨Hx, b2.wide hV (Nat.le_refl _) (fun _ _ => rfl)⟩, by omega, b4⟩
/-- the program's tables: cnt commands, Bn branches -/
def PG (M : mM) (p O P V F : Nat) (ns : Nat → Int) (sf ef : Nat → Nat) (L cnt Bn : Nat) : Prop := FO M p O P V ns sf ef L F ∧ (mI M p 11 = -1 ∨ ∃ s : Nat, mI M p 11 = s ∧ PC M O P V F ns ef L s 1) ∧ (∀ j, j < cnt → ∃ s : Nat, mI M (p + 11) j = s ∧ PC M O P V F ns ef L s 1) ∧ mI M (p + 12) 0 = 0 ∧ (∀ j, j < cnt → ∃ u v : Nat, mI M (p + 12) j = u ∧ mI M (p + 12) (j + 1) = v ∧ u ≤ v ∧ v ≤ u + 8) ∧ (∃ u : Nat, mI M (p + 12) cnt = u ∧ u ≤ Bn ∧ u ≤ 8 * cnt) ∧ (∀ b, b < Bn → ∃ s1 s2 : Nat, mI M (p + 14) b = s1 ∧ PC M O P V F ns ef L s1 1 ∧ mI M (p + 15) b = s2 ∧ PC M O P V F ns ef L s2 0)
/-- the cells that reading an item may change -/
def txS (q p O P : Nat) : Nat → Prop := fun x => (q ≤ x ∧ x ≤ q + 10) ∨ x = q + 21 ∨ x = q + 22 ∨ x = p ∨ (p + 3 ≤ x ∧ x ≤ p + 15) ∨ x = O ∨ x = P
/-- the reader of texts: places; it lies apart from the words and the program -/
def TP (M : mM) (z q w T A B D N C n p O P K Ab Be Cm : Nat) : Prop := RB M z (q + 1) w T A B D N C n p O P K ∧ (mK M q = 3 ∧ mR M q 0 = q + 1 ∧ mR M q 1 = q + 11 ∧ mR M q 2 = p ∧ mR M q 5 = q + 21 ∧ mR M q 6 = q + 22) ∧ (mK M (q + 21) = 30 ∧ mK M (q + 22) = 30 ∧ mN M (q + 21) = 3 ∧ mN M (q + 22) = 3) ∧ MK M z (q + 11) (q + 12) Ab Be Cm ∧ mR M (q + 11) 0 = p ∧ (q + 23 ≤ z ∧ (q + 22 < p ∨ p + 15 < q) ∧ (∀ x, (x = w ∨ x = T ∨ x = A ∨ x = B ∨ x = D) → ¬ (q ≤ x ∧ x ≤ q + 22) ∧ x ≠ Ab ∧ x ≠ Be ∧ x < mZ M)) ∧ (O ≠ Ab ∧ O ≠ Be ∧ P ≠ Ab ∧ P ≠ Be)
theorem TP.apart (h : TP M z q w T A B D N C n p O P K Ab Be Cm) : Mpr M z (q + 11) p O P Ab Be ∧ (O < q ∨ q + 22 < O) ∧ (P < q ∨ q + 22 < P) ∧ (O < p ∨ O = p + 1 ∨ p + 15 < O) ∧ (P < p ∨ P = p + 2 ∨ p + 15 < P) ∧ O ≠ P := by
  obtain ⟨⟨-, -, -, -, ⟨-, -, -, ⟨a1, a2, a3, a4⟩, -⟩, -⟩, -, -, hk, -, ⟨b1, b2, -⟩, b3⟩ := h
  obtain ⟨sA, sB, sne, sz⟩ := hk.2.2.2.2.2.1
  exact ⟨⟨by omega, b3, by omega, by omega, sA, sB⟩, by omega, by omega, by omega, by omega, a3⟩
theorem TP.fi (h : TP M z q w T A B D N C n p O P K Ab Be Cm) (ok : mOk M') (f : FI (txS q p O P) M M') : TP M' z q w T A B D N C n p O P K Ab Be Cm := by
  have ap := h.apart
  obtain ⟨hb, h2, h3, hk, h4, ⟨s1, s2, s3⟩, h5⟩ := h
  obtain ⟨b1, b2, b3, b4, b5, b6, b7⟩ := hb
  obtain ⟨f1, f2, f3, f4, f5, f6, f7⟩ := id f
  refine ⟨⟨ok, b2.fi f, by rw [f3]; exact b3, b4.fi f (fun x hx y => ?_), b5.fi f, b6, b7⟩, by rw [f1, f3]; exact h2, by rw [f1, f2]; exact h3, hk.fi f ?_, by rw [f3]; exact h4, ⟨s1, s2, by rw [f5]; exact s3⟩, h5⟩
  · have y' : (q ≤ x ∧ x ≤ q + 10) ∨ x = q + 21 ∨ x = q + 22 ∨ x = p ∨ (p + 3 ≤ x ∧ x ≤ p + 15) ∨ x = O ∨ x = P := y
    have u := (s3 x hx).1
    have v := b6.2.2 x hx
    omega
  · rw [f7 (q + 11) (fun y => by
      have y' : (q ≤ q + 11 ∧ q + 11 ≤ q + 10) ∨ q + 11 = q + 21 ∨ q + 11 = q + 22 ∨ q + 11 = p ∨ (p + 3 ≤ q + 11 ∧ q + 11 ≤ p + 15) ∨ q + 11 = O ∨ q + 11 = P := y
      omega)]
theorem TP.words (h : TP M z q w T A B D N C n p O P K Ab Be Cm) (f : FI (txS q p O P) M M') : mI M' A = mI M A ∧ mI M' B = mI M B ∧ mI M' D = mI M D ∧ mI M' w = mI M w := by
  have ap := h.apart
  obtain ⟨⟨-, -, -, -, -, b6, -⟩, -, -, -, -, ⟨-, -, s3⟩, -⟩ := h
  have no : ∀ x, (x = w ∨ x = T ∨ x = A ∨ x = B ∨ x = D) → ¬ txS q p O P x := fun x hx y => by
    have y' : (q ≤ x ∧ x ≤ q + 10) ∨ x = q + 21 ∨ x = q + 22 ∨ x = p ∨ (p + 3 ≤ x ∧ x ≤ p + 15) ∨ x = O ∨ x = P := y
    have u := (s3 x hx).1
    have v := b6.2.2 x hx
    omega
  exact ⟨f.2.2.2.2.2.2 A (no A (by omega)), f.2.2.2.2.2.2 B (no B (by omega)), f.2.2.2.2.2.2 D (no D (by omega)), f.2.2.2.2.2.2 w (no w (by omega))⟩
/-- names, vars, kinds -/
def TC (M : mM) (q A n p V F : Nat) (ns : Nat → Int) (c : Nat) : Prop := (mI M p 3 = V ∧ V ≤ 12) ∧ (mI M p 7 = F ∧ F ≤ 60) ∧ TN M (q + 1) A n V F ns c ∧ (∀ j, mI M (q + 6) j = 0 ∨ mI M (q + 6) j = 1)
/-- the tables, while no fault is noted -/
def PX (M : mM) (q p O P V F : Nat) (ns : Nat → Int) (sf ef : Nat → Nat) (L cnt : Nat) : Prop := (mI M p 12 = cnt ∧ cnt ≤ 60) ∧ (mI M (q + 1) 3 = 0 → ∃ u : Nat, mI M (p + 12) cnt = u ∧ PG M p O P V F ns sf ef L cnt u)
/-- what reading may change, but for the commands -/
def txE (M : mM) (q p O P s : Nat) (M' : mM) : Prop := (∀ i, i ≠ 2 → i ≠ 3 → i ≠ 4 → i ≠ 5 → i ≠ 6 → i ≠ 7 → i ≠ 12 → i ≠ 14 → mI M' (q + 1) i = mI M (q + 1) i) ∧ (mI M (q + 1) 3 ≠ 0 → mI M' (q + 1) 3 ≠ 0) ∧ (∀ i, 6 ≤ i → i ≤ 9 → mI M' (q + 1 + i) = mI M (q + 1 + i)) ∧ (∀ i, i ≠ 2 → mI M' p i = mI M p i) ∧ (∀ i, 3 ≤ i → i ≤ 15 → mI M' (p + i) = mI M (p + i)) ∧ (∀ i, i < s → mI M' O i = mI M O i ∧ mI M' P i = mI M P i)
def txF (M : mM) (q p O P s : Nat) (M' : mM) : Prop := FI (txS q p O P) M M' ∧ txE M q p O P s M'
theorem txF.refl : txF M q p O P s M := ⟨FI.refl, fun _ _ _ _ _ _ _ _ _ => rfl, fun h => h, fun _ _ _ => rfl, fun _ _ => rfl, fun _ _ _ => rfl, fun _ _ => ⟨rfl, rfl⟩⟩
theorem txF.trans (f : txF M q p O P s M1) (g : txF M1 q p O P s M2) : txF M q p O P s M2 := by
  obtain ⟨a1, a2, a3, a4, a5, a6, a7⟩ := f
  obtain ⟨b1, b2, b3, b4, b5, b6, b7⟩ := g
  exact ⟨a1.trans b1, fun i i2 i3 i4 i5 i6 i7 i12 i14 => by rw [b2 i i2 i3 i4 i5 i6 i7 i12 i14, a2 i i2 i3 i4 i5 i6 i7 i12 i14], fun h => b3 (a3 h), fun i i6 i9 => by rw [b4 i i6 i9, a4 i i6 i9], fun i i2 => by rw [b5 i i2, a5 i i2], fun i i9 i15 => by rw [b6 i i9 i15, a6 i i9 i15], fun i hi => ⟨by rw [(b7 i hi).1, (a7 i hi).1], by rw [(b7 i hi).2, (a7 i hi).2]⟩⟩
theorem txF.less {s' : Nat} (f : txF M q p O P s M1) (h : s' ≤ s) : txF M q p O P s' M1 := ⟨f.1, f.2.1, f.2.2.1, f.2.2.2.1, f.2.2.2.2.1, f.2.2.2.2.2.1, fun i hi => f.2.2.2.2.2.2 i (by omega)⟩
theorem TC.tx (h : TC M q A n p V F ns c) (hA : mI M' A = mI M A) (f : txE M q p O P s M') (ht : ∀ j, mI M' (q + 6) j = 0 ∨ mI M' (q + 6) j = 1) : TC M' q A n p V F ns c := by
  obtain ⟨a1, a2, a3, -⟩ := h
  obtain ⟨f2, -, f4, f5, -⟩ := f
  refine ⟨by rw [f5 3 (by decide)]; exact a1, by rw [f5 7 (by decide)]; exact a2, ?_, ht⟩
  unfold TN at a3 ⊢
  rw [hA, f2 19 (by decide) (by decide) (by decide) (by decide) (by decide) (by decide) (by decide) (by decide), f4 6 (by omega) (by omega), f4 7 (by omega) (by omega), f4 8 (by omega) (by omega), f4 9 (by omega) (by omega)]
  exact a3
theorem PX.tx (h : PX M q p O P V F ns sf ef L cnt) (f : txE M q p O P L M') : PX M' q p O P V F ns sf ef L cnt := by
  obtain ⟨a1, a2⟩ := h
  obtain ⟨f2, f3, f4, f5, f6, f7⟩ := f
  refine ⟨by rw [f5 12 (by decide)]; exact a1, fun h0 => ?_⟩
  obtain ⟨u, e, g1, g2, g3, g4, g5, g6, g7⟩ := a2 (Classical.byContradiction (fun y => f3 y h0))
  have cg : ∀ {s h : Nat}, PC M O P V F ns ef L s h → PC M' O P V F ns ef L s h := fun hc => hc.cg (fun i hi => (f7 i hi).1) (fun i hi => (f7 i hi).2)
  refine ⟨u, by rw [f6 12 (by omega) (by omega)]; exact e, g1.cg (fun i hi => (f7 i hi).1) (fun i hi => (f7 i hi).2) (fun i _ => by rw [f6 7 (by omega) (by omega)]) (fun i _ => by rw [f6 8 (by omega) (by omega)]), ?_, fun j hj => ?_, by rw [f6 12 (by omega) (by omega)]; exact g4, by rw [f6 12 (by omega) (by omega)]; exact g5, by rw [f6 12 (by omega) (by omega)]; exact g6, fun b hb => ?_⟩
  · rw [f5 11 (by decide)]
    exact g2.imp (fun y => y) (fun ⟨s, y1, y2⟩ => ⟨s, y1, cg y2⟩)
  · obtain ⟨s, y1, y2⟩ := g3 j hj
    exact ⟨s, by rw [f6 11 (by omega) (by omega)]; exact y1, cg y2⟩
  · obtain ⟨s1, s2, y1, y2, y3, y4⟩ := g7 b hb
    exact ⟨s1, s2, by rw [f6 14 (by omega) (by omega)]; exact y1, cg y2, by rw [f6 15 (by omega) (by omega)]; exact y3, cg y4⟩
/-- the reader of texts between two steps -/
def TX (M : mM) (z q w T A B D N C n p O P K Ab Be Cm V F : Nat) (ns : Nat → Int) (sf ef : Nat → Nat) (c cnt L : Nat) : Prop := TP M z q w T A B D N C n p O P K Ab Be Cm ∧ TC M q A n p V F ns c ∧ PX M q p O P V F ns sf ef L cnt
theorem TX.tx (h : TX M z q w T A B D N C n p O P K Ab Be Cm V F ns sf ef c cnt L) (ok : mOk M') (f : txF M q p O P L M') (ht : ∀ j, mI M' (q + 6) j = 0 ∨ mI M' (q + 6) j = 1) : TX M' z q w T A B D N C n p O P K Ab Be Cm V F ns sf ef c cnt L := by
  obtain ⟨h1, h2, h3⟩ := h
  exact ⟨h1.fi ok f.1, h2.tx (h1.words f.1).1 f.2 ht, h3.tx f.2⟩
end TRA
