section
/-! The class's Solver: equations are written. -/
section NBS
variable {G : mG} {d s g a cn cc bc i k n c un x y mu : Nat} {M M0 M' M1 M2 M3 : mM}
/-- a row while its branches are read: they sum up to w -/
def evR (M : mM) (s i : Nat) (mu w : Int) : Prop := (∀ j, j < 40 → -w ≤ mI M (s + 32) (i * 41 + j) ∧ mI M (s + 32) (i * 41 + j) ≤ mu) ∧ 0 ≤ mI M (s + 32) (i * 41 + 40) ∧ mI M (s + 32) (i * 41 + 40) ≤ w
theorem ev_up {j : Nat} {v w w' m : Int} (h : evR M s i m w) (e : M' = mUI M (s + 32) (i * 41 + j) v) (ww : w ≤ w') (hj : j ≤ 40) (hv : (j < 40 → -w' ≤ v ∧ v ≤ m) ∧ (j = 40 → 0 ≤ v ∧ v ≤ w')) : evR M' s i m w' := by
  obtain ⟨h1, h2, h3⟩ := h
  refine ⟨fun j' hj' => ?_, ?_⟩
  · rw [mI_ui _ _ e]
    by_cases c : j' = j
    · rw [if_pos ⟨rfl, by omega⟩]
      exact hv.1 (by omega)
    · rw [if_neg (fun u => c (by omega))]
      have := h1 j' hj'
      omega
  · rw [mI_ui _ _ e]
    by_cases c : j = 40
    · rw [if_pos ⟨rfl, by omega⟩]
      exact hv.2 c
    · rw [if_neg (fun u => c (by omega))]
      omega
theorem wsm_mono {m : Nat} : ∀ {q : Nat}, m ≤ q → (∀ j, x ≤ j → j < x + q → 1 ≤ mI M (g + 9) j) → wsm M g x m ≤ wsm M g x q
  | 0, h, _ => by rw [show m = 0 by omega]; exact Int.le_refl _
  | q + 1, h, hp => by
    by_cases c : m = q + 1
    · rw [c]; exact Int.le_refl _
    · have h1 := wsm_mono (m := m) (q := q) (by omega) (fun j a b => hp j a (by omega))
      have h2 := hp (x + q) (by omega) (by omega)
      have h3 : wsm M g x (q + 1) = wsm M g x q + mI M (g + 9) (x + q) := rfl
      omega
theorem s_ev86 {l2 : Int} {Q : mM → Prop} (hg : SG M s g cn cc bc) (hR : Rk M (s + 31)) (hS : Slo M s un) (u40 : un ≤ 40) (hi : i < 40) (hl2 : i32 l2) (hc : c < cc) (e7 : mI M (g + 7) (c + 1) = ((y : Nat) : Int)) (hxy : x ≤ y ∧ y ≤ bc) (hbr : ∀ j, x ≤ j → j < y → 0 ≤ mI M (g + 8) j ∧ mI M (g + 8) j < cn ∧ 1 ≤ mI M (g + 9) j) (hw : wsm M g x (y - x) = ((mu : Nat) : Int)) (hmu : mu < 1000000000)
    (hQ : ∀ M', mOk M' → FI (fun z => z = s + 32) M M' → (∀ j, (j < i * 41 ∨ i * 41 + 41 ≤ j) → mI M' (s + 32) j = mI M (s + 32) j) → evR M' s i mu mu → h_So_evaluate_15 G d s a l2 ((i : Int) + 1) M' Q) : ∀ (t b : Nat) (M1 : mM), y ≤ b + t → x ≤ b → b ≤ y → mOk M1 → FI (fun z => z = s + 32) M M1 → (∀ j, (j < i * 41 ∨ i * 41 + 41 ≤ j) → mI M1 (s + 32) j = mI M (s + 32) j) → evR M1 s i mu (wsm M g x (b - x)) → h_So_evaluate_86 G d s a l2 i ((i : Int) * 41) c b M1 Q := by
  have gs := hg.2.1.1.2
  intro t
  induction t with
  | zero =>
    intro b M1 h1 h2 h3 o F oth ev
    have eb : b = y := by omega
    subst eb
    rw [hw] at ev
    have nS : ∀ i, i ≤ 9 → ¬ (fun z => z = s + 32) (g + i) := fun i hi u => by have u' : g + i = s + 32 := u; omega
    obtain ⟨-, ⟨⟨s0, -⟩, ⟨-, -, -, r3, -⟩, -⟩, ⟨g0, ⟨-, -, -, q7, -⟩, gk, ⟨-, -, -, m7, -⟩⟩, -, hT⟩ := hg.fi F o nS
    obtain ⟨hc1, hc2, hc3⟩ := hT.1
    refine k_So_evaluate_86 o hl2 ⟨by omega, by omega⟩ ⟨by omega, by omega⟩ ⟨by omega, by omega⟩ ⟨by omega, by omega⟩ ?_
    rw [r3, q7, m7, show Int.toNat ((c : Int) + 1) = c + 1 by omega, F.2.2.2.2.2.2 (g + 7) (nS 7 (by decide)), e7]
    exact ⟨s0, g0, gk 7 (by decide) (by decide), ⟨by omega, by omega⟩, fun _ => hQ M1 o F oth ev, fun u => absurd (Int.le_refl _) u⟩
  | succ t ih =>
    intro b M1 h1 h2 h3 o F oth ev
    by_cases eb : b = y
    · exact ih b M1 (by omega) h2 h3 o F oth ev
    have nS : ∀ i, i ≤ 9 → ¬ (fun z => z = s + 32) (g + i) := fun i hi u => by have u' : g + i = s + 32 := u; omega
    obtain ⟨-, ⟨⟨s0, -⟩, ⟨-, -, -, r3, r4, -, -, r7, -⟩, ⟨-, -, -, -, k7, -⟩, ⟨-, -, -, -, n7, -⟩⟩, ⟨g0, ⟨q2, -, -, q7, q8, q9⟩, gk, ⟨m2, -, -, m7, m8, m9⟩⟩, -, hT⟩ := hg.fi F o nS
    obtain ⟨e0, ⟨re, -⟩, ⟨ke, -⟩, ⟨ne, -⟩⟩ := hR.fi F
    have re' : mR M1 (s + 31) 0 = s + 32 := re
    have ke' : mK M1 (s + 32) = 30 := ke
    have ne' : mN M1 (s + 32) = 1640 := ne
    obtain ⟨hc1, hc2, hc3⟩ := hT.1
    obtain ⟨b1, b2, b3⟩ := hbr b h2 (by omega)
    obtain ⟨to, eto⟩ : ∃ to : Nat, mI M (g + 8) b = ((to : Nat) : Int) := ⟨(mI M (g + 8) b).toNat, by omega⟩
    have i124 : mI M1 (s + 124) = mI M (s + 124) := F.2.2.2.2.2.2 _ (show ¬ s + 124 = s + 32 by omega)
    have sl := hS to (by omega)
    have wpos : ∀ j, x ≤ j → j < x + (y - x) → 1 ≤ mI M (g + 9) j := fun j p q => (hbr j p (by omega)).2.2
    have wb := wsm_le (M := M) (g := g) (x := x) (n := y - x) wpos (y - x) (Nat.le_refl _) b h2 (by omega)
    rw [hw] at wb
    have wb1 : wsm M g x (b + 1 - x) = wsm M g x (b - x) + mI M (g + 9) b := by
      rw [show b + 1 - x = (b - x) + 1 by omega]
      show wsm M g x (b - x) + mI M (g + 9) (x + (b - x)) = _
      rw [show x + (b - x) = b by omega]
    have w0 : 0 ≤ wsm M g x (b - x) := wg_ws (fun j p q => (hbr j p (by omega)).2.2)
    have wle : wsm M g x (b - x) + mI M (g + 9) b ≤ ((mu : Nat) : Int) := by
      rw [← wb1, ← hw]
      exact wsm_mono (by omega) wpos
    refine k_So_evaluate_86 o hl2 ⟨by omega, by omega⟩ ⟨by omega, by omega⟩ ⟨by omega, by omega⟩ ⟨by omega, by omega⟩ ?_
    rw [r3, q7, m7, show Int.toNat ((c : Int) + 1) = c + 1 by omega, F.2.2.2.2.2.2 (g + 7) (nS 7 (by decide)), e7, q8, m8, r7, n7, q2, m2, r4, re', ne', q9, m9, Int.toNat_natCast, F.2.2.2.2.2.2 (g + 8) (nS 8 (by decide)), eto, Int.toNat_natCast, F.2.2.2.2.2.2 (g + 2) (nS 2 (by decide)), F.2.2.2.2.2.2 (g + 9) (nS 9 (by decide)), i124, show ((i : Int) * 41 + 40) = ((i * 41 + 40 : Nat) : Int) by omega, Int.toNat_natCast, show ((b : Int) + 1) = ((b + 1 : Nat) : Int) by omega]
    have e40 := ev.2
    refine ⟨s0, g0, gk 7 (by decide) (by decide), ⟨by omega, by omega⟩, fun u => absurd u (by omega), fun _ => ⟨gk 8 (by decide) (by decide), ⟨by omega, by omega⟩, k7, ⟨by omega, by omega⟩, ⟨fun _ => ⟨gk 2 (by decide) (by decide), ⟨by omega, by omega⟩, fun _ => ⟨e0, ke', ⟨by omega, by omega⟩, gk 9 (by decide) (by decide), ⟨by omega, by omega⟩, ⟨by omega, by omega⟩, ⟨by omega, by omega⟩⟩⟩, fun ns => ?_⟩, fun M63 e63 => ?_⟩⟩
    · have sl' := sl.resolve_left ns
      obtain ⟨j, ej⟩ : ∃ j : Nat, mI M (s + 124) to = ((j : Nat) : Int) := ⟨(mI M (s + 124) to).toNat, by omega⟩
      rw [ej, show ((i : Int) * 41 + ((j : Nat) : Int)) = ((i * 41 + j : Nat) : Int) by omega, Int.toNat_natCast]
      have evj := ev.1 j (by omega)
      exact ⟨e0, ⟨by omega, by omega⟩, ke', ⟨by omega, by omega⟩, gk 9 (by decide) (by decide), ⟨by omega, by omega⟩, ⟨by omega, by omega⟩, ⟨by omega, by omega⟩⟩
    · by_cases c1 : mI M (s + 124) to = -1
      · rw [if_pos c1] at e63
        by_cases c2 : mI M (g + 2) to = 3
        · rw [if_pos c2] at e63
          have f63 : FI (fun z => z = s + 32) M1 M63 := by rw [e63]; exact FI.ui rfl
          have o63 : mOk M63 := by rw [e63]; exact mOk_UI o ⟨by omega, by omega⟩
          exact ⟨o63, ih (b + 1) M63 (by omega) (by omega) (by omega) o63 (F.trans f63) (fun j hj => by rw [mI_ui _ j e63, if_neg (fun u => by omega)]; exact oth j hj) (by rw [wb1]; exact ev_up ev e63 (by omega) (Nat.le_refl _) ⟨fun u => absurd u (by decide), fun _ => ⟨by omega, by omega⟩⟩)⟩
        · rw [if_neg c2] at e63
          rw [e63]
          refine ⟨o, ih (b + 1) M1 (by omega) (by omega) (by omega) o F oth ?_⟩
          rw [wb1]
          exact ⟨fun j hj => by have := ev.1 j hj; omega, by omega, by omega⟩
      · rw [if_neg c1] at e63
        have sl' := sl.resolve_left c1
        obtain ⟨j, ej⟩ : ∃ j : Nat, mI M (s + 124) to = ((j : Nat) : Int) := ⟨(mI M (s + 124) to).toNat, by omega⟩
        rw [ej, show ((i : Int) * 41 + ((j : Nat) : Int)) = ((i * 41 + j : Nat) : Int) by omega, Int.toNat_natCast] at e63
        have evj := ev.1 j (by omega)
        have f63 : FI (fun z => z = s + 32) M1 M63 := by rw [e63]; exact FI.ui rfl
        have o63 : mOk M63 := by rw [e63]; exact mOk_UI o ⟨by omega, by omega⟩
        exact ⟨o63, ih (b + 1) M63 (by omega) (by omega) (by omega) o63 (F.trans f63) (fun j' hj => by rw [mI_ui _ j' e63, if_neg (fun u => by omega)]; exact oth j' hj) (by rw [wb1]; exact ev_up ev e63 (by omega) (by omega) ⟨fun _ => ⟨by omega, by omega⟩, fun u => absurd u (by omega)⟩)⟩
/-- the equations, row by row -/
theorem s_ev15 {wt : Nat → Nat} {Q : mM → Prop} (hg : SG M s g cn cc bc) (hR : Rk M (s + 31)) (hL : LHs M s cn cc) (hU : Unk M s cn un) (hwt : ∀ i, i < un → wtO M s g i (wt i) ∧ wt i ≤ 33)
    (hQ : ∀ (M' : mM) (bits : Nat), mOk M' → FI (fun z => z = s + 32) M M' → Ent9 M' (s + 31) 1640 → bits ≤ wsu wt un → mK M' (mR M' s 4) = 12 ∧ Cv G y_Re_settle d [vr (mR M' s 4), vi (mI M' s 10), vi bits] M' (fun M10 => mOk M10 ∧ (h_So_evaluate_226 G d s a 0 M10 Q))) : ∀ (t i bits : Nat) (M1 : mM), un ≤ i + t → i ≤ un → mOk M1 → FI (fun z => z = s + 32) M M1 → Ent9 M1 (s + 31) 1640 → (∀ j, i * 41 ≤ j → j < 1640 → mI M1 (s + 32) j = 0) → bits ≤ wsu wt i → wsu wt i ≤ 33 * i → h_So_evaluate_15 G d s a bits i M1 Q := by
  have gs := hg.2.1.1.2
  have nS : ∀ i, i ≤ 9 → ¬ (fun z => z = s + 32) (g + i) := fun i hi u => by have u' : g + i = s + 32 := u; omega
  obtain ⟨u1, u2, u3, u4⟩ := id hU
  intro t
  induction t with
  | zero =>
    intro i bits M1 h1 h2 o F en z hb hb2
    have ei : i = un := by omega
    subst ei
    obtain ⟨-, ⟨⟨s0, -⟩, -⟩, -⟩ := hg.fi F o nS
    have i10 : mI M1 s 10 = ((i : Nat) : Int) := by rw [F.2.2.2.2.2.2 s (show ¬ s = s + 32 by omega)]; exact u1
    have q := hQ M1 bits o F en hb
    rw [i10] at q
    refine k_So_evaluate_15 o ⟨by omega, by omega⟩ ⟨by omega, by omega⟩ ?_
    rw [i10]
    exact ⟨s0, fun _ => q, fun u => absurd (Int.le_refl _) u⟩
  | succ t ih =>
    intro i bits M1 h1 h2 o F en z hb hb2
    by_cases ei : i = un
    · exact ih i bits M1 (by omega) h2 o F en z hb hb2
    have hi : i < un := by omega
    have hg1 := hg.fi F o nS
    obtain ⟨-, ⟨⟨s0, -⟩, ⟨-, -, -, r3, r4, -, -, -, -, r9, -⟩, ⟨-, -, -, -, -, -, k9, -⟩, ⟨-, -, -, -, -, -, n9, -⟩⟩, ⟨g0, ⟨-, -, q6, q7, -, -⟩, gk, ⟨-, -, m6, m7, -, -⟩⟩, -, hT⟩ := id hg1
    obtain ⟨hc1, hc2, hc3⟩ := hT.1
    have hR1 := hR.fi F
    obtain ⟨e0, ⟨re, -⟩, ⟨ke, -⟩, ⟨ne, -⟩⟩ := id hR1
    have re' : mR M1 (s + 31) 0 = s + 32 := re
    have ke' : mK M1 (s + 32) = 30 := ke
    have ne' : mN M1 (s + 32) = 1640 := ne
    obtain ⟨kst, c, lo, hi', e1, hk, e4, e2, e3, l1, l2⟩ := u4 i hi
    obtain ⟨lo', hi2, f1, f2, f3, f4⟩ := hL kst hk
    have cc' : c < cc := by omega
    obtain ⟨x, y, mu, v1, v2, ⟨v3, v3'⟩, v4, v5, v6, v7, v8, v9, -⟩ := hT.2.1 c cc'
    have i10 : mI M1 s 10 = ((un : Nat) : Int) := by rw [F.2.2.2.2.2.2 s (show ¬ s = s + 32 by omega)]; exact u1
    have i9 : mI M1 (s + 126) i = ((c : Nat) : Int) := by rw [F.2.2.2.2.2.2 (s + 126) (show ¬ s + 126 = s + 32 by omega)]; exact e4
    have mw : ((mu : Nat) : Int) < 2 ^ (wt i) := by
      have := (hwt i hi).1 kst lo hi' c e1 e2 e3 l1 l2
      rw [← F.2.2.2.2.2.2 (g + 6) (nS 6 (by decide)), v6] at this
      exact this
    refine k_So_evaluate_15 o ⟨by omega, by omega⟩ ⟨by omega, by omega⟩ ?_
    rw [i10, r9, n9, r3, q6, m6, r4, re', ne', Int.toNat_natCast, i9, Int.toNat_natCast, v6, show ((i : Int) * 41 + (i : Int)) = ((i * 41 + i : Nat) : Int) by omega, Int.toNat_natCast]
    refine ⟨s0, fun u => absurd u (by omega), fun _ => ⟨k9, ⟨by omega, by omega⟩, g0, gk 6 (by decide) (by decide), ⟨by omega, by omega⟩, e0, ke', ⟨by omega, by omega⟩, fun M21 e21 => ?_⟩⟩
    have f21 : FI (fun z => z = s + 32) M1 M21 := by rw [e21]; exact FI.ui rfl
    have o21 : mOk M21 := by rw [e21]; exact mOk_UI o ⟨by omega, by omega⟩
    have hg21 := hg1.fi f21 o21 nS
    refine (s_nlz (d := d) (show (0 : Int) < ((mu : Nat) : Int) by omega) ⟨by omega, by omega⟩ o21).mono (fun x24 M23 q => ?_)
    obtain ⟨e23, kk, ek, k31, p1, p2⟩ := q
    have w32 : 32 - kk ≤ wt i := by
      have : 31 - kk < wt i := p2l (Int.lt_of_le_of_lt p1 mw)
      omega
    have b7 : mI M21 (g + 7) c = ((x : Nat) : Int) := by rw [f21.2.2.2.2.2.2 (g + 7) (nS 7 (by decide))]; exact v1
    rw [e23, ek, f21.1, f21.2.1, f21.2.2.1, r3, q7, m7, b7]
    refine ⟨⟨by omega, by omega⟩, o21, s0, g0, gk 7 (by decide) (by decide), ⟨by omega, by omega⟩, ?_⟩
    rw [show ((bits : Nat) : Int) + (32 - ((kk : Nat) : Int)) = ((bits + (32 - kk) : Nat) : Int) by omega]
    have wt33 := (hwt i hi).2
    have g8 : mI M21 (g + 8) = mI M1 (g + 8) := f21.2.2.2.2.2.2 (g + 8) (nS 8 (by decide))
    have g9 : mI M21 (g + 9) = mI M1 (g + 9) := f21.2.2.2.2.2.2 (g + 9) (nS 9 (by decide))
    refine s_ev86 (M := M21) (mu := mu) (x := x) (y := y) (un := un) (a := a) hg21 (hR1.fi f21) (fun j hj => by rw [f21.2.2.2.2.2.2 (s + 124) (show ¬ s + 124 = s + 32 by omega), F.2.2.2.2.2.2 (s + 124) (show ¬ s + 124 = s + 32 by omega)]; exact u3 j hj) u2 (by omega) ⟨by omega, by omega⟩ cc' (by rw [f21.2.2.2.2.2.2 (g + 7) (nS 7 (by decide))]; exact v2) ⟨by omega, v4⟩ (fun j p q => by rw [g8, g9]; exact v5 j p q) (by rw [wsm_cg (M := M1) _ (fun j _ _ => by rw [g9])]; exact v9) v8 (fun M' o' F' oth ev => ?_) (y - x) x M21 (by omega) (Nat.le_refl _) (by omega) o21 FI.refl (fun _ _ => rfl) ?_
    · rw [show ((i : Int) + 1) = ((i + 1 : Nat) : Int) by omega]
      refine ih (i + 1) (bits + (32 - kk)) M' (by omega) (by omega) o' ((F.trans f21).trans F') (fun j hj => ?_) (fun j hj1 hj2 => ?_) ?_ ?_
      · by_cases cj : j < i * 41 ∨ i * 41 + 41 ≤ j
        · show -1000000000 ≤ mI M' (s + 32) j ∧ mI M' (s + 32) j ≤ 1000000000
          rw [oth j cj, mI_ui _ j e21, if_neg (fun u => by omega)]
          exact en j hj
        · obtain ⟨j', ej⟩ : ∃ j', j = i * 41 + j' ∧ j' ≤ 40 := ⟨j - i * 41, by omega, by omega⟩
          show -1000000000 ≤ mI M' (s + 32) j ∧ mI M' (s + 32) j ≤ 1000000000
          rw [ej.1]
          by_cases c40 : j' = 40
          · rw [c40]; have := ev.2; omega
          · have := ev.1 j' (by omega); omega
      · rw [oth j (Or.inr (by omega)), mI_ui _ j e21, if_neg (fun u => by omega)]
        exact z j (by omega) hj2
      · show bits + (32 - kk) ≤ wsu wt i + wt i
        omega
      · show wsu wt i + wt i ≤ 33 * (i + 1)
        omega
    · rw [Nat.sub_self]
      show evR M21 s i mu 0
      refine ⟨fun j hj => ?_, ?_⟩
      · rw [mI_ui _ _ e21]
        by_cases cj : j = i
        · rw [if_pos ⟨rfl, by omega⟩]; omega
        · rw [if_neg (fun u => by omega), z _ (by omega) (by omega)]; omega
      · rw [mI_ui _ _ e21, if_neg (fun u => by omega), z _ (by omega) (by omega)]
        omega
end NBS
end
section
/-! The class's Solver: the numbers of what is chosen. -/
section NBT
variable {G : mG} {d s g a R cn cc bc i k n c un x y mu : Nat} {M M0 M' M1 M2 M3 : mM} {L : List Nat} {W : Nat → Nat}
def Cev (s x : Nat) : Prop := S36 (s + 31) x ∨ x = s + 32
theorem Cev.so {R' : Nat} (h : Cev s x) : Cso s M R' n x := h.elim (fun u => Or.inr (Or.inr (Or.inl u))) (fun u => Or.inr (Or.inr (Or.inr (Or.inl u))))
theorem Cev.nst (h : Cev s x) : ¬ Stb s x := by
  unfold Cev S36 at h
  unfold Stb
  omega
/-- while numbers are worked out -/
def evI (L : List Nat) (W : Nat → Nat) (s g a R k cn cc bc : Nat) (M0 M : mM) : Prop := NX L W (Tso s M0 R cn) (Cev s) False (s + 1) M0 M ∧ Sva L W s g a R k cn cc bc M ∧ mR M R = mR M0 R ∧ (∀ x, Stb s x → mI M x = mI M0 x) ∧ Rsm M R cn 17 ∧ (∀ i, i < cn → mI M (mR M0 R i) = mI M0 (mR M0 R i)) ∧ ∀ i, i ≤ 9 → mI M (g + i) = mI M0 (g + i)
theorem ev_mk (h : Sva L W s g a R k cn cc bc M0) (hcn : cn ≤ k) (q : NX L W (Tso s M0 R cn) (Cev s) False (s + 1) M0 M) (hr : Rsm M R cn 17) : evI L W s g a R k cn cc bc M0 M := by
  have hF := h.2.1.1
  have q' : NX L W (Tso s M0 R cn) (Cso s M0 R cn) False (s + 1) M0 M := q.mono hF (fun _ u => u) (h.tl hcn) (fun x u => u.so) (h.cl hcn) (fun u => u)
  obtain ⟨e1, e2, e3⟩ := h.nx hcn q' (q.sk hF h.2.1.2.1)
  refine ⟨q, e1, e3, fun x hx => ?_, hr, fun i hi => ?_, e2⟩
  · have ne : x ≠ s + 1 := by unfold Stb at hx; omega
    exact (q.oth (h.2.2.1 x hx) ne).2.2.2 (fun u => u.nst hx)
  · have f := h.2.2.2.2.1.2.2.2.2.2 i (by omega)
    refine (q.frl hF f).2 (fun u => ?_)
    have := h.2.2.2.2.2.1 i (by omega)
    unfold Cev S36 at u
    omega
/-- one row's numbers -/
theorem s_ev226 (h0 : Sva L W s g a R k cn cc bc M0) (hcn : cn ≤ k) (hk : k ≤ 512) (hU0 : Unk M0 s cn un) (hWr : ∀ i, i < k → 17 ≤ W (mR M0 R i + 1) ∧ 17 ≤ W (mR M0 R i + 3)) : ∀ (t i : Nat) (M : mM), un ≤ i + t → i ≤ un → evI L W s g a R k cn cc bc M0 M → (∀ j, j ≤ un → nv M (s + 31 + 9 + 2 * j) < 2 ^ (30 * 17)) → h_So_evaluate_226 G (d + 1) s a i M (evI L W s g a R k cn cc bc M0) := by
  obtain ⟨u1, u2, u3, u4⟩ := id hU0
  intro t
  induction t with
  | zero =>
    intro i M h1 h2 hI hv
    have ei : i = un := by omega
    subst ei
    obtain ⟨-, ⟨⟨o, ⟨⟨s0, -⟩, -⟩, -⟩, -⟩, -, st, -⟩ := id hI
    refine k_So_evaluate_226 o ⟨by omega, by omega⟩ ?_
    rw [st s (Or.inl rfl), u1]
    exact ⟨s0, fun _ => hI, fun u => absurd (Int.le_refl _) u⟩
  | succ t ih =>
    intro i M h1 h2 hI hv
    by_cases ei : i = un
    · exact ih i M (by omega) h2 hI hv
    obtain ⟨hN, hS, eR, st, hr, hti, gi⟩ := id hI
    obtain ⟨⟨o, ⟨⟨s0, gs⟩, ⟨-, -, -, -, r4, -, -, -, r8, -⟩, ⟨-, -, -, -, -, k8, -⟩, ⟨-, -, -, -, -, n8, -⟩⟩, -⟩, ⟨hF, hSK, hRs, hfw⟩, -, -, ⟨t1, t2, t3, t4, -, t7⟩, hrow, hD⟩ := id hS
    obtain ⟨⟨e0, ⟨-, re, -⟩, ⟨-, ke, -⟩, ⟨-, ne, -⟩⟩, -, res, -⟩ := id hRs
    have re' : mR M (s + 31) 1 = s + 33 := re
    have ke' : mK M (s + 33) = 34 := ke
    have ne' : mN M (s + 33) = 41 := ne
    have resI := res i (by omega)
    have resU := res un (by omega)
    have res1 : mR M (s + 33) i = s + 31 + 9 + 2 * i := resI.1
    have res2 : ∀ {M'}, mR M' (s + 33) = mR M (s + 33) → mR M' (s + 33) un = s + 31 + 9 + 2 * un := fun e => by rw [e]; exact resU.1
    obtain ⟨kst, c, lo, hi', e1, hkc, -⟩ := u4 i (by omega)
    have e1' : mI M (s + 125) i = ((kst : Nat) : Int) := by rw [st (s + 125) (Or.inr (Or.inr (Or.inr (Or.inr (Or.inr (Or.inr (Or.inl rfl)))))))]; exact e1
    have f := t7 kst (by omega)
    have fb := hrow kst (by omega)
    have wr := hWr kst (by omega)
    rw [← eR] at wr
    have sI := hF.szv resI.2 (hv i (by omega))
    have sU := hF.szv resU.2 (hv un (Nat.le_refl _))
    refine k_So_evaluate_226 o ⟨by omega, by omega⟩ ?_
    rw [st s (Or.inl rfl), u1, r8, n8, t2, t4, r4, re', ne', Int.toNat_natCast, e1', Int.toNat_natCast, res1, f.1.2.1.1]
    refine ⟨s0, fun u => absurd u (by omega), fun _ => ⟨t1, k8, ⟨by omega, by omega⟩, t3, ⟨by omega, by omega⟩, f.1.1, e0, ke', ⟨by omega, by omega⟩, hF.kd f.2.1, (f_put1 (d := d) o hF f.2.1 resI.2 (by omega) (by omega)).mono (fun M83 q => ?_)⟩⟩
    obtain ⟨c1, v1⟩ := q
    have F1 := c1.nf
    have z9 := hS.z9
    have x1 : NX L W (Tso s M0 R cn) (Cev s) False (s + 1) M M83 := (c1.nx (C := Cev s) (r := False) (fun x u => hS.cl (n := cn) hcn x u.so) z9).mono hF (fun t ht => Or.inr (Or.inr (Or.inr ⟨kst, hkc, Or.inl (by rw [← eR]; exact ht)⟩))) hN.2.1.1 (fun _ u => u) (fun x u => hS.cl (n := cn) hcn x u.so) (fun u => u)
    have N1 := hN.trans x1
    have S1 := (ev_mk h0 hcn N1 (M := M83) (fun j hj => ?_)).2.1
    · obtain ⟨⟨o1, ⟨⟨s01, -⟩, ⟨-, -, -, -, r41, -⟩, -⟩, -⟩, ⟨-, -, hRs1, -⟩, -, -, ⟨-, -, -, -, -, t71⟩, -, -⟩ := id S1
      obtain ⟨⟨e01, ⟨-, re1, -⟩, ⟨-, ke1, -⟩, ⟨-, ne1, -⟩⟩, -, res1', -⟩ := id hRs1
      have re1' : mR M83 (s + 31) 1 = s + 33 := re1
      have ke1' : mK M83 (s + 33) = 34 := ke1
      have ne1' : mN M83 (s + 33) = 41 := ne1
      have rU1 : mR M83 (s + 33) un = s + 31 + 9 + 2 * un := (res1' un (by omega)).1
      have i10 : mI M83 s 10 = ((un : Nat) : Int) := by rw [(c1.oth (hS.2.2.1 s (Or.inl rfl))).2.2.2, st s (Or.inl rfl)]; exact u1
      have fr1 := (c1.nl (I := fun _ => False) (r := False) noI z9).frl hF f
      have sU1 : sz M83 (s + 31 + 9 + 2 * un) ≤ 17 := by rw [(c1.num hF resU.2 (show ¬ (s + 31 + 9 + 2 * un = mR M R kst + 1) by omega)).2.2.2.1]; exact sU
      rw [r41, re1', ne1', i10, Int.toNat_natCast, rU1, fr1.1.2.1.2]
      refine ⟨c1.ok, fr1.1.1, s01, e01, ke1', ⟨by omega, by omega⟩, F1.kd f.2.2, (f_put1 (d := d) c1.ok F1 f.2.2 resU.2 (by omega) (by omega)).mono (fun M92 q => ?_)⟩
      obtain ⟨c2, v2⟩ := q
      have x2 : NX L W (Tso s M0 R cn) (Cev s) False (s + 1) M83 M92 := (c2.nx (C := Cev s) (r := False) (fun x u => S1.cl (n := cn) hcn x u.so) S1.z9).mono F1 (fun t ht => Or.inr (Or.inr (Or.inr ⟨kst, hkc, Or.inr (by rw [← eR]; exact ht)⟩))) hN.2.1.1 (fun _ u => u) (fun x u => S1.cl (n := cn) hcn x u.so) (fun u => u)
      have eR2 : mR M92 R = mR M R := by
        rw [(c2.oth S1.2.2.2.2.1.2.2.2.2.1.2).2.2.1, (c1.oth hS.2.2.2.2.1.2.2.2.2.1.2).2.2.1]
      have keep : ∀ b, b ∈ L → b ≠ mR M R kst + 1 → b ≠ mR M R kst + 3 → nv M92 b = nv M b := fun b hb n1 n3 => (c2.v F1 hb n3).trans (c1.v hF hb n1)
      rw [show ((i : Int) + 1) = ((i + 1 : Nat) : Int) by omega]
      refine ⟨c2.ok, ih (i + 1) M92 (by omega) (by omega) (ev_mk h0 hcn (N1.trans x2) (fun j hj => ?_)) (fun j hj => by rw [keep _ (res j (by omega)).2 (by omega) (by omega)]; exact hv j hj)⟩
      rw [eR2]
      by_cases cj : j = kst
      · rw [cj, v2, c1.v hF resU.2 (by omega), c2.v F1 f.2.1 (by omega), v1]
        exact ⟨hF.nn0 resU.2, hv un (Nat.le_refl _), hv i (by omega)⟩
      · have dj := hD j kst (by omega) (by omega) cj
        have fj := t7 j (by omega)
        rw [keep _ fj.2.1 (fun u => dj.1 (by omega)) dj.2.1, keep _ fj.2.2 dj.2.2 (fun u => dj.1 (by omega))]
        exact hr j hj
    · rw [(c1.oth hS.2.2.2.2.1.2.2.2.2.1.2).2.2.1]
      by_cases cj : j = kst
      · rw [cj, v1, c1.v hF f.2.2 (by omega)]
        exact ⟨(hr kst hkc).1, (hr kst hkc).2.1, hv i (by omega)⟩
      · have dj := hD j kst (by omega) (by omega) cj
        have fj := t7 j (by omega)
        rw [c1.v hF fj.2.1 (fun u => dj.1 (by omega)), c1.v hF fj.2.2 dj.2.2]
        exact hr j hj
theorem s_So_evaluate {wt : Nat → Nat} (h : Sva L W s g a R k cn cc bc M) (hcn : cn ≤ k) (hk : k ≤ 512) (hL : LHs M s cn cc) (hU : Unk M s cn un) (hwt : ∀ i, i < un → wtO M s g i (wt i) ∧ wt i ≤ 33) (h480 : wsu wt un ≤ 480) (hr : Rsm M R cn 17) (hWr : ∀ i, i < k → 17 ≤ W (mR M R i + 1) ∧ 17 ≤ W (mR M R i + 3)) (hW : ∀ x, Trs (s + 31) x → 40 ≤ W x) : Cv G y_So_evaluate (d + 6) [vr s, vr a] M (evI L W s g a R k cn cc bc M) := by
  obtain ⟨hg, ⟨hF, hSK, hRs, hfw⟩, hSt, -⟩ := id h
  obtain ⟨o, ⟨⟨s0, gs⟩, ⟨-, -, -, -, r4, -⟩, -⟩, -⟩ := id hg
  obtain ⟨⟨e0, ⟨re, -⟩, ⟨ke, -⟩, ⟨ne, -⟩⟩, oe, -⟩ := id hRs
  have re' : mR M (s + 31) 0 = s + 32 := re
  have ke' : mK M (s + 32) = 30 := ke
  have ne' : mN M (s + 32) = 1640 := ne
  have nS : ∀ i, i ≤ 9 → ¬ (fun z => z = s + 32) (g + i) := fun i hi u => by have u' : g + i = s + 32 := u; omega
  have c32 : ∀ x, (fun z => z = s + 32) x → Oc L M x := fun x u => by rw [u]; exact oe 1 (by decide)
  refine k_So_evaluate o ?_
  rw [r4, re']
  refine ⟨s0, e0, (s_JA_fill (d := d + 5) o ke' (by rw [ne']; decide) ⟨by decide, by decide⟩).mono (fun M3 q => ?_)⟩
  obtain ⟨o3, f3, i3⟩ := q
  rw [ne'] at i3
  have keepF : ∀ {x : Nat}, x ≠ s + 32 → mI M3 x = mI M x := fun hx => f3.2.2.2.2.2.2 _ hx
  refine ⟨o3, s_ev15 (M := M3) (wt := wt) (un := un) (a := a) (hg.fi f3 o3 nS) (hRs.1.fi f3) (fun j hj => by rw [keepF (show s + 122 ≠ s + 32 by omega), keepF (show s + 123 ≠ s + 32 by omega)]; exact hL j hj) ?_ ?_ (fun M' bits o' F' en hb => ?_) un 0 0 M3 (by omega) (by omega) o3 FI.refl (fun j hj => by show -1000000000 ≤ mI M3 (s + 32) j ∧ mI M3 (s + 32) j ≤ 1000000000; rw [i3 j hj]; decide) (fun j _ hj => i3 j hj) (Nat.zero_le _) (Nat.zero_le _)⟩
  · unfold Unk Slo at hU ⊢
    rw [keepF (show s ≠ s + 32 by omega), keepF (show s + 124 ≠ s + 32 by omega), keepF (show s + 125 ≠ s + 32 by omega), keepF (show s + 126 ≠ s + 32 by omega), keepF (show s + 122 ≠ s + 32 by omega), keepF (show s + 123 ≠ s + 32 by omega)]
    exact hU
  · intro i hi
    have := hwt i hi
    unfold wtO at this ⊢
    rw [keepF (show s + 125 ≠ s + 32 by omega), keepF (show s + 122 ≠ s + 32 by omega), keepF (show s + 123 ≠ s + 32 by omega), keepF (fun u => nS 6 (by decide) u)]
    exact this
  · have FF := f3.trans F'
    have i10 : mI M' s 10 = ((un : Nat) : Int) := by rw [FF.2.2.2.2.2.2 s (show ¬ s = s + 32 by omega)]; exact hU.1
    obtain ⟨x0, v0⟩ := FF.nx (T := Tso s M R cn) (r := False) (z := s + 1) o' hF (h.tl hcn) c32 h.z9
    have xE : NX L W (Tso s M R cn) (Cev s) False (s + 1) M M' := x0.mono hF (fun _ u => u) (h.tl hcn) (fun x u => Or.inr u) (fun x u => h.cl (n := cn) hcn x u.so) (fun u => u)
    have E' := ev_mk h hcn xE (fun j hj => ?_)
    · obtain ⟨-, ⟨-, ⟨hF', -, hRs', -⟩, -⟩, -⟩ := id E'
      rw [FF.1, FF.2.2.1, r4, i10]
      refine ⟨e0, (s_Re_settle (d := d) (rows := un) (bits := bits) (L := L) (W := W) hU.2.1 (by omega) o' hF' hRs' (fun j hj => en j (by have := hU.2.1; omega)) hW).mono (fun M10 q => ?_)⟩
      obtain ⟨n10, k10, v10⟩ := q
      have S' := E'.2.1
      have x10 : NX L W (Tso s M R cn) (Cev s) False (s + 1) M' M10 := (n10.nx hRs' S'.z9).mono hF' (fun t ht => Or.inr (Or.inl ht)) xE.2.1.1 (fun x u => Or.inl u) (fun x u => S'.cl (n := cn) hcn x u.so) (fun u => u)
      have X10 := xE.trans x10
      refine ⟨n10.ok, s_ev226 (d := d + 4) h hcn hk hU hWr un 0 M10 (by omega) (by omega) (ev_mk h hcn X10 (fun j hj => ?_)) (fun j hj => Int.lt_of_lt_of_le (v10 j hj) (by rw [show 30 * 17 = 510 by decide]; exact p2m (by omega)))⟩
      have f := h.2.2.2.2.1.2.2.2.2.2 j (by omega)
      have hb' := h.2.2.2.2.2.1 j (by omega)
      have nT : ∀ y, s + 133 < y → ¬ Trs (s + 31) y := fun y hy u => by
        rcases u with u | ⟨i, hi, u⟩ <;> omega
      have eR10 : mR M10 R = mR M R := by
        have nR : R ≠ s + 1 := fun u => by have t3 := h.2.2.2.2.1.2.2.1; rw [u, h.z9.2] at t3; omega
        exact (X10.oth h.2.2.2.2.1.2.2.2.2.1.2 nR).2.2.1
      have kx : ∀ b, b ∈ L → s + 133 < b → nv M10 b = nv M b := fun b hb hb2 => by
        rw [((n10.nx hRs' S'.z9).num hF' hb (nT b hb2)).2.2, v0 b hb]
      rw [eR10, kx _ f.2.1 (by omega), kx _ f.2.2 (by omega)]
      exact hr j hj
    · have f := h.2.2.2.2.1.2.2.2.2.2 j (by omega)
      rw [FF.2.2.1, v0 _ f.2.1, v0 _ f.2.2]
      exact hr j hj
end NBT
end
section
/-! The class's Solver: choices are bettered. -/
section NBU
variable {G : mG} {d s g a R cn cc bc i k n c un x y mu B : Nat} {M M0 M' M1 M2 M3 : mM} {L : List Nat} {W : Nat → Nat}
def Cim (s x : Nat) : Prop := Ipk (s + 1) x ∨ x = s + 126
theorem Cim.so {R' : Nat} (h : Cim s x) : Cso s M R' n x := h.elim (fun u => Or.inl u) (fun u => Or.inr (Or.inl (Or.inr (Or.inr (Or.inr (Or.inr (Or.inr (Or.inr (Or.inr (Or.inl u))))))))))
/-- rows without small factors -/
def Rt1 (M : mM) (R n : Nat) : Prop := ∀ i, i < n → mI M (mR M R i) 2 = 1
/-- while choices are bettered -/
def imI (L : List Nat) (W : Nat → Nat) (s g a R k cn cc bc un : Nat) (M0 M : mM) : Prop := NX L W (Tpk (s + 1)) (Cim s) True (s + 1) M0 M ∧ Sva L W s g a R k cn cc bc M ∧ mR M R = mR M0 R ∧ (∀ x, Stb s x → x ≠ s + 126 → mI M x = mI M0 x) ∧ (Rsm M R cn 17 ∧ Rt1 M R cn) ∧ Unk M s cn un
theorem im_mk (h : Sva L W s g a R k cn cc bc M0) (hcn : cn ≤ k) (hr : Rsm M0 R cn 17 ∧ Rt1 M0 R cn) (q : NX L W (Tpk (s + 1)) (Cim s) True (s + 1) M0 M) (sk : SK L M (s + 1)) (hU : Unk M s cn un) : imI L W s g a R k cn cc bc un M0 M := by
  have hF := h.2.1.1
  have q' : NX L W (Tso s M0 R cn) (Cso s M0 R cn) True (s + 1) M0 M := q.mono hF (fun _ u => Or.inl u) (h.tl hcn) (fun x u => u.so) (h.cl hcn) (fun u => u)
  obtain ⟨e1, e2, e3⟩ := h.nx hcn q' sk
  have rv : ∀ i, i < cn → nv M (mR M0 R i + 1) = nv M0 (mR M0 R i + 1) ∧ nv M (mR M0 R i + 3) = nv M0 (mR M0 R i + 3) ∧ mI M (mR M0 R i) = mI M0 (mR M0 R i) := fun i hi => by
    have f := h.2.2.2.2.1.2.2.2.2.2 i (by omega)
    have ap := h.te.2.2.2.1 i (by omega)
    refine ⟨(q.num hF f.2.1 ap.1).2.2, (q.num hF f.2.2 ap.2.1).2.2, (q.frl hF f).2 (fun u => ?_)⟩
    have := h.2.2.2.2.2.1 i (by omega)
    unfold Cim Ipk at u
    omega
  refine ⟨q, e1, e3, fun x hx nx => ?_, ⟨fun i hi => ?_, fun i hi => ?_⟩, hU⟩
  · have ne : x ≠ s + 1 := by unfold Stb at hx; omega
    refine (q.oth (h.2.2.1 x hx) ne).2.2.2 (fun u => ?_)
    unfold Cim Ipk at u
    unfold Stb at hx
    omega
  · rw [e3, (rv i hi).1, (rv i hi).2.1]; exact hr.1 i hi
  · rw [e3, (rv i hi).2.2]; exact hr.2 i hi
theorem unk_same (h : Unk M s cn un) (e : ∀ x, Stb s x → x ≠ s + 126 → mI M' x = mI M x) (e6 : mI M' (s + 126) = mI M (s + 126)) : Unk M' s cn un := by
  unfold Unk Slo at h ⊢
  rw [e s (Or.inl rfl) (by omega), e (s + 124) (Or.inr (Or.inr (Or.inr (Or.inr (Or.inr (Or.inl rfl)))))) (by omega), e (s + 125) (Or.inr (Or.inr (Or.inr (Or.inr (Or.inr (Or.inr (Or.inl rfl))))))) (by omega), e (s + 122) (Or.inr (Or.inr (Or.inr (Or.inl rfl)))) (by omega), e (s + 123) (Or.inr (Or.inr (Or.inr (Or.inr (Or.inl rfl))))) (by omega), e6]
  exact h
theorem st122 : Stb s (s + 122) ∧ Stb s (s + 123) ∧ Stb s (s + 125) := ⟨Or.inr (Or.inr (Or.inr (Or.inl rfl))), Or.inr (Or.inr (Or.inr (Or.inr (Or.inl rfl)))), Or.inr (Or.inr (Or.inr (Or.inr (Or.inr (Or.inr (Or.inl rfl))))))⟩
theorem s_im5 {pl : Int} (hpl : i32 pl) (h0 : Sva L W s g a R k cn cc bc M0) (hcn : cn ≤ k) (hk : k ≤ 512) (hL : LHs M0 s cn cc) (hr : Rsm M0 R cn 17 ∧ Rt1 M0 R cn) (hW : ∀ x, Tpk (s + 1) x → B ≤ W x) (b1 : 300 ≤ B) (hB : B ≤ 16000) (u40 : un ≤ 40) : ∀ (t i : Nat) (bt : Int) (M : mM), un ≤ i + t → i ≤ un → (bt = 0 ∨ bt = 1) → imI L W s g a R k cn cc bc un M0 M → h_So_improve_5 G (d + 6) s pl a bt i M (fun x M' => (x = 0 ∨ x = 1) ∧ imI L W s g a R k cn cc bc un M0 M') := by
  intro t
  induction t with
  | zero =>
    intro i bt M h1 h2 hb hI
    have ei : i = un := by omega
    subst ei
    obtain ⟨-, ⟨⟨o, ⟨⟨s0, -⟩, -⟩, -⟩, -⟩, -, -, -, hU⟩ := id hI
    refine k_So_improve_5 o hpl (m_b32 hb) ⟨by omega, by omega⟩ ?_
    rw [hU.1]
    exact ⟨s0, fun _ => ⟨hb, hb, hI⟩, fun u => absurd (Int.le_refl _) u⟩
  | succ t ih =>
    intro i bt M h1 h2 hb hI
    by_cases ei : i = un
    · exact ih i bt M (by omega) h2 hb hI
    obtain ⟨hN, hS, eR, st, ⟨hrs, ht1⟩, hU⟩ := id hI
    obtain ⟨⟨o, ⟨⟨s0, gs⟩, ⟨r0, -, -, r3, -, r5, r6, -, r8, r9, -⟩, ⟨-, -, k5, k6, -, k8, k9, -⟩, ⟨-, -, n5, n6, -, n8, n9, -⟩⟩, ⟨g0, ⟨q2, -⟩, gk, ⟨m2, -⟩⟩, -, hT⟩, ⟨hF, hSK, hRs, hfw⟩, -, -, ⟨t1, t2, t3, t4, -, t7⟩, hrow, hD⟩ := id hS
    obtain ⟨hc1, hc2, hc3⟩ := hT.1
    obtain ⟨kst, c, lo, hi', e1, hkc, e4, e2, e3, l1, l2⟩ := hU.2.2.2 i (by omega)
    obtain ⟨lo', hi2, f1, f2, f3, f4⟩ := hL kst hkc
    rw [← st (s + 122) st122.1 (by omega)] at f1
    rw [← st (s + 123) st122.2.1 (by omega)] at f2
    have next : ∀ (bt' : Int) (M' : mM), (bt' = 0 ∨ bt' = 1) → imI L W s g a R k cn cc bc un M0 M' → h_So_improve_122 G (d + 6) s pl a bt' i M' (fun x M' => (x = 0 ∨ x = 1) ∧ imI L W s g a R k cn cc bc un M0 M') := fun bt' M' hb' hI' => by
      refine k_So_improve_122 hI'.2.1.1.1 hpl (m_b32 hb') ⟨by omega, by omega⟩ ?_
      rw [show ((i : Int) + 1) = ((i + 1 : Nat) : Int) by omega]
      exact ih (i + 1) bt' M' (by omega) (by omega) hb' hI'
    refine k_So_improve_5 o hpl (m_b32 hb) ⟨by omega, by omega⟩ ?_
    rw [hU.1, r8, n8, r3, q2, m2, r5, r6, n5, n6, r0, Int.toNat_natCast, e1, Int.toNat_natCast, e2, e3]
    refine ⟨s0, fun u => absurd u (by omega), fun _ => ⟨k8, ⟨by omega, by omega⟩, g0, gk 2 (by decide) (by decide), ⟨by omega, by omega⟩, fun _ => ⟨k6, ⟨by omega, by omega⟩, k5, ⟨by omega, by omega⟩, ⟨by omega, by omega⟩⟩, fun _ => next bt M hb hI, fun nn => ⟨k5, ⟨by omega, by omega⟩, k6, ⟨by omega, by omega⟩, fun v33 e33 => ⟨hSK.1.1, ?_⟩⟩⟩⟩
    have v01 : i32 v33 := by rw [e33]; split <;> exact ⟨by decide, by decide⟩
    refine (f_pick (d := d) (S := 17) (B := B) v01 (hS.te.pe hcn) hrs hW (by omega) hB (show lo < hi' by omega) (by omega) hc1 hc3 (fun c' _ hc' => hT.2.1 c' (by omega))).mono (fun x40 M39 q => ?_)
    obtain ⟨p1, p2, p3, p4, p5⟩ := q
    have x1 : NX L W (Tpk (s + 1)) (Cim s) True (s + 1) M M39 := (p1.nx hF).mono hF (fun _ u => u) hN.2.1.1 (fun x u => Or.inl u) (fun x u => hS.cl (n := cn) hcn x u.so) (fun u => u)
    have stb1 : ∀ x, Stb s x → mI M39 x = mI M x := fun x hx => by
      have ne : x ≠ s + 1 := by unfold Stb at hx; omega
      refine ((p1.nx hF).oth (hS.2.2.1 x hx) ne).2.2.2 (fun u => ?_)
      unfold Ipk at u
      unfold Stb at hx
      omega
    have N1 := hN.trans x1
    have U1 : Unk M39 s cn un := unk_same hU (fun x hx _ => stb1 x hx) (stb1 (s + 126) (Or.inr (Or.inr (Or.inr (Or.inr (Or.inr (Or.inr (Or.inr (Or.inl rfl)))))))))
    have I1 := im_mk h0 hcn hr N1 p2 U1
    obtain ⟨-, hS1, eR1, -, ⟨hrs1, ht11⟩, -⟩ := id I1
    obtain ⟨⟨o1, ⟨⟨s01, -⟩, ⟨r01, -⟩, -⟩, -⟩, ⟨hF1, -, -, -⟩, -, -, ⟨t11, t21, t31, t41, -, t71⟩, hrow1, -⟩ := id hS1
    have fr := t71 kst (by omega)
    have ap := hS1.te.2.2.2.1 kst (by omega)
    obtain ⟨i9, -, -⟩ := p2.bt
    have fw := p2.frl i9
    have ob : Osz M39 (mR M39 (s + 1) 9) 139 := ⟨hF1.szv fw.2.1 p3.2.1, hF1.szv fw.2.2 (Int.lt_of_lt_of_le p3.1.2 (p30m (by decide))), p3.2.2.1.1, by have := p3.2.2.1.2; omega⟩
    have orw : Osz M39 (mR M39 R kst) 139 := by
      have sm := hrs1 kst hkc
      have a1 := hF1.szv fr.2.1 sm.2.2
      have a2 := hF1.szv fr.2.2 sm.2.1
      have a3 := ht11 kst hkc
      exact ⟨by omega, by omega, by omega, by omega⟩
    rw [t21, t41, r01]
    refine ⟨⟨by omega, by omega⟩, o1, s01, t11, t31, ⟨by omega, by omega⟩, p2.1.1, (f_orderOfPicked (d := d) o1 hF1 p2 fr ob orw ⟨fun u => ap.1 (Or.inr (Or.inl u)), fun u => ap.2.1 (Or.inr (Or.inl u))⟩ (by have := hW _ (Or.inr (Or.inl (Or.inl rfl))); omega) (by have := hW _ (Or.inr (Or.inl (Or.inr rfl))); omega)).mono (fun x48 M47 q => ?_)⟩
    obtain ⟨n2, xx⟩ := q
    have x2 : NX L W (Tpk (s + 1)) (Cim s) True (s + 1) M39 M47 := (n2.nx hF1).mono hF1 (fun _ u => Or.inr (Or.inl u)) hN.2.1.1 (fun _ u => u.elim) (fun x u => hS1.cl (n := cn) hcn x u.so) (fun u => u.elim)
    have sk2 := n2.sk hF1 p2
    have stb2 : ∀ x, Stb s x → mI M47 x = mI M39 x := fun x hx => by
      have ne : x ≠ s + 1 := by unfold Stb at hx; omega
      exact ((n2.nx hF1).oth (hS1.2.2.1 x hx) ne).2.2.2 (fun u => u)
    have N2 := N1.trans x2
    have U2 : Unk M47 s cn un := unk_same U1 (fun x hx _ => stb2 x hx) (stb2 (s + 126) (Or.inr (Or.inr (Or.inr (Or.inr (Or.inr (Or.inr (Or.inr (Or.inl rfl)))))))))
    have I2 := im_mk h0 hcn hr N2 sk2 U2
    obtain ⟨-, hS2, -, st2, -, -⟩ := id I2
    obtain ⟨⟨o2, ⟨⟨s02, -⟩, ⟨-, -, -, -, -, -, -, -, -, r92, -⟩, ⟨-, -, -, -, -, -, k92, -⟩, ⟨-, -, -, -, -, -, n92, -⟩⟩, -⟩, ⟨hF2, -⟩, hSt2, -⟩ := id hS2
    rw [r92, n92]
    refine ⟨by rcases xx with e | e | e <;> rw [e] <;> exact ⟨by decide, by decide⟩, o2, fun _ => next bt M47 hb I2, fun _ => ⟨s02, k92, ⟨by omega, by omega⟩, fun M58 e58 => ?_⟩⟩
    have f58 : FI (fun z => z = s + 126) M47 M58 := by rw [e58]; exact FI.ui rfl
    have o58 : mOk M58 := by rw [e58]; exact mOk_UI o2 ⟨by omega, by omega⟩
    obtain ⟨x3, -⟩ := f58.nx (T := Tpk (s + 1)) (r := False) (z := s + 1) o58 hF2 hN.2.1.1 (fun x u => by rw [u]; exact hSt2 _ (Or.inr (Or.inr (Or.inr (Or.inr (Or.inr (Or.inr (Or.inr (Or.inl rfl))))))))) hS2.z9
    have x3' : NX L W (Tpk (s + 1)) (Cim s) True (s + 1) M47 M58 := x3.mono hF2 (fun _ u => u) hN.2.1.1 (fun _ u => Or.inr u) (fun x u => hS2.cl (n := cn) hcn x u.so) (fun u => u.elim)
    refine next 1 M58 (Or.inr rfl) (im_mk h0 hcn hr (N2.trans x3') (x3.sk hF2 sk2) ?_)
    have kp : ∀ {x : Nat}, x ≠ s + 126 → mI M58 x = mI M47 x := fun hx => f58.2.2.2.2.2.2 _ hx
    obtain ⟨w1, w2, w3, w4⟩ := U2
    refine ⟨by rw [kp (by omega)]; exact w1, w2, fun j hj => by rw [kp (show s + 124 ≠ s + 126 by omega)]; exact w3 j hj, fun j hj => ?_⟩
    rw [kp (show s + 125 ≠ s + 126 by omega), kp (show s + 122 ≠ s + 126 by omega), kp (show s + 123 ≠ s + 126 by omega), mI_ui _ j e58]
    by_cases cj : j = i
    · rw [if_pos ⟨rfl, cj⟩, cj]
      refine ⟨kst, x40.toNat, lo, hi', ?_, hkc, by omega, ?_, ?_, by omega, by omega⟩
      · rw [stb2 (s + 125) st122.2.2, stb1 (s + 125) st122.2.2]; exact e1
      · rw [stb2 (s + 122) st122.1, stb1 (s + 122) st122.1]; exact e2
      · rw [stb2 (s + 123) st122.2.1, stb1 (s + 123) st122.2.1]; exact e3
    · rw [if_neg (fun u => cj u.2)]
      exact w4 j hj
theorem s_So_improve {pl : Int} (hpl : i32 pl) (h0 : Sva L W s g a R k cn cc bc M) (hcn : cn ≤ k) (hk : k ≤ 512) (hL : LHs M s cn cc) (hU : Unk M s cn un) (hr : Rsm M R cn 17 ∧ Rt1 M R cn) (hW : ∀ x, Tpk (s + 1) x → B ≤ W x) (b1 : 300 ≤ B) (hB : B ≤ 16000) : Ci G y_So_improve (d + 7) [vr s, vi pl, vr a] M (fun x M' => (x = 0 ∨ x = 1) ∧ imI L W s g a R k cn cc bc un M M') := by
  have hF := h0.2.1.1
  refine k_So_improve h0.1.1 hpl ?_
  exact s_im5 hpl h0 hcn hk hL hr hW b1 hB hU.2.1 un 0 0 M (by omega) (by omega) (Or.inl rfl) (im_mk h0 hcn hr (NX.refl h0.1.1 hF h0.2.1.2.1.tpk (fun x u => h0.cl (n := cn) hcn x u.so) h0.z9) h0.2.1.2.1 hU)
end NBU
end
