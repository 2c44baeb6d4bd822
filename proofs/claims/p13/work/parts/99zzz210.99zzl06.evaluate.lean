/-! The class's Solver: equations are written. -/
section NBS
variable {G : mG} {d s g a cn cc bc i k n c un x y mu : Nat} {M M0 M' M1 M2 M3 : mM}
/-- a row while its branches are read: they sum up to w -/
def evR (M : mM) (s i : Nat) (mu w : Int) : Prop := (∀ j, j < 40 → -w ≤ mI M (s + 32) (i * 41 + j) ∧ mI M (s + 32) (i * 41 + j) ≤ mu) ∧ 0 ≤ mI M (s + 32) (i * 41 + 40) ∧ mI M (s + 32) (i * 41 + 40) ≤ w
theorem ev_up {j : Nat} {v w w' m : Int} (h : evR M s i m w) (e : M' = mUI M (s + 32) (i * 41 + j) v) (ww : w ≤ w') (hj : j ≤ 40) (hv : (j < 40 → -w' ≤ v ∧ v ≤ m) ∧ (j = 40 → 0 ≤ v ∧ v ≤ w')) : evR M' s i m w' := by
  obtain ⟨h1, h2, h3⟩ := h
  refine ⟨fun j' hj' => ?_, ?_⟩
  · rw [mI_ui _ _ e]
    by_cases c : j' = j
    · rw [if_pos ⟨rfl, by omega⟩]
      exact hv.1 (by omega)
    · rw [if_neg (fun u => c (by omega))]
      have := h1 j' hj'
      omega
  · rw [mI_ui _ _ e]
    by_cases c : j = 40
    · rw [if_pos ⟨rfl, by omega⟩]
      exact hv.2 c
    · rw [if_neg (fun u => c (by omega))]
      omega
theorem wsm_mono {m : Nat} : ∀ {q : Nat}, m ≤ q → (∀ j, x ≤ j → j < x + q → 1 ≤ mI M (g + 9) j) → wsm M g x m ≤ wsm M g x q
  | 0, h, _ => by rw [show m = 0 by omega]; exact Int.le_refl _
  | q + 1, h, hp => by
    by_cases c : m = q + 1
    · rw [c]; exact Int.le_refl _
    · have h1 := wsm_mono (m := m) (q := q) (by omega) (fun j a b => hp j a (by omega))
      have h2 := hp (x + q) (by omega) (by omega)
      have h3 : wsm M g x (q + 1) = wsm M g x q + mI M (g + 9) (x + q) := rfl
      omega
theorem s_ev86 {l2 : Int} {Q : mM → Prop} (hg : SG M s g cn cc bc) (hR : Rk M (s + 31)) (hS : Slo M s un) (u40 : un ≤ 40) (hi : i < 40) (hl2 : i32 l2) (hc : c < cc) (e7 : mI M (g + 7) (c + 1) = ((y : Nat) : Int)) (hxy : x ≤ y ∧ y ≤ bc) (hbr : ∀ j, x ≤ j → j < y → 0 ≤ mI M (g + 8) j ∧ mI M (g + 8) j < cn ∧ 1 ≤ mI M (g + 9) j) (hw : wsm M g x (y - x) = ((mu : Nat) : Int)) (hmu : mu < 1000000000)
    (hQ : ∀ M', mOk M' → FI (fun z => z = s + 32) M M' → (∀ j, (j < i * 41 ∨ i * 41 + 41 ≤ j) → mI M' (s + 32) j = mI M (s + 32) j) → evR M' s i mu mu → h_So_evaluate_15 G d s a l2 ((i : Int) + 1) M' Q) : ∀ (t b : Nat) (M1 : mM), y ≤ b + t → x ≤ b → b ≤ y → mOk M1 → FI (fun z => z = s + 32) M M1 → (∀ j, (j < i * 41 ∨ i * 41 + 41 ≤ j) → mI M1 (s + 32) j = mI M (s + 32) j) → evR M1 s i mu (wsm M g x (b - x)) → h_So_evaluate_86 G d s a l2 i ((i : Int) * 41) c b M1 Q := by
  have gs := hg.2.1.1.2
  intro t
  induction t with
  | zero =>
    intro b M1 h1 h2 h3 o F oth ev
    have eb : b = y := by omega
    subst eb
    rw [hw] at ev
    have nS : ∀ i, i ≤ 9 → ¬ (fun z => z = s + 32) (g + i) := fun i hi u => by have u' : g + i = s + 32 := u; omega
    obtain ⟨-, ⟨⟨s0, -⟩, ⟨-, -, -, r3, -⟩, -⟩, ⟨g0, ⟨-, -, -, q7, -⟩, gk, ⟨-, -, -, m7, -⟩⟩, -, hT⟩ := hg.fi F o nS
    obtain ⟨hc1, hc2, hc3⟩ := hT.1
    refine k_So_evaluate_86 o hl2 ⟨by omega, by omega⟩ ⟨by omega, by omega⟩ ⟨by omega, by omega⟩ ⟨by omega, by omega⟩ ?_
    rw [r3, q7, m7, show Int.toNat ((c : Int) + 1) = c + 1 by omega, F.2.2.2.2.2.2 (g + 7) (nS 7 (by decide)), e7]
    exact ⟨s0, g0, gk 7 (by decide) (by decide), ⟨by omega, by omega⟩, fun _ => hQ M1 o F oth ev, fun u => absurd (Int.le_refl _) u⟩
  | succ t ih =>
    intro b M1 h1 h2 h3 o F oth ev
    by_cases eb : b = y
    · exact ih b M1 (by omega) h2 h3 o F oth ev
    have nS : ∀ i, i ≤ 9 → ¬ (fun z => z = s + 32) (g + i) := fun i hi u => by have u' : g + i = s + 32 := u; omega
    obtain ⟨-, ⟨⟨s0, -⟩, ⟨-, -, -, r3, r4, -, -, r7, -⟩, ⟨-, -, -, -, k7, -⟩, ⟨-, -, -, -, n7, -⟩⟩, ⟨g0, ⟨q2, -, -, q7, q8, q9⟩, gk, ⟨m2, -, -, m7, m8, m9⟩⟩, -, hT⟩ := hg.fi F o nS
    obtain ⟨e0, ⟨re, -⟩, ⟨ke, -⟩, ⟨ne, -⟩⟩ := hR.fi F
    have re' : mR M1 (s + 31) 0 = s + 32 := re
    have ke' : mK M1 (s + 32) = 30 := ke
    have ne' : mN M1 (s + 32) = 1640 := ne
    obtain ⟨hc1, hc2, hc3⟩ := hT.1
    obtain ⟨b1, b2, b3⟩ := hbr b h2 (by omega)
    obtain ⟨to, eto⟩ : ∃ to : Nat, mI M (g + 8) b = ((to : Nat) : Int) := ⟨(mI M (g + 8) b).toNat, by omega⟩
    have i124 : mI M1 (s + 124) = mI M (s + 124) := F.2.2.2.2.2.2 _ (show ¬ s + 124 = s + 32 by omega)
    have sl := hS to (by omega)
    have wpos : ∀ j, x ≤ j → j < x + (y - x) → 1 ≤ mI M (g + 9) j := fun j p q => (hbr j p (by omega)).2.2
    have wb := wsm_le (M := M) (g := g) (x := x) (n := y - x) wpos (y - x) (Nat.le_refl _) b h2 (by omega)
    rw [hw] at wb
    have wb1 : wsm M g x (b + 1 - x) = wsm M g x (b - x) + mI M (g + 9) b := by
      rw [show b + 1 - x = (b - x) + 1 by omega]
      show wsm M g x (b - x) + mI M (g + 9) (x + (b - x)) = _
      rw [show x + (b - x) = b by omega]
    have w0 : 0 ≤ wsm M g x (b - x) := wg_ws (fun j p q => (hbr j p (by omega)).2.2)
    have wle : wsm M g x (b - x) + mI M (g + 9) b ≤ ((mu : Nat) : Int) := by
      rw [← wb1, ← hw]
      exact wsm_mono (by omega) wpos
    refine k_So_evaluate_86 o hl2 ⟨by omega, by omega⟩ ⟨by omega, by omega⟩ ⟨by omega, by omega⟩ ⟨by omega, by omega⟩ ?_
    rw [r3, q7, m7, show Int.toNat ((c : Int) + 1) = c + 1 by omega, F.2.2.2.2.2.2 (g + 7) (nS 7 (by decide)), e7, q8, m8, r7, n7, q2, m2, r4, re', ne', q9, m9, Int.toNat_natCast, F.2.2.2.2.2.2 (g + 8) (nS 8 (by decide)), eto, Int.toNat_natCast, F.2.2.2.2.2.2 (g + 2) (nS 2 (by decide)), F.2.2.2.2.2.2 (g + 9) (nS 9 (by decide)), i124, show ((i : Int) * 41 + 40) = ((i * 41 + 40 : Nat) : Int) by omega, Int.toNat_natCast, show ((b : Int) + 1) = ((b + 1 : Nat) : Int) by omega]
    have e40 := ev.2
    refine ⟨s0, g0, gk 7 (by decide) (by decide), ⟨by omega, by omega⟩, fun u => absurd u (by omega), fun _ => ⟨gk 8 (by decide) (by decide), ⟨by omega, by omega⟩, k7, ⟨by omega, by omega⟩, ⟨fun _ => ⟨gk 2 (by decide) (by decide), ⟨by omega, by omega⟩, fun _ => ⟨e0, ke', ⟨by omega, by omega⟩, gk 9 (by decide) (by decide), ⟨by omega, by omega⟩, ⟨by omega, by omega⟩, ⟨by omega, by omega⟩⟩⟩, fun ns => ?_⟩, fun M63 e63 => ?_⟩⟩
    · have sl' := sl.resolve_left ns
      obtain ⟨j, ej⟩ : ∃ j : Nat, mI M (s + 124) to = ((j : Nat) : Int) := ⟨(mI M (s + 124) to).toNat, by omega⟩
      rw [ej, show ((i : Int) * 41 + ((j : Nat) : Int)) = ((i * 41 + j : Nat) : Int) by omega, Int.toNat_natCast]
      have evj := ev.1 j (by omega)
      exact ⟨e0, ⟨by omega, by omega⟩, ke', ⟨by omega, by omega⟩, gk 9 (by decide) (by decide), ⟨by omega, by omega⟩, ⟨by omega, by omega⟩, ⟨by omega, by omega⟩⟩
    · by_cases c1 : mI M (s + 124) to = -1
      · rw [if_pos c1] at e63
        by_cases c2 : mI M (g + 2) to = 3
        · rw [if_pos c2] at e63
          have f63 : FI (fun z => z = s + 32) M1 M63 := by rw [e63]; exact FI.ui rfl
          have o63 : mOk M63 := by rw [e63]; exact mOk_UI o ⟨by omega, by omega⟩
          exact ⟨o63, ih (b + 1) M63 (by omega) (by omega) (by omega) o63 (F.trans f63) (fun j hj => by rw [mI_ui _ j e63, if_neg (fun u => by omega)]; exact oth j hj) (by rw [wb1]; exact ev_up ev e63 (by omega) (Nat.le_refl _) ⟨fun u => absurd u (by decide), fun _ => ⟨by omega, by omega⟩⟩)⟩
        · rw [if_neg c2] at e63
          rw [e63]
          refine ⟨o, ih (b + 1) M1 (by omega) (by omega) (by omega) o F oth ?_⟩
          rw [wb1]
          exact ⟨fun j hj => by have := ev.1 j hj; omega, by omega, by omega⟩
      · rw [if_neg c1] at e63
        have sl' := sl.resolve_left c1
        obtain ⟨j, ej⟩ : ∃ j : Nat, mI M (s + 124) to = ((j : Nat) : Int) := ⟨(mI M (s + 124) to).toNat, by omega⟩
        rw [ej, show ((i : Int) * 41 + ((j : Nat) : Int)) = ((i * 41 + j : Nat) : Int) by omega, Int.toNat_natCast] at e63
        have evj := ev.1 j (by omega)
        have f63 : FI (fun z => z = s + 32) M1 M63 := by rw [e63]; exact FI.ui rfl
        have o63 : mOk M63 := by rw [e63]; exact mOk_UI o ⟨by omega, by omega⟩
        exact ⟨o63, ih (b + 1) M63 (by omega) (by omega) (by omega) o63 (F.trans f63) (fun j' hj => by rw [mI_ui _ j' e63, if_neg (fun u => by omega)]; exact oth j' hj) (by rw [wb1]; exact ev_up ev e63 (by omega) (by omega) ⟨fun _ => ⟨by omega, by omega⟩, fun u => absurd u (by omega)⟩)⟩
/-- the equations, row by row -/
theorem s_ev15 {wt : Nat → Nat} {Q : mM → Prop} (hg : SG M s g cn cc bc) (hR : Rk M (s + 31)) (hL : LHs M s cn cc) (hU : Unk M s cn un) (hwt : ∀ i, i < un → wtO M s g i (wt i) ∧ wt i ≤ 33)
    (hQ : ∀ (M' : mM) (bits : Nat), mOk M' → FI (fun z => z = s + 32) M M' → Ent9 M' (s + 31) 1640 → bits ≤ wsu wt un → mK M' (mR M' s 4) = 12 ∧ Cv G y_Re_settle d [vr (mR M' s 4), vi (mI M' s 10), vi bits] M' (fun M10 => mOk M10 ∧ (h_So_evaluate_226 G d s a 0 M10 Q))) : ∀ (t i bits : Nat) (M1 : mM), un ≤ i + t → i ≤ un → mOk M1 → FI (fun z => z = s + 32) M M1 → Ent9 M1 (s + 31) 1640 → (∀ j, i * 41 ≤ j → j < 1640 → mI M1 (s + 32) j = 0) → bits ≤ wsu wt i → wsu wt i ≤ 33 * i → h_So_evaluate_15 G d s a bits i M1 Q := by
  have gs := hg.2.1.1.2
  have nS : ∀ i, i ≤ 9 → ¬ (fun z => z = s + 32) (g + i) := fun i hi u => by have u' : g + i = s + 32 := u; omega
  obtain ⟨u1, u2, u3, u4⟩ := id hU
  intro t
  induction t with
  | zero =>
    intro i bits M1 h1 h2 o F en z hb hb2
    have ei : i = un := by omega
    subst ei
    obtain ⟨-, ⟨⟨s0, -⟩, -⟩, -⟩ := hg.fi F o nS
    have i10 : mI M1 s 10 = ((i : Nat) : Int) := by rw [F.2.2.2.2.2.2 s (show ¬ s = s + 32 by omega)]; exact u1
    have q := hQ M1 bits o F en hb
    rw [i10] at q
    refine k_So_evaluate_15 o ⟨by omega, by omega⟩ ⟨by omega, by omega⟩ ?_
    rw [i10]
    exact ⟨s0, fun _ => q, fun u => absurd (Int.le_refl _) u⟩
  | succ t ih =>
    intro i bits M1 h1 h2 o F en z hb hb2
    by_cases ei : i = un
    · exact ih i bits M1 (by omega) h2 o F en z hb hb2
    have hi : i < un := by omega
    have hg1 := hg.fi F o nS
    obtain ⟨-, ⟨⟨s0, -⟩, ⟨-, -, -, r3, r4, -, -, -, -, r9, -⟩, ⟨-, -, -, -, -, -, k9, -⟩, ⟨-, -, -, -, -, -, n9, -⟩⟩, ⟨g0, ⟨-, -, q6, q7, -, -⟩, gk, ⟨-, -, m6, m7, -, -⟩⟩, -, hT⟩ := id hg1
    obtain ⟨hc1, hc2, hc3⟩ := hT.1
    have hR1 := hR.fi F
    obtain ⟨e0, ⟨re, -⟩, ⟨ke, -⟩, ⟨ne, -⟩⟩ := id hR1
    have re' : mR M1 (s + 31) 0 = s + 32 := re
    have ke' : mK M1 (s + 32) = 30 := ke
    have ne' : mN M1 (s + 32) = 1640 := ne
    obtain ⟨kst, c, lo, hi', e1, hk, e4, e2, e3, l1, l2⟩ := u4 i hi
    obtain ⟨lo', hi2, f1, f2, f3, f4⟩ := hL kst hk
    have cc' : c < cc := by omega
    obtain ⟨x, y, mu, v1, v2, ⟨v3, v3'⟩, v4, v5, v6, v7, v8, v9, -⟩ := hT.2.1 c cc'
    have i10 : mI M1 s 10 = ((un : Nat) : Int) := by rw [F.2.2.2.2.2.2 s (show ¬ s = s + 32 by omega)]; exact u1
    have i9 : mI M1 (s + 126) i = ((c : Nat) : Int) := by rw [F.2.2.2.2.2.2 (s + 126) (show ¬ s + 126 = s + 32 by omega)]; exact e4
    have mw : ((mu : Nat) : Int) < 2 ^ (wt i) := by
      have := (hwt i hi).1 kst lo hi' c e1 e2 e3 l1 l2
      rw [← F.2.2.2.2.2.2 (g + 6) (nS 6 (by decide)), v6] at this
      exact this
    refine k_So_evaluate_15 o ⟨by omega, by omega⟩ ⟨by omega, by omega⟩ ?_
    rw [i10, r9, n9, r3, q6, m6, r4, re', ne', Int.toNat_natCast, i9, Int.toNat_natCast, v6, show ((i : Int) * 41 + (i : Int)) = ((i * 41 + i : Nat) : Int) by omega, Int.toNat_natCast]
    refine ⟨s0, fun u => absurd u (by omega), fun _ => ⟨k9, ⟨by omega, by omega⟩, g0, gk 6 (by decide) (by decide), ⟨by omega, by omega⟩, e0, ke', ⟨by omega, by omega⟩, fun M21 e21 => ?_⟩⟩
    have f21 : FI (fun z => z = s + 32) M1 M21 := by rw [e21]; exact FI.ui rfl
    have o21 : mOk M21 := by rw [e21]; exact mOk_UI o ⟨by omega, by omega⟩
    have hg21 := hg1.fi f21 o21 nS
    refine (s_nlz (d := d) (show (0 : Int) < ((mu : Nat) : Int) by omega) ⟨by omega, by omega⟩ o21).mono (fun x24 M23 q => ?_)
    obtain ⟨e23, kk, ek, k31, p1, p2⟩ := q
    have w32 : 32 - kk ≤ wt i := by
      have : 31 - kk < wt i := p2l (Int.lt_of_le_of_lt p1 mw)
      omega
    have b7 : mI M21 (g + 7) c = ((x : Nat) : Int) := by rw [f21.2.2.2.2.2.2 (g + 7) (nS 7 (by decide))]; exact v1
    rw [e23, ek, f21.1, f21.2.1, f21.2.2.1, r3, q7, m7, b7]
    refine ⟨⟨by omega, by omega⟩, o21, s0, g0, gk 7 (by decide) (by decide), ⟨by omega, by omega⟩, ?_⟩
    rw [show ((bits : Nat) : Int) + (32 - ((kk : Nat) : Int)) = ((bits + (32 - kk) : Nat) : Int) by omega]
    have wt33 := (hwt i hi).2
    have g8 : mI M21 (g + 8) = mI M1 (g + 8) := f21.2.2.2.2.2.2 (g + 8) (nS 8 (by decide))
    have g9 : mI M21 (g + 9) = mI M1 (g + 9) := f21.2.2.2.2.2.2 (g + 9) (nS 9 (by decide))
    refine s_ev86 (M := M21) (mu := mu) (x := x) (y := y) (un := un) (a := a) hg21 (hR1.fi f21) (fun j hj => by rw [f21.2.2.2.2.2.2 (s + 124) (show ¬ s + 124 = s + 32 by omega), F.2.2.2.2.2.2 (s + 124) (show ¬ s + 124 = s + 32 by omega)]; exact u3 j hj) u2 (by omega) ⟨by omega, by omega⟩ cc' (by rw [f21.2.2.2.2.2.2 (g + 7) (nS 7 (by decide))]; exact v2) ⟨by omega, v4⟩ (fun j p q => by rw [g8, g9]; exact v5 j p q) (by rw [wsm_cg (M := M1) _ (fun j _ _ => by rw [g9])]; exact v9) v8 (fun M' o' F' oth ev => ?_) (y - x) x M21 (by omega) (Nat.le_refl _) (by omega) o21 FI.refl (fun _ _ => rfl) ?_
    · rw [show ((i : Int) + 1) = ((i + 1 : Nat) : Int) by omega]
      refine ih (i + 1) (bits + (32 - kk)) M' (by omega) (by omega) o' ((F.trans f21).trans F') (fun j hj => ?_) (fun j hj1 hj2 => ?_) ?_ ?_
      · by_cases cj : j < i * 41 ∨ i * 41 + 41 ≤ j
        · show -1000000000 ≤ mI M' (s + 32) j ∧ mI M' (s + 32) j ≤ 1000000000
          rw [oth j cj, mI_ui _ j e21, if_neg (fun u => by omega)]
          exact en j hj
        · obtain ⟨j', ej⟩ : ∃ j', j = i * 41 + j' ∧ j' ≤ 40 := ⟨j - i * 41, by omega, by omega⟩
          show -1000000000 ≤ mI M' (s + 32) j ∧ mI M' (s + 32) j ≤ 1000000000
          rw [ej.1]
          by_cases c40 : j' = 40
          · rw [c40]; have := ev.2; omega
          · have := ev.1 j' (by omega); omega
      · rw [oth j (Or.inr (by omega)), mI_ui _ j e21, if_neg (fun u => by omega)]
        exact z j (by omega) hj2
      · show bits + (32 - kk) ≤ wsu wt i + wt i
        omega
      · show wsu wt i + wt i ≤ 33 * (i + 1)
        omega
    · rw [Nat.sub_self]
      show evR M21 s i mu 0
      refine ⟨fun j hj => ?_, ?_⟩
      · rw [mI_ui _ _ e21]
        by_cases cj : j = i
        · rw [if_pos ⟨rfl, by omega⟩]; omega
        · rw [if_neg (fun u => by omega), z _ (by omega) (by omega)]; omega
      · rw [mI_ui _ _ e21, if_neg (fun u => by omega), z _ (by omega) (by omega)]
        omega
end NBS
