/-! The class's reader of texts: var. -/
section TRE
variable {G : mG} {d z q w T A B D N C n p O P K Ab Be Cm V F c s s' L L' cnt Bn a d0 V1 F1 nw k : Nat} {M0 M M' M1 M2 : mM} {ns ns' ns1 : Nat → Int} {sf ef sf' ef' : Nat → Nat} {H : Nat → Nat} {S R : Nat → Prop}
/-- the item's rule k, below s' -/
def rvR (M : mM) (q O P F : Nat) (ns : Nat → Int) (L s' k : Nat) : Prop := ∃ s e H, mI M (q + 21) k = ((s : Nat) : Int) ∧ Cod M O P 0 F (nsc ns) s e H 1 ∧ L ≤ s ∧ e < s'
theorem rvR.cg {s1 s2 : Nat} (h : rvR M q O P F ns L s1 k) (h1 : mI M' (q + 21) k = mI M (q + 21) k) (hO : ∀ i, i < s1 → mI M' O i = mI M O i ∧ mI M' P i = mI M P i) (hs : s1 ≤ s2) : rvR M' q O P F ns L s2 k := by
  obtain ⟨s, e, H, a1, a2, a3, a4⟩ := h
  exact ⟨s, e, H, by rw [h1]; exact a1, a2.cg (fun i hi => (hO i (by omega)).1) (fun i hi => (hO i (by omega)).2), a3, by omega⟩
/-- what the item has so far -/
def vrS (M : mM) (q A n p L s a nw V : Nat) : Prop := mI M p 2 = ((s : Nat) : Int) ∧ L ≤ s ∧ s ≤ a ∧ mI M (q + 1) 2 = ((a : Nat) : Int) ∧ a ≤ n ∧ mI M (q + 1) 5 = 0 ∧ mI M q 3 = ((nw : Nat) : Int) ∧ nw < n ∧ mI M A nw = 2 ∧ mI M q 4 = ((L : Nat) : Int) ∧ (mI M q 8 = 0 ∨ mI M q 8 = 1) ∧ (12 ≤ V → mI M (q + 1) 3 ≠ 0)
def vaQ (M0 : mM) (z q w T A B D N C n p O P K Ab Be Cm V F : Nat) (ns : Nat → Int) (sf ef : Nat → Nat) (c cnt L : Nat) (x : Int) (M' : mM) : Prop := FI (txS q p O P) M0 M' ∧ ((x = 0 ∧ nstQ z q w T A B D N C n p O P K Ab Be Cm V F ns sf ef c cnt L M') ∨ (x = 1 ∧ TX M' z q w T A B D N C n p O P K Ab Be Cm V F ns sf ef c cnt L ∧ ∃ s a nw : Nat, vrS M' q A n p L s a nw V ∧ (mI M' q 8 = 0 → rvR M' q O P F ns L s 0 ∧ rvR M' q O P F ns L s 1) ∧ (mI M' q 7 ≠ 0 → rvR M' q O P F ns L s 2)))
/-- the last word of a var -/
theorem s_rv35 (f0 : FI (txS q p O P) M0 M) (h : TX M z q w T A B D N C n p O P K Ab Be Cm V F ns sf ef c cnt L) (hs : mI M p 2 = ((s : Nat) : Int)) (hLs : L ≤ s) (hsa : s ≤ a + 1) (ha : mI M (q + 1) 2 = ((a : Nat) : Int)) (han : a ≤ n) (hd : mI M (q + 1) 5 = 0) (hn : mI M q 3 = ((nw : Nat) : Int) ∧ nw < n ∧ mI M A nw = 2 ∧ mI M q 4 = ((L : Nat) : Int) ∧ (mI M q 8 = 0 ∨ mI M q 8 = 1) ∧ (12 ≤ V → mI M (q + 1) 3 ≠ 0)) (h8 : mI M q 8 = 0 → rvR M q O P F ns L s 0 ∧ rvR M q O P F ns L s 1) (h7 : mI M q 7 ≠ 0 → rvR M q O P F ns L s 2) : Ci G y_RR_accept d [vr (q + 1), vi 35] M (fun x69 M68 => i32 x69 ∧ mOk M68 ∧ ((x69 = 0 ∨ x69 = 1) ∧ vaQ M0 z q w T A B D N C n p O P K Ab Be Cm V F ns sf ef c cnt L x69 M68)) := by
  have ap := h.1.apart
  have qp := h.1.2.2.2.2.2.1.2.1
  refine (s_tx_accept (i32s (by omega) (by omega)) (by omega) h ha han).mono (fun x M' k => ?_)
  obtain ⟨i1, o1, hx, h1, x1, k1, r1, b1⟩ := k
  refine ⟨i1, o1, hx, ?_⟩
  rcases k1 with ⟨e1, -, a1, an1⟩ | ⟨e1, e2⟩
  · obtain ⟨n1, n2, n3, n4, n5, n6⟩ := hn
    refine ⟨f0.trans x1.1, Or.inr ⟨e1, h1, s, a + 1, nw, ⟨by rw [b1 p (by omega)]; exact hs, hLs, by omega, a1, by omega, by rw [r1 5 (by decide)]; exact hd, by rw [b1 q (by omega)]; exact n1, n2, by rw [(h.1.words x1.1).1]; exact n3, by rw [b1 q (by omega)]; exact n4, by rw [b1 q (by omega)]; exact n5, fun y => by rw [r1 3 (by decide)]; exact n6 y⟩, fun y => ?_, fun y => ?_⟩⟩
    · rw [b1 q (by omega)] at y
      obtain ⟨u1, u2⟩ := h8 y
      exact ⟨u1.cg (by rw [b1 _ (by omega)]) (fun i _ => ⟨by rw [b1 O (by omega)], by rw [b1 P (by omega)]⟩) (Nat.le_refl _), u2.cg (by rw [b1 _ (by omega)]) (fun i _ => ⟨by rw [b1 O (by omega)], by rw [b1 P (by omega)]⟩) (Nat.le_refl _)⟩
    · rw [b1 q (by omega)] at y
      exact (h7 y).cg (by rw [b1 _ (by omega)]) (fun i _ => ⟨by rw [b1 O (by omega)], by rw [b1 P (by omega)]⟩) (Nat.le_refl _)
  · rw [e2]
    exact ⟨f0, Or.inl ⟨e1, h, a, ha, han⟩⟩
/-- the tail of a var: its init -/
theorem s_rv10 (f0 : FI (txS q p O P) M0 M) (h : TX M z q w T A B D N C n p O P K Ab Be Cm V F ns sf ef c cnt L) (hs : mI M p 2 = ((s : Nat) : Int)) (hLs : L ≤ s) (hsa : s ≤ a + 1) (ha : mI M (q + 1) 2 = ((a : Nat) : Int)) (han : a ≤ n) (hd : mI M (q + 1) 5 = 0) (hr6 : mI M (q + 1) 6 ≠ 0) (hn : mI M q 3 = ((nw : Nat) : Int) ∧ nw < n ∧ mI M A nw = 2 ∧ mI M q 4 = ((L : Nat) : Int) ∧ (mI M q 8 = 0 ∨ mI M q 8 = 1) ∧ (12 ≤ V → mI M (q + 1) 3 ≠ 0)) (h8 : mI M q 8 = 0 → rvR M q O P F ns L s 0 ∧ rvR M q O P F ns L s 1) : Ci G y_RR_accept (d + 5) [vr (q + 1), vi 10] M (fun x59 M58 => i32 x59 ∧ mOk M58 ∧ (mK M58 q = 3 ∧ (x59 = 0 ∨ x59 = 1) ∧ ∀ M63, M63 = mUI M58 q 7 x59 → ((mI M63 q 7 = 0) → (mK M63 (mR M63 q 0) = 4 ∧ Ci G y_RR_accept (d + 5) [vr (mR M63 q 0), vi 35] M63 (fun x69 M68 => i32 x69 ∧ mOk M68 ∧ ((x69 = 0 ∨ x69 = 1) ∧ vaQ M0 z q w T A B D N C n p O P K Ab Be Cm V F ns sf ef c cnt L x69 M68)))) ∧ (¬ (mI M63 q 7 = 0) → (∀ v73 : Int, v73 = (if (mI M63 q 8 = 0) then 1 else 2) → Ci G y_TR_readItemRule (d + 5) [vr q, vi 2, vi v73] M63 (fun x78 M77 => i32 x78 ∧ mOk M77 ∧ (((x78 = 0) → (vaQ M0 z q w T A B D N C n p O P K Ab Be Cm V F ns sf ef c cnt L 0 M77)) ∧ (¬ (x78 = 0) → (mK M77 q = 3 ∧ mK M77 (mR M77 q 0) = 4 ∧ Ci G y_RR_accept (d + 5) [vr (mR M77 q 0), vi 35] M77 (fun x85 M84 => i32 x85 ∧ mOk M84 ∧ ((x85 = 0 ∨ x85 = 1) ∧ vaQ M0 z q w T A B D N C n p O P K Ab Be Cm V F ns sf ef c cnt L x85 M84)))))))))) := by
  have ap := h.1.apart
  have qp := h.1.2.2.2.2.2.1.2.1
  obtain ⟨n1, n2, n3, n4, n5, n6⟩ := hn
  refine (s_tx_accept (i32s (by omega) (by omega)) (by omega) h ha han).mono (fun x59 M58 k => ?_)
  obtain ⟨i1, o1, hx, h1, x1, k1, r1, b1⟩ := k
  refine ⟨i1, o1, h1.1.2.1.1, hx, fun M63 e63 => ?_⟩
  obtain ⟨h63, x63, g63⟩ := tx_ui h1 i1 e63 (Or.inl rfl)
  have gg : ∀ b, b ≠ q → mI M63 b = mI M58 b := fun b hb => by
    funext i
    rw [g63, if_neg (by omega)]
  have bb : ∀ b, b ≠ q → b ≠ q + 1 → mI M63 b = mI M b := fun b h0 h1 => by rw [gg b h0, b1 b h1]
  have qq : ∀ i, i ≠ 7 → mI M63 q i = mI M q i := fun i hi => by rw [g63, if_neg (fun u => hi u.2), b1 q (by omega)]
  have rr : ∀ i, i ≠ 2 → mI M63 (q + 1) i = mI M (q + 1) i := fun i hi => by rw [gg _ (by omega), r1 i hi]
  have A63 : mI M63 A nw = 2 := by rw [(h1.1.words x63.1).1, (h.1.words x1.1).1]; exact n3
  have hn63 : mI M63 q 3 = ((nw : Nat) : Int) ∧ nw < n ∧ mI M63 A nw = 2 ∧ mI M63 q 4 = ((L : Nat) : Int) ∧ (mI M63 q 8 = 0 ∨ mI M63 q 8 = 1) ∧ (12 ≤ V → mI M63 (q + 1) 3 ≠ 0) := ⟨by rw [qq 3 (by decide)]; exact n1, n2, A63, by rw [qq 4 (by decide)]; exact n4, by rw [qq 8 (by decide)]; exact n5, fun y => by rw [rr 3 (by decide)]; exact n6 y⟩
  have v63 : mI M63 q 8 = 0 → rvR M63 q O P F ns L s 0 ∧ rvR M63 q O P F ns L s 1 := fun y => by
    rw [qq 8 (by decide)] at y
    obtain ⟨u1, u2⟩ := h8 y
    exact ⟨u1.cg (by rw [bb _ (by omega) (by omega)]) (fun i _ => ⟨by rw [bb O (by omega) (by omega)], by rw [bb P (by omega) (by omega)]⟩) (Nat.le_refl _), u2.cg (by rw [bb _ (by omega) (by omega)]) (fun i _ => ⟨by rw [bb O (by omega) (by omega)], by rw [bb P (by omega) (by omega)]⟩) (Nat.le_refl _)⟩
  have p63 : mI M63 p 2 = ((s : Nat) : Int) := by rw [bb p (by omega) (by omega)]; exact hs
  have d63 : mI M63 (q + 1) 5 = 0 := by rw [rr 5 (by decide)]; exact hd
  rw [h63.1.2.1.2.1]
  refine ⟨fun y => ⟨h63.1.1.2.1.1, ?_⟩, fun y v73 e73 => ?_⟩
  · have e0 : x59 = 0 := by
      rw [g63, if_pos ⟨rfl, rfl⟩] at y
      exact y
    have e2 := (k1.resolve_left (fun u => by have := u.1; omega)).2
    have a63 : mI M63 (q + 1) 2 = ((a : Nat) : Int) := by rw [gg _ (by omega), e2]; exact ha
    exact s_rv35 ((f0.trans x1.1).trans x63.1) h63 p63 hLs hsa a63 han d63 hn63 v63 (fun u => absurd y u)
  · have e0 : x59 ≠ 0 := fun u => y (by rw [g63, if_pos ⟨rfl, rfl⟩]; exact u)
    obtain ⟨-, -, a58, an58⟩ := k1.resolve_right (fun u => e0 u.1)
    have a63 : mI M63 (q + 1) 2 = ((a + 1 : Nat) : Int) := by rw [gg _ (by omega)]; exact a58
    have i73 : i32 v73 := by rw [e73]; split <;> exact i32s (by omega) (by omega)
    have c63 : mI M63 (q + 1) 6 ≠ 0 := by rw [rr 6 (by decide)]; exact hr6
    refine (s_TR_readItemRule (k := 2) (d0 := 0) (by omega) i73 h63 a63 (by omega) p63 hLs hsa d63 (by omega) (h63.2.1.2.2.1.nkc c63)).mono (fun x78 M77 k => ?_)
    obtain ⟨h77, x77, ⟨c77, q77, t77⟩, k77⟩ := k
    have i78 : i32 x78 := by rcases k77 with u | u <;> rw [u.1] <;> exact i32s (by omega) (by omega)
    refine ⟨i78, h77.1.1.1, fun y => ?_, fun y => ?_⟩
    · obtain ⟨-, u⟩ := k77.resolve_right (fun u => by have := u.1; omega)
      exact ⟨((f0.trans x1.1).trans x63.1).trans x77.1, Or.inl ⟨rfl, h77, u⟩⟩
    obtain ⟨-, e, H, a', cd, p77, a77, aa, an, ea, d77⟩ := k77.resolve_left (fun u => y u.1)
    have se : s ≤ e := cd.2.2.2.2.2
    have fo : ∀ i, i < s → mI M77 O i = mI M63 O i ∧ mI M77 P i = mI M63 P i := x77.2.2.2.2.2.2
    rw [h77.1.2.1.2.1]
    refine ⟨h77.1.2.1.1, h77.1.1.2.1.1, s_rv35 (s := e + 1) (((f0.trans x1.1).trans x63.1).trans x77.1) h77 p77 (by omega) (by omega) a77 an (by rw [d77]; exact d63) ⟨by rw [q77]; exact hn63.1, n2, by rw [(h63.1.words x77.1).1]; exact A63, by rw [q77]; exact hn63.2.2.2.1, by rw [q77]; exact hn63.2.2.2.2.1, fun u => x77.2.2.1 (hn63.2.2.2.2.2 u)⟩ (fun u => ?_) (fun _ => ⟨s, e, H, by rw [t77, if_pos rfl], cd, hLs, by omega⟩)⟩
    rw [q77] at u
    obtain ⟨u1, u2⟩ := v63 u
    exact ⟨u1.cg (by rw [t77, if_neg (by decide)]) fo (by omega), u2.cg (by rw [t77, if_neg (by decide)]) fo (by omega)⟩
end TRE
