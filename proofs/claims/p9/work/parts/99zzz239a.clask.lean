section
/-! The class answers the questions about the states as the tables say. -/
section CAS
variable {G : mG} {d t n Ps Pc g cn cc bc : Nat} {M M' : mM} {C : Nat → Prop} {c9 : tG9} {i9 : tI9}
theorem XC.st (h : XC i9 M t) (l : Int) : stA9 i9.2.2.2.2.2.2.2 l = if 0 ≤ l ∧ l < mI M (t + 62) 0 then some (stm M (t + 62) l.toNat) else none := by
  obtain ⟨-, -, h3, h4, h5⟩ := h
  unfold stA9
  by_cases y : l < 0
  · rw [if_pos y, if_neg (by omega)]
  rw [if_neg y]
  by_cases z : i9.2.2.2.2.2.2.1 = []
  · rw [h4 z, if_neg (by rw [h3, z]; show ¬ (0 ≤ l ∧ l < ((0 : Nat) : Int)); omega)]
    all_goals rfl
  · obtain ⟨V, -, -, hT⟩ := h5 z
    rw [← hT, xtm_map, rget]
    by_cases u : 0 ≤ l ∧ l < mI M (t + 62) 0
    · rw [if_pos u, if_pos (by omega)]
    · rw [if_neg u, if_neg (by omega)]
/-- the commands of a state -/
theorem GR.row (hr : GR M g cn cc bc) {l : Int} (hl : 0 ≤ l ∧ l < cn) : ∃ a b : Nat, mI M (g + 4) l.toNat = ((a : Nat) : Int) ∧ mI M (g + 4) (l + 1).toNat = ((b : Nat) : Int) ∧ mI M (g + 4) (l.toNat + 1) = ((b : Nat) : Int) ∧ a ≤ b ∧ b ≤ cc ∧ cc ≤ 4096 ∧ 1 ≤ cn ∧ cn ≤ 512 := by
  rcases hr with ⟨e1, -⟩ | ⟨c1, q⟩
  · omega
  · obtain ⟨⟨-, q2, -⟩, -, -, t1, t2, -, -, -, t6, -⟩ := q
    obtain ⟨x, y', f1, f2, f3, f4⟩ := t6 l.toNat (by omega)
    exact ⟨x, y', f1, by rw [show (l + 1).toNat = l.toNat + 1 by omega]; exact f2, f2, f3, f4, by omega, c1, q2⟩
theorem e_CA_kind {l : Int} (il : i32 l) (h : CI c9 C n t Ps Pc M) (hx : XC c9.2 M t) : Ci G y_CA_kind (d + 1) [vr t, vi l] M (fun r M' => i32 r ∧ cQ c9 C n t Ps Pc M M' ∧ r = kdA9 c9.2.2.2.2.2.2.2.2 l) := by
  obtain ⟨cn, cc, bc, h1, ⟨h2, h3⟩, h4, h5⟩ := h.tg
  have hc := h5.cnt
  obtain ⟨g0, ⟨-, g2, -⟩, ⟨-, k2, -⟩, ⟨-, n2, -⟩⟩ := id h4
  refine k_CA_kind h1 il ?_
  rw [h3]
  refine ⟨h2, g0, (s_Ga_hasState il h1 g0 hc.1).mono (fun x4 M3 q => ?_)⟩
  obtain ⟨e, hb, hi⟩ := q
  subst e
  rw [h3, g2, n2]
  refine ⟨m_b32 hb, h1, fun u => ?_, fun v e => ?_⟩
  · have := hi.mp u
    exact ⟨h2, g0, k2, by omega, by omega⟩
  · have iv : i32 v := by
      rw [e]
      split
      · exact ⟨by decide, by decide⟩
      · exact (h1 _ _).1
    refine ⟨iv, h.same, ?_⟩
    unfold kdA9
    rw [e, hx.st, hc.1]
    by_cases y : x4 = 0
    · rw [if_pos y, if_neg (fun z => (hi.mpr z) y)]
      all_goals rfl
    · rw [if_neg y, if_pos (hi.mp y)]
      all_goals rfl
theorem e_CA_commands {l : Int} (il : i32 l) (h : CI c9 C n t Ps Pc M) (hx : XC c9.2 M t) : Ci G y_CA_commands (d + 1) [vr t, vi l] M (fun r M' => i32 r ∧ cQ c9 C n t Ps Pc M M' ∧ r = cnA9 c9.2.2.2.2.2.2.2.2 l) := by
  obtain ⟨cn, cc, bc, h1, ⟨h2, h3⟩, h4, h5⟩ := h.tg
  have hc := h5.cnt
  obtain ⟨g0, ⟨-, -, -, g4, -⟩, ⟨-, -, -, k4, -⟩, ⟨-, -, -, n4, -⟩⟩ := id h4
  refine k_CA_commands h1 il ?_
  rw [h3]
  refine ⟨h2, g0, (s_Ga_hasState il h1 g0 hc.1).mono (fun x4 M3 q => ?_)⟩
  obtain ⟨e, hb, hi⟩ := q
  subst e
  rw [h3, g4, n4]
  refine ⟨m_b32 hb, h1, fun u => ?_, fun v e => ?_⟩
  · have := hi.mp u
    exact ⟨h2, g0, k4, by omega, by omega⟩
  · have ev : i32 v ∧ v = cnA9 c9.2.2.2.2.2.2.2.2 l := by
      unfold cnA9
      rw [e, hx.st, hc.1]
      by_cases y : x4 = 0
      · rw [if_pos y, if_neg (fun z => (hi.mpr z) y)]
        exact ⟨⟨by decide, by decide⟩, rfl⟩
      · have z := hi.mp y
        obtain ⟨a, b, f1, f2, f2', f3, f4, f5, f6, f7⟩ := h5.row z
        rw [if_neg y, if_pos z, f1, f2]
        refine ⟨i32s (by omega) (by omega), ?_⟩
        show ((b : Nat) : Int) - ((a : Nat) : Int) = (((cml M3 (t + 62) (mI M3 (t + 62 + 4) l.toNat).toNat ((mI M3 (t + 62 + 4) (l.toNat + 1)).toNat - (mI M3 (t + 62 + 4) l.toNat).toNat)).length : Nat) : Int)
        rw [cml_map, List.length_map, List.length_range, f1, f2', Int.toNat_natCast, Int.toNat_natCast]
        omega
    exact ⟨ev.1, h.same, ev.2⟩
theorem e_Ga_commandAt {l1 l2 : Int} (i1 : i32 l1) (i2 : i32 l2) (h1 : mOk M) (hk : GK M g) (hr : GR M g cn cc bc) : Ci G y_Ga_commandAt (d + 1) [vr g, vi l1, vi l2] M (fun r M' => M' = M ∧ i32 r ∧ (cmdP M g cn l1 l2 → r = mI M (g + 4) l1.toNat + l2) ∧ (¬ cmdP M g cn l1 l2 → r = -1)) := by
  obtain ⟨g0, ⟨-, -, -, g4, -⟩, ⟨-, -, -, k4, -⟩, ⟨-, -, -, n4, -⟩⟩ := id hk
  have hc := hr.cnt
  refine k_Ga_commandAt h1 i1 i2 ⟨g0, (s_Ga_hasState i1 h1 g0 hc.1).mono (fun x3 M2 q => ?_)⟩
  obtain ⟨e2, hx, hiff⟩ := q
  subst e2
  have bad : ((x3 = 0) ∨ (l2 < 0) ∨ ¬ (l2 < mI M2 (g + 4) (l1 + 1).toNat - mI M2 (g + 4) l1.toNat)) → ¬ cmdP M2 g cn l1 l2 := fun u p => by
    rcases u with u | u | u
    · exact (hiff.mpr p.1) u
    · exact absurd p.2.1 (by omega)
    · exact u p.2.2
  have row : x3 ≠ 0 → ∃ a b : Nat, mI M2 (g + 4) l1.toNat = ((a : Nat) : Int) ∧ mI M2 (g + 4) (l1 + 1).toNat = ((b : Nat) : Int) ∧ mI M2 (g + 4) (l1.toNat + 1) = ((b : Nat) : Int) ∧ a ≤ b ∧ b ≤ cc ∧ cc ≤ 4096 ∧ 1 ≤ cn ∧ cn ≤ 512 := fun y => hr.row (hiff.mp y)
  clear hr
  rw [g4, n4]
  refine ⟨m_b32 hx, h1, fun y _ => ?_, fun u => ⟨rfl, ⟨by decide, by decide⟩, fun p => absurd p (bad u), fun _ => rfl⟩, fun y => ?_⟩
  · obtain ⟨a, b, f1, f2, -, f3, f4, f5, f6, f7⟩ := row y
    have b0 := hiff.mp y
    rw [f1, f2]
    exact ⟨g0, k4, by omega, by omega, ⟨by omega, by omega⟩⟩
  · have y0 : x3 ≠ 0 := fun t => y (Or.inl t)
    have b0 := hiff.mp y0
    obtain ⟨a, b, f1, f2, -, f3, f4, f5, f6, f7⟩ := row y0
    have y1 : 0 ≤ l2 := by
      by_cases t : l2 < 0
      · exact absurd (Or.inr (Or.inl t)) y
      · omega
    have y2 : l2 < mI M2 (g + 4) (Int.toNat (l1 + 1)) - mI M2 (g + 4) (Int.toNat l1) := Classical.byContradiction (fun t => y (Or.inr (Or.inr t)))
    have yy : cmdP M2 g cn l1 l2 := ⟨b0, y1, y2⟩
    rw [f1, f2] at y2
    rw [f1]
    exact ⟨g0, k4, by omega, rfl, ⟨by omega, by omega⟩, fun _ => rfl, fun n => absurd yy n⟩
/-- where a command's numbers stand -/
theorem XC.cm (h : XC i9 M t) (hr : GR M (t + 62) cn cc bc) (l1 l2 : Int) : (¬ cmdP M (t + 62) cn l1 l2 ∧ cmA9 i9.2.2.2.2.2.2.2 l1 l2 = none) ∨ (cmdP M (t + 62) cn l1 l2 ∧ ∃ j : Nat, mI M (t + 62 + 4) l1.toNat + l2 = ((j : Nat) : Int) ∧ j < cc ∧ 1 ≤ cn ∧ cmA9 i9.2.2.2.2.2.2.2 l1 l2 = some (cmm M (t + 62) j)) := by
  have hc := hr.cnt
  have hst := h.st l1
  unfold cmA9
  rw [hst, hc.1]
  by_cases y : 0 ≤ l1 ∧ l1 < ((cn : Nat) : Int)
  · obtain ⟨a, b, f1, f2, f2', f3, f4, f5, f6, f7⟩ := hr.row y
    rw [if_pos y]
    have red : ((some (stm M (t + 62) l1.toNat)).bind (fun x => if l2 < 0 then none else x.2[l2.toNat]?)) = if l2 < 0 then none else (cml M (t + 62) (mI M (t + 62 + 4) l1.toNat).toNat ((mI M (t + 62 + 4) (l1.toNat + 1)).toNat - (mI M (t + 62 + 4) l1.toNat).toNat))[l2.toNat]? := rfl
    rw [red]
    by_cases z : l2 < 0
    · rw [if_pos z]
      exact Or.inl ⟨fun u => absurd u.2.1 (by omega), rfl⟩
    · rw [if_neg z, cml_map, rget, f1, f2', Int.toNat_natCast, Int.toNat_natCast]
      by_cases u : l2 < ((b : Nat) : Int) - ((a : Nat) : Int)
      · rw [if_pos (by omega)]
        exact Or.inr ⟨⟨y, by omega, by rw [f1, f2]; exact u⟩, a + l2.toNat, by omega, by omega, f6, rfl⟩
      · rw [if_neg (by omega)]
        exact Or.inl ⟨fun v => u (by have := v.2.2; rw [f1, f2] at this; exact this), rfl⟩
  · rw [if_neg y]
    exact Or.inl ⟨fun u => y u.1, rfl⟩
theorem e_CA_command {l1 l2 : Int} (i1 : i32 l1) (i2 : i32 l2) (h : CI c9 C n t Ps Pc M) (hx : XC c9.2 M t) : Ci G y_CA_command (d + 2) [vr t, vi l1, vi l2] M (fun r M' => i32 r ∧ cQ c9 C n t Ps Pc M M' ∧ r = caA9 c9.2.2.2.2.2.2.2.2 l1 l2) := by
  obtain ⟨cn, cc, bc, h1, ⟨h2, h3⟩, h4, h5⟩ := h.tg
  obtain ⟨g0, ⟨-, -, -, -, g5, -⟩, ⟨-, -, -, -, k5, -⟩, ⟨-, -, -, -, n5, -⟩⟩ := id h4
  refine k_CA_command h1 i1 i2 ?_
  rw [h3]
  refine ⟨h2, g0, (e_Ga_commandAt (d := d) i1 i2 h1 h4 h5).mono (fun x4 M3 q => ?_)⟩
  obtain ⟨e, ix, hi⟩ := q
  subst e
  rw [h3, g5, n5]
  unfold caA9
  rcases hx.cm h5 l1 l2 with ⟨np, ec⟩ | ⟨yp, j, ej, jc, c1, ec⟩
  · have hi := hi.2 np
    rw [ec]
    exact ⟨ix, h1, fun u => absurd hi u, fun v e => ⟨by rw [e, if_pos hi]; exact ⟨by decide, by decide⟩, h.same, by rw [e, if_pos hi]; rfl⟩⟩
  · have hi := hi.1 yp
    rw [ej] at hi
    obtain ⟨b1, b2⟩ := h5.cmd c1
    obtain ⟨x, y, mu, e1, e2, e3, e4, e5, e6, e7, e8, e9, e10, e11⟩ := b2 j jc
    have nx : ¬ (x4 = -1) := by omega
    rw [ec]
    refine ⟨ix, h1, fun _ => ⟨h2, g0, k5, by omega, by omega⟩, fun v e => ?_⟩
    rw [if_neg nx, hi, Int.toNat_natCast] at e
    refine ⟨by rw [e]; exact (h1 _ _).1, h.same, ?_⟩
    rw [e]
    show mI M3 (t + 62 + 5) j = ((cmm M3 (t + 62) j).1 : Int)
    first
      | rfl
      | (show mI M3 (t + 62 + 5) j = (((mI M3 (t + 62 + 5) j).toNat : Nat) : Int); omega)
theorem e_CA_branches {l1 l2 : Int} (i1 : i32 l1) (i2 : i32 l2) (h : CI c9 C n t Ps Pc M) (hx : XC c9.2 M t) : Ci G y_CA_branches (d + 2) [vr t, vi l1, vi l2] M (fun r M' => i32 r ∧ cQ c9 C n t Ps Pc M M' ∧ r = bnA9 c9.2.2.2.2.2.2.2.2 l1 l2) := by
  obtain ⟨cn, cc, bc, h1, ⟨h2, h3⟩, h4, h5⟩ := h.tg
  obtain ⟨g0, ⟨-, -, -, -, -, -, g7, -⟩, ⟨-, -, -, -, -, -, k7, -⟩, ⟨-, -, -, -, -, -, n7, -⟩⟩ := id h4
  refine k_CA_branches h1 i1 i2 ?_
  rw [h3]
  refine ⟨h2, g0, (e_Ga_commandAt (d := d) i1 i2 h1 h4 h5).mono (fun x4 M3 q => ?_)⟩
  obtain ⟨e, ix, hi⟩ := q
  subst e
  rw [h3, g7, n7]
  unfold bnA9
  rcases hx.cm h5 l1 l2 with ⟨np, ec⟩ | ⟨yp, j, ej, jc, c1, ec⟩
  · have hi := hi.2 np
    rw [ec]
    exact ⟨ix, h1, fun u => absurd hi u, fun v e => ⟨by rw [e, if_pos hi]; exact ⟨by decide, by decide⟩, h.same, by rw [e, if_pos hi]; rfl⟩⟩
  · have hi := hi.1 yp
    rw [ej] at hi
    obtain ⟨b1, b2⟩ := h5.cmd c1
    obtain ⟨x, y, mu, e1, e2, e3, e4, -⟩ := b2 j jc
    have nx : ¬ (x4 = -1) := by omega
    rw [ec]
    refine ⟨ix, h1, fun _ => ⟨h2, g0, k7, by omega, by omega⟩, fun v e => ?_⟩
    rw [if_neg nx, hi, show (((j : Nat) : Int) + 1).toNat = j + 1 by omega, Int.toNat_natCast, e1, e2] at e
    refine ⟨by rw [e]; exact i32s (by omega) (by omega), h.same, ?_⟩
    rw [e]
    show ((y : Nat) : Int) - ((x : Nat) : Int) = (((brl M3 (t + 62) (mI M3 (t + 62 + 7) j).toNat ((mI M3 (t + 62 + 7) (j + 1)).toNat - (mI M3 (t + 62 + 7) j).toNat)).length : Nat) : Int)
    rw [brl_map, List.length_map, List.length_range, e1, e2, Int.toNat_natCast, Int.toNat_natCast]
    omega
theorem e_CA_branch {l1 l2 l3 l4 : Int} (i1 : i32 l1) (i2 : i32 l2) (i3 : i32 l3) (i4 : i32 l4) (h : CI c9 C n t Ps Pc M) (hx : XC c9.2 M t) : Ci G y_CA_branch (d + 2) [vr t, vi l1, vi l2, vi l3, vi l4] M (fun r M' => i32 r ∧ cQ c9 C n t Ps Pc M M' ∧ r = brA9 c9.2.2.2.2.2.2.2.2 l1 l2 l3 l4) := by
  obtain ⟨cn, cc, bc, h1, ⟨h2, h3⟩, h4, h5⟩ := h.tg
  obtain ⟨g0, ⟨-, -, -, -, -, g6, g7, g8, g9, -⟩, ⟨-, -, -, -, -, k6, k7, k8, k9, -⟩, ⟨-, -, -, -, -, n6, n7, n8, n9, -⟩⟩ := id h4
  refine k_CA_branch h1 i1 i2 i3 i4 ?_
  rw [h3]
  refine ⟨h2, g0, (e_Ga_commandAt (d := d) i1 i2 h1 h4 h5).mono (fun x4 M3 q => ?_)⟩
  obtain ⟨e, ix, hi⟩ := q
  subst e
  have same := h.same
  rw [h3, g7, n7, g6, n6, g9, n9]
  unfold brA9
  rcases hx.cm h5 l1 l2 with ⟨np, ec⟩ | ⟨yp, j, ej, jc, c1, ec⟩
  · have hi := hi.2 np
    rw [ec]
    exact ⟨ix, h1, fun w => absurd hi w, fun _ => ⟨⟨by decide, by decide⟩, same, rfl⟩, fun w => absurd (Or.inl hi) w⟩
  have hi := hi.1 yp
  rw [ej] at hi
  obtain ⟨b1, b2⟩ := h5.cmd c1
  have hm := b2 j jc
  obtain ⟨x, y, mu, e1, e2, e3, e4, e5, e6, e7, e8, e9, -⟩ := id hm
  have nx : ¬ (x4 = -1) := by omega
  have wl : ∀ i, x ≤ i → i < y → mI M3 (t + 62 + 9) i < 1000000000 := fun i a b => by
    have := wsm_le (M := M3) (g := t + 62) (x := x) (n := y - x) (fun i a b => (e5 i a (by omega)).2.2) (y - x) (Nat.le_refl _) i a (by omega)
    rw [e9] at this
    omega
  rw [ec, hi, show (((j : Nat) : Int) + 1).toNat = j + 1 by omega, Int.toNat_natCast, e1, e2, e6]
  have bq : bqA9 (cmm M3 (t + 62) j) l3 = if 0 ≤ l3 ∧ l3 < ((y : Nat) : Int) - ((x : Nat) : Int) then some ((mI M3 (t + 62 + 8) (x + l3.toNat)).toNat, mI M3 (t + 62 + 9) (x + l3.toNat)) else none := by
    unfold bqA9
    by_cases z : l3 < 0
    · rw [if_pos z, if_neg (by omega)]
    · rw [if_neg z]
      show (brl M3 (t + 62) (mI M3 (t + 62 + 7) j).toNat ((mI M3 (t + 62 + 7) (j + 1)).toNat - (mI M3 (t + 62 + 7) j).toNat))[l3.toNat]? = _
      rw [brl_map, rget, e1, e2, Int.toNat_natCast, Int.toNat_natCast]
      by_cases u : l3 < ((y : Nat) : Int) - ((x : Nat) : Int)
      · rw [if_pos (by omega), if_pos ⟨by omega, u⟩]
      · rw [if_neg (by omega), if_neg (fun v => u v.2)]
  have hmu : (cmm M3 (t + 62) j).2.1 = ((mu : Nat) : Int) := e6
  have red : ((some (cmm M3 (t + 62) j)).map (fun c => ((bqA9 c l3).map (b1A9 c.2.1 l4)).getD (-1))).getD (-1) = ((bqA9 (cmm M3 (t + 62) j) l3).map (b1A9 ((mu : Nat) : Int) l4)).getD (-1) := by
    rw [← hmu]
    all_goals rfl
  rw [red, bq]
  refine ⟨by rw [← hi]; exact ix, h1, fun _ _ => ⟨h2, g0, k7, by omega, by omega, i32s (by omega) (by omega)⟩, fun w => ⟨⟨by decide, by decide⟩, same, ?_⟩, fun v => ?_⟩
  · rw [if_neg (fun u => by rcases w with w | w | w <;> omega)]
    all_goals rfl
  have v1 : 0 ≤ l3 := by
    by_cases q : l3 < 0
    · exact absurd (Or.inr (Or.inl q)) v
    · omega
  have v2 : l3 < ((y : Nat) : Int) - ((x : Nat) : Int) := Classical.byContradiction (fun q => v (Or.inr (Or.inr q)))
  have ei : Int.toNat (((x : Nat) : Int) + l3) = x + l3.toNat := by omega
  have we := e5 (x + l3.toNat) (by omega) (by omega)
  have we2 := wl (x + l3.toNat) (by omega) (by omega)
  rw [ei, if_pos ⟨v1, v2⟩]
  have red2 : ((some ((mI M3 (t + 62 + 8) (x + l3.toNat)).toNat, mI M3 (t + 62 + 9) (x + l3.toNat))).map (b1A9 ((mu : Nat) : Int) l4)).getD (-1) = b1A9 ((mu : Nat) : Int) l4 ((mI M3 (t + 62 + 8) (x + l3.toNat)).toNat, mI M3 (t + 62 + 9) (x + l3.toNat)) := rfl
  rw [red2]
  unfold b1A9
  refine ⟨h2, g0, k7, by omega, k9, by omega, k6, by omega, (x_Ma_commonDivisor (d := d + 1) ⟨by omega, by omega⟩ ⟨by omega, by omega⟩ h1).mono (fun x27 M26 q => ?_)⟩
  obtain ⟨e, ⟨f1, f2⟩, f3⟩ := q
  subst e
  rw [h3, g8, n8, g9, n9, g6, n6, e6]
  have td : ∀ z : Int, 0 ≤ z → z < 1000000000 → i32 (Int.tdiv z x27) ∧ Int.tdiv z x27 = z / x27 := fun z z0 z1 => by
    rw [Int.tdiv_eq_ediv_of_nonneg z0]
    have p1 := Int.ediv_le_self x27 z0
    have p2 : 0 ≤ z / x27 := Int.ediv_nonneg z0 (by omega)
    exact ⟨⟨by omega, by omega⟩, rfl⟩
  have i27 : i32 x27 := ⟨by omega, by omega⟩
  refine ⟨⟨by omega, by omega⟩, h1, fun u0 => ⟨h2, g0, k8, by omega, (h1 _ _).1, same, ?_⟩, fun u0 => ⟨fun u1 => ⟨h2, g0, k9, by omega, i27, by omega, (td _ (by omega) we2).1, same, ?_⟩, fun u1 => ⟨fun u2 => ⟨h2, g0, k6, by omega, i27, by omega, (td _ (by omega) (by omega)).1, same, ?_⟩, fun u2 => ⟨⟨by decide, by decide⟩, same, ?_⟩⟩⟩⟩
  · rw [if_pos u0]
    show _ = (((mI M26 (t + 62 + 8) (x + l3.toNat)).toNat : Nat) : Int)
    omega
  · rw [if_neg u0, if_pos u1, (td _ (by omega) we2).2, f3]
    all_goals rfl
  · rw [if_neg u0, if_neg u1, if_pos u2, (td ((mu : Nat) : Int) (by omega) (by omega)).2, f3]
    all_goals rfl
  · rw [if_neg u0, if_neg u1, if_neg u2]
theorem e_CA_variable {l1 l2 : Int} (i1 : i32 l1) (i2 : i32 l2) (h : CI c9 C n t Ps Pc M) (hx : XC c9.2 M t) (hl : (0 ≤ l1 ∧ l1 < mI M (t + 62) 0) ∧ (0 ≤ l2 ∧ l2 < mI M (mR M t 4) 3)) : Ci G y_CA_variable (d + 1) [vr t, vi l1, vi l2] M (fun r M' => i32 r ∧ cQ c9 C n t Ps Pc M M' ∧ r = vaA9 c9.2.2.2.2.2.2.2.1 l1 l2) := by
  have same := h.same
  obtain ⟨T, Kt, N, A, B, D, Cw, p, O, P, K, p', O', P', K', Ab, Be, Cm, U, Ag, Bg, Cg, cn, cc, bc, Ls, v, R, k, Z, j⟩ := id h
  have r4 := j.2.1.1.2.2.1
  have c0 := j.tg.2.2.2.cnt.1
  obtain ⟨l11, l12⟩ := hl
  rw [c0] at l11
  rw [r4] at l12
  have c6 := j.2.2.2.2.2.2 (by omega)
  obtain ⟨V, F, ns, sf, ef, L, cnt, hw⟩ := j.2.1.2.2.2.2.2.2.1 c6
  have i3 := (j.2.1.2.2.2.2.2.2.2.2 c6).1
  have e3 := hw.2.2.1
  have kp := hw.1.1
  rw [e3.1] at l12
  obtain ⟨h1, ⟨h2, h3⟩, h4, h5⟩ := j.tg
  have hc := h5.cnt
  obtain ⟨g0, ⟨g1, -⟩, ⟨k1, -⟩, ⟨n1, -⟩⟩ := id h4
  have sne : c9.2.2.2.2.2.2.2.1 ≠ [] := fun z => by
    have x3 := hx.2.2.1
    rw [z, c0] at x3
    have : ((cn : Nat) : Int) = ((0 : Nat) : Int) := x3
    omega
  obtain ⟨W, hW, hS, -⟩ := hx.2.2.2.2 sne
  have ln := hx.2.2.1
  rw [c0] at ln
  refine k_CA_variable h1 i1 i2 ?_
  rw [h3]
  refine ⟨h2, g0, (s_Ga_hasState i1 h1 g0 hc.1).mono (fun x M3 q => ?_)⟩
  obtain ⟨e, hb, hi⟩ := q
  subst e
  have x0 := hi.mpr l11
  rw [h3, r4, e3.1, g1, n1]
  refine ⟨m_b32 hb, h1, fun _ _ => ⟨h2, kp⟩, fun u => ?_, fun _ => ⟨h2, g0, k1, by omega, (h1 _ _).1, same, ?_⟩⟩
  · rcases u with u | u | u
    · exact absurd u x0
    · omega
    · omega
  · have hWV : W = V := by
      have : (W : Int) = mI M3 p 3 := hW.trans i3.symm
      rw [e3.1] at this
      omega
    unfold vaA9
    rw [← hS]
    unfold Sm9
    rw [rget, if_pos (by omega)]
    show _ = ((lsm M3 (t + 62) W l1.toNat)[l2.toNat]?).getD 0
    unfold lsm
    rw [rget, if_pos (by omega)]
    show _ = mI M3 (t + 62 + 1) (12 * l1.toNat + l2.toNat)
    rw [show (l1 * 12 + l2).toNat = 12 * l1.toNat + l2.toNat by omega]
end CAS
end
section
/-! The class at rest: cells that are made anew; end. -/
section NCW
variable {G : mG} {d t x n cn cc bc T Kt N A B D Cw p O P K p' O' P' K' Ab Be Cm U Ag Bg Cg Ps Pc T1 A1 B1 D1 O1 P1 O2 P2 Ab1 Be1 Ag1 Bg1 Kt' N' : Nat} {M M' M1 : mM} {Z Y C : Nat → Prop} {v R k : Nat → Nat} {Ls : List Nat} {c9 c8 : tG9}
theorem Ap.nz (h : Ap Z C t T A B D O P O' P' Ab Be Ag Bg M) : (∀ x, t ≤ x → x < t + 85 → ¬ Z x) ∧ ¬ Z (t + 234) ∧ (¬ Z T ∧ ¬ Z O ∧ ¬ Z P) := ⟨fun x a b => h.1 x (Or.inl ⟨a, b⟩), h.1 _ (Or.inr (Or.inl rfl)), h.1 _ (Or.inr (Or.inr (by simp))), h.1 _ (Or.inr (Or.inr (by simp))), h.1 _ (Or.inr (Or.inr (by simp)))⟩
theorem Ap.oc (h : Ap Z C t T A B D O P O' P' Ab Be Ag Bg M) : (∀ x, t ≤ x → x < t + 235 → C x ∧ x < mZ M) ∧ (∀ x, Z x → C x ∧ x < mZ M) ∧ (∀ x, x ∈ [T, A, B, D, O, P, O', P', Ab, Be, Ag, Bg] → C x ∧ x < mZ M) := by
  obtain ⟨-, -, -, h4, h5⟩ := h
  exact ⟨fun x a b => ⟨h4 x (Or.inl ⟨a, b⟩), h5 x (h4 x (Or.inl ⟨a, b⟩))⟩, fun x a => ⟨h4 x (Or.inr (Or.inl a)), h5 x (h4 x (Or.inr (Or.inl a)))⟩, fun x a => ⟨h4 x (Or.inr (Or.inr a)), h5 x (h4 x (Or.inr (Or.inr a)))⟩⟩
/-- the same cells, later -/
theorem Ap.mz (h : Ap Z C t T A B D O P O' P' Ab Be Ag Bg M) (hz : mZ M ≤ mZ M') : Ap Z C t T A B D O P O' P' Ab Be Ag Bg M' := ⟨h.1, h.2.1, h.2.2.1, h.2.2.2.1, fun x u => Nat.lt_of_lt_of_le (h.2.2.2.2 x u) hz⟩
/-- arrays have been made anew -/
theorem Ap.re (h : Ap Z C t T A B D O P O' P' Ab Be Ag Bg M) (hz : mZ M ≤ mZ M') (nd : [T1, A1, B1, D1, O1, P1, O2, P2, Ab1, Be1, Ag1, Bg1].Nodup) (pl : (T1 = t + 1 ∨ t + 235 ≤ T1) ∧ (A1 = t + 4 ∨ t + 235 ≤ A1) ∧ (B1 = t + 5 ∨ t + 235 ≤ B1) ∧ (D1 = t + 6 ∨ t + 235 ≤ D1)) (old : ∀ x, x ∈ [T1, A1, B1, D1, O1, P1, O2, P2, Ab1, Be1, Ag1, Bg1] → x ∈ [T, A, B, D, O, P, O', P', Ab, Be, Ag, Bg] ∨ (mZ M ≤ x ∧ x < mZ M')) : Ap Z (Zn C M M') t T1 A1 B1 D1 O1 P1 O2 P2 Ab1 Be1 Ag1 Bg1 M' := by
  obtain ⟨c1, c2, c3⟩ := h.oc
  obtain ⟨h1, -, -, h4, h5⟩ := h
  refine ⟨fun x hx => ?_, nd, pl, fun x hx => ?_, fun x hx => ?_⟩
  · rcases hx with u | u | u
    · exact h1 x (Or.inl u)
    · exact h1 x (Or.inr (Or.inl u))
    · rcases old x u with w | w
      · exact h1 x (Or.inr (Or.inr w))
      · intro zx
        have := (c2 x zx).2
        omega
  · rcases hx with u | u | u
    · exact Or.inl (c1 x u.1 u.2).1
    · exact Or.inl (c2 x u).1
    · rcases old x u with w | w
      · exact Or.inl (c3 x w).1
      · exact Or.inr w
  · rcases hx with u | u
    · have := h5 x u; omega
    · exact u.2
/-- numbers have been made -/
theorem Ap.zn (h : Ap Z C t T A B D O P O' P' Ab Be Ag Bg M) (hz : mZ M ≤ mZ M') : Ap (Zn Z M M') (Zn C M M') t T A B D O P O' P' Ab Be Ag Bg M' := by
  obtain ⟨c1, c2, c3⟩ := h.oc
  obtain ⟨h1, h2, h3, h4, h5⟩ := h
  refine ⟨fun x hx u => ?_, h2, h3, fun x hx => ?_, fun x hx => ?_⟩
  · have lt : x < mZ M := by
      rcases hx with w | w | w
      · exact (c1 x w.1 (by omega)).2
      · exact (c1 x (by omega) (by omega)).2
      · exact (c3 x w).2
    rcases u with u | u
    · exact h1 x hx u
    · omega
  · rcases hx with u | (u | u) | u
    · exact Or.inl (c1 x u.1 u.2).1
    · exact Or.inl (c2 x u).1
    · exact Or.inr u
    · exact Or.inl (c3 x u).1
  · rcases hx with u | u
    · have := h5 x u; omega
    · exact u.2
/-- the text's side with another tape -/
theorem Tx.tap {c7 : Nat → Int} (h : Tx c9 t T Kt N A B D Cw p O P K p' O' P' K' Ab Be Cm M) (o : mOk M') (f : FC Y M M') (hz : ∀ x, t + 2 ≤ x → x < t + 62 → ¬ Y x) (nO : ¬ Y O) (nP : ¬ Y P) (hr : ∀ i, 2 ≤ i → mR M' t i = mR M t i) (i6 : mI M' t 6 = mI M t 6) (tap : Tap c7 M' t T1 Kt' N') : Tx (c7, c9.2) t T1 Kt' N' A B D Cw p O P K p' O' P' K' Ab Be Cm M' := by
  obtain ⟨h1, h2, h3, h4, h5, h6, h7, h8⟩ := h
  refine ⟨by rw [hr 2 (by decide), hr 3 (by decide), hr 4 (by decide), hr 5 (by decide)]; exact h1, tap, h3.fc f (hz _ (by omega) (by omega)), h4.fc o f (fun x a b => hz x (by omega) (by omega)) (hz _ (by omega) (by omega)), h5.fc f (hz _ (by omega) (by omega)), h6, fun u => ?_, h8.fc f h5 i6 (fun i hi => hz _ (by omega) (by omega)) nO nP⟩
  rw [i6] at u
  obtain ⟨V, F, ns, sf, ef, L, cnt, hw⟩ := h7 u
  exact ⟨V, F, ns, sf, ef, L, cnt, hw.fc f (fun i hi => hz _ (by omega) (by omega)) nO nP⟩
theorem sta2_lo (pT : T = t + 1 ∨ t + 235 ≤ T) : (∀ x, t + 2 ≤ x → x < t + 62 → ¬ Sta2 t T x) ∧ (∀ x, t + 62 ≤ x → x < t + 85 → ¬ Sta2 t T x) ∧ ¬ Sta2 t T (t + 234) ∧ (∀ i, i ≤ 9 → ¬ Sta2 t T (t + 62 + i)) := by
  unfold Sta2
  exact ⟨fun x a b u => by omega, fun x a b u => by omega, fun u => by omega, fun i a u => by omega⟩
/-- what is outside the numbers -/
theorem sta2_z (h : Ap Z C t T A B D O P O' P' Ab Be Ag Bg M) (hx : Tx c9 t T Kt N A B D Cw p O P K p' O' P' K' Ab Be Cm M) : (∀ x, Sta2 t T x → ¬ Z x ∧ C x) ∧ ¬ Sta2 t T O ∧ ¬ Sta2 t T P ∧ t + 234 < mZ M ∧ t + 235 ≤ mZ M := by
  obtain ⟨z1, z2, z3, z4, z5⟩ := h.nz
  obtain ⟨c1, c2, c3⟩ := h.oc
  have tn := (List.nodup_cons.1 h.2.1).1
  have o4 := hx.2.2.2.2.1.2.2.2.1
  have pp := hx.2.2.2.2.2.1
  clear hx
  refine ⟨fun x u => ?_, fun u => ?_, fun u => ?_, (c1 _ (by omega) (by omega)).2, (c1 (t + 234) (by omega) (by omega)).2⟩
  · rcases u with u | u
    · rw [u]; exact ⟨z1 t (by omega) (by omega), (c1 t (by omega) (by omega)).1⟩
    · rw [u]; exact ⟨z3, (c3 T (by simp)).1⟩
  · rcases u with u | u
    · omega
    · exact tn (by rw [← u]; simp)
  · rcases u with u | u
    · omega
    · exact tn (by rw [← u]; simp)
theorem c_CA_end {l : Int} (il : i32 l) (h : CI c9 C n t Ps Pc M) (hl : 0 ≤ l ∧ l ≤ 20 ∧ 20 ≤ mI M t 1) : Ci G y_CA_end d [vr t, vi l] M (fun r M' => i32 r ∧ cQ0 c9 C n t Ps Pc M M' ∧ r = mI M t 1 + (l - 20) ∧ mI M' t 1 = r ∧ xcF M M' t) := by
  obtain ⟨T, Kt, N, A, B, D, Cw, p, O, P, K, p', O', P', K', Ab, Be, Cm, U, Ag, Bg, Cg, cn, cc, bc, Ls, v, R, k, Z, hj0⟩ := h
  obtain ⟨h1, h2, h3, h4, h5, h6, h7⟩ := id hj0
  obtain ⟨⟨ta1, ta2, ta3⟩, ta4, ta5, ta6, ta9⟩ := id h2.2.1
  obtain ⟨lo1, lo2, lo3, lo4⟩ := sta2_lo h5.2.2.1.1
  obtain ⟨zc, nO, nP, zp, -⟩ := sta2_z h5 h2
  rw [ta3] at hl
  obtain ⟨N', hN, hN'⟩ : ∃ N' : Nat, ((N : Nat) : Int) + (l - 20) = ((N' : Nat) : Int) ∧ N' ≤ N := ⟨(((N : Nat) : Int) + (l - 20)).toNat, by omega, by omega⟩
  refine (s_CA_end il h1 ta1 ta3 ta6.2.1 ⟨hl.1, hl.2.1, by omega⟩).mono (fun r M' q => ?_)
  obtain ⟨q1, q2, q3⟩ := q
  have f : FI (fun x => x = t) M M' := by rw [q3]; exact FI.ui rfl
  have fc : FC (Sta2 t T) M M' := f.fc (fun _ u => Or.inl u)
  have it : ∀ i, i ≠ 1 → mI M' t i = mI M t i := fun i hi => by rw [q3, mI_UI, if_neg (fun u => hi u.2)]
  have i1 : mI M' t 1 = ((N : Nat) : Int) + (l - 20) := by rw [q3, mI_UI, if_pos ⟨rfl, rfl⟩]
  have ez : mZ M' = mZ M ∧ mS M' = mS M := ⟨f.2.2.2.2.1, f.2.2.2.2.2.1⟩
  have tap : Tap c9.1 M' t T Kt N' := by
    refine ⟨⟨by rw [f.1]; exact ta1, by rw [f.2.2.1]; exact ta2, by rw [i1]; exact hN⟩, by rw [f.1, f.2.1]; exact ta4, by rw [ez.1]; exact ta5, ⟨Nat.le_trans hN' ta6.1, Nat.le_trans hN' ta6.2.1, ta6.2.2⟩, fun j hj => ?_⟩
    rw [f.2.2.2.2.2.2 T ta5.1.symm]
    exact ta9 j (Nat.lt_of_lt_of_le hj hN')
  have tx := h2.tap q2 fc lo1 nO nP (fun i _ => by rw [f.2.2.1]) (it 6 (by decide)) tap
  obtain ⟨ns, pe, qe⟩ := h4.fc q2 fc (fun x u => (zc x u).1) lo4 lo3 zp (fun i _ => by rw [f.2.2.1]) (it 18 (by decide))
  refine ⟨by rw [q1, hN]; have := ta6.2.1; exact i32s (by clear hj0; omega) (by clear hj0; omega), ⟨C, Ps, Pc, ⟨T, Kt, N', A, B, D, Cw, p, O, P, K, p', O', P', K', Ab, Be, Cm, U, Ag, Bg, Cg, cn, cc, bc, Ls, v, R, k, Z, q2, tx, (h3.fc fc lo2).up, ns, h5.mz (by rw [ez.1]; exact Nat.le_refl _), ?_, by rw [it 6 (by decide)]; exact h7⟩, fc.mono (fun x _ u => (zc x u).2), fun x u => Or.inl u, by rw [ez.2]; exact Nat.le_refl _, by rw [ez.1]; exact Nat.le_refl _⟩, by rw [q1, ta3], by rw [i1, q1], it 7 (by decide), it 8 (by decide), fun i _ _ => f.2.2.2.2.2.2 _ (show ¬ (t + 62 + i = t) by omega), hj0.knf (by rw [f.2.2.1]) (by rw [hj0.vfc fc (fun x u => (zc x u).1)])⟩
  unfold Rmc
  rw [pe, qe]
  exact h6
/-- a tape that may be new -/
theorem Ap.tape (h : Ap Z C t T A B D O P O' P' Ab Be Ag Bg M) (hz : mZ M ≤ mZ M') (t5 : t + 235 ≤ mZ M) (e : T1 = T ∨ (mZ M ≤ T1 ∧ T1 < mZ M')) : Ap Z (Zn C M M') t T1 A B D O P O' P' Ab Be Ag Bg M' := by
  obtain ⟨c1, c2, c3⟩ := h.oc
  have nd := List.nodup_cons.1 h.2.1
  have pl := h.2.2.1
  refine h.re hz (List.nodup_cons.2 ⟨?_, nd.2⟩) ⟨by rcases e with e | e <;> omega, pl.2⟩ (fun x hx => ?_)
  · rcases e with e | e
    · rw [e]; exact nd.1
    · intro u
      have := (c3 T1 (List.mem_cons_of_mem _ u)).2
      omega
  · rcases List.mem_cons.mp hx with u | u
    · rw [u]
      rcases e with e | e
      · rw [e]; exact Or.inl (by simp)
      · exact Or.inr e
    · exact Or.inl (List.mem_cons_of_mem _ u)
/-- the room of a tape that may be new -/
theorem rmc_tape {Pn' Qn' : Nat} (h6 : Rmc Kt Cw K K' Cm Cg Ps Pc Ls k M) (pe : Pn Ls k M' = Pn Ls k M ∧ Qn Ls k M' = Qn Ls k M) (k20 : 20 ≤ Kt) (gr : (Kt' = Kt ∧ mZ M' = mZ M ∧ mS M' = mS M) ∨ (Kt' = 2 * Kt ∧ mZ M' = mZ M + 1 ∧ mS M' = mS M + 2 * Kt)) : Rmc Kt' Cw K K' Cm Cg (Ps + 2 * (Kt' - Kt)) (Pc + 4 * (Kt' - Kt)) Ls k M' ∧ mS M' + Ps ≤ mS M + (Ps + 2 * (Kt' - Kt)) ∧ 64 * mZ M' + Pc ≤ 64 * mZ M + (Pc + 4 * (Kt' - Kt)) := by
  unfold Rmc at h6 ⊢
  rw [pe.1, pe.2]
  rcases gr with g | g <;> exact ⟨⟨by omega, by omega, h6.2.2⟩, by omega, by omega⟩
theorem c_CA_feed {l1 l2 l3 l4 l5 : Int} (i1 : i32 l1) (i2 : i32 l2) (i3 : i32 l3) (i4 : i32 l4) (i5 : i32 l5) (h : CI c9 C n t Ps Pc M) : Ci G y_CA_feed (d + 2) [vr t, vi l1, vi l2, vi l3, vi l4, vi l5] M (fun r M' => i32 r ∧ ∃ c8, (cQ0 c8 C n t Ps Pc M M' ∧ xcF M M' t) ∧ ((r = -1 ∧ 16384 < mI M t 1 + 20 ∧ mI M' t 1 = mI M t 1 ∧ c8 = c9) ∨ (r = mI M t 1 + 20 ∧ mI M t 1 + 20 ≤ 16384 ∧ mI M' t 1 = r ∧ c8 = (fdc c9.1 (mI M t 1).toNat l1 l2 l3 l4 l5, c9.2)))) := by
  obtain ⟨T, Kt, N, A, B, D, Cw, p, O, P, K, p', O', P', K', Ab, Be, Cm, U, Ag, Bg, Cg, cn, cc, bc, Ls, v, R, k, Z, hj⟩ := id h
  obtain ⟨h1, h2, h3, h4, h5, h6, h7⟩ := id hj
  have tap0 := h2.2.1
  have ta3 := tap0.1.2.2
  have k20 := tap0.2.2.2.1.2.2.1
  obtain ⟨lo1, lo2, lo3, lo4⟩ := sta2_lo h5.2.2.1.1
  obtain ⟨zc, nO, nP, zp, t5⟩ := sta2_z h5 h2
  refine (s_CA_feed (d := d) i1 i2 i3 i4 i5 h1 tap0).mono (fun r M' q => ?_)
  rw [ta3]
  rcases q with ⟨q1, q2, q3⟩ | ⟨q1, q2, T', Kt', o, tap, fa, it, rt, gr⟩
  · rw [q3, ta3]
    exact ⟨by rw [q1]; exact ⟨by decide, by decide⟩, c9, ⟨h.same.1, h.same.2.2⟩, Or.inl ⟨q1, by clear hj h2 h3 h4 h5 h6; omega, rfl, rfl⟩⟩
  have fc : FC (Sta2 t T) M M' := fa.fc (fun _ u => u) (fun x u => Or.inl u)
  have tx := h2.tap o fc lo1 nO nP (fun i hi => rt i (by omega)) (it 6 (by decide)) tap
  obtain ⟨ns, pq⟩ := h4.fc o fc (fun x u => (zc x u).1) lo4 lo3 zp (fun i hi => rt i (by omega)) (it 18 (by decide))
  have Tz := tap.2.2.1.2.2
  have ap := h5.tape fc.1.1 t5 (T1 := T') (by rcases gr with g | g; exact Or.inl g.1; exact Or.inr ⟨Nat.le_of_eq g.1.symm, Tz⟩)
  obtain ⟨rm, r1, r2⟩ := rmc_tape (Pn' := 0) (Qn' := 0) h6 pq k20 (Kt' := Kt') (gr.imp (fun g => g.2) (fun g => g.2))
  exact ⟨by rw [q1]; exact i32s (by clear hj h2 h3 h4 h5 h6; omega) (by clear hj h2 h3 h4 h5 h6; omega), (fdc c9.1 N l1 l2 l3 l4 l5, c9.2), ⟨⟨Zn C M M', _, _, ⟨T', Kt', N + 20, A, B, D, Cw, p, O, P, K, p', O', P', K', Ab, Be, Cm, U, Ag, Bg, Cg, cn, cc, bc, Ls, v, R, k, Z, o, tx, (h3.fc fc lo2).up, ns, ap, rm, by rw [it 6 (by decide)]; exact h7⟩, fc.mono (fun x _ u => (zc x u).2), fun x u => u, r1, r2⟩, it 7 (by decide), it 8 (by decide), fun i hi _ => (fc.sm (by clear hj h2 h3 h4 h5 h6 ns tx; omega) (lo2 _ (by omega) (by omega))).2.2.2, hj.knf (rt 11 (by omega)) (by rw [hj.vfc fc (fun x u => (zc x u).1)])⟩, Or.inr ⟨by rw [q1]; clear hj h2 h3 h4 h5 h6; omega, by clear hj h2 h3 h4 h5 h6; omega, by rw [tap.1.2.2, q1], by rw [Int.toNat_natCast]⟩⟩
end NCW
end
section
/-! The class at rest: steps of its numbers. -/
section NCX
variable {G : mG} {d t x n g s b cn cc bc T Kt N A B D Cw p O P K p' O' P' K' Ab Be Cm U Ag Bg Cg Ps Pc : Nat} {M M' M1 : mM} {Z Y C Tn Cm' : Nat → Prop} {v v' R k Rn kn : Nat → Nat} {Ls L L' : List Nat} {W : Nat → Nat} {r : Prop} {c9 c8 : tG9}
theorem stb_ne (h : Stb s x) : x ≠ s + 1 := by unfold Stb at h; omega
theorem gi_ne {i : Nat} (h : g + 22 < s) (hi : i ≤ 9) : g + i ≠ s + 1 := by omega
theorem re_ne {i : Nat} : s + 31 + i ≠ s + 1 := by omega
/-- the Solver under a step of numbers -/
theorem Sb.nx (h : Sb L W s g cn cc bc M) (q : NX L W Tn Cm' False (s + 1) M M') (hg : ∀ i, i ≤ 9 → ¬ Cm' (g + i)) : Sb L W s g cn cc bc M' := by
  obtain ⟨⟨o, ⟨⟨a1, a2⟩, a3, a4, a5⟩, ⟨b1, b2, b3, b4⟩, ⟨b5, b6⟩, gt⟩, ⟨hF, hSK, ⟨⟨c0, c1, c2, c3⟩, c4, c5, c6⟩, hf⟩, hSt, hgo⟩ := h
  have st : ∀ x, Stb s x → mK M' x = mK M x ∧ mN M' x = mN M x ∧ mR M' x = mR M x := fun x hx => by
    have := q.oth (hSt x hx) (stb_ne hx)
    exact ⟨this.1, this.2.1, this.2.2.1⟩
  have go : ∀ i, i ≤ 9 → mK M' (g + i) = mK M (g + i) ∧ mN M' (g + i) = mN M (g + i) ∧ mR M' (g + i) = mR M (g + i) ∧ mI M' (g + i) = mI M (g + i) := fun i hi => by
    have := q.oth (hgo i hi) (gi_ne a2 hi)
    exact ⟨this.1, this.2.1, this.2.2.1, this.2.2.2 (hg i hi)⟩
  have re : ∀ i, i ≤ 6 → mK M' (s + 31 + i) = mK M (s + 31 + i) ∧ mN M' (s + 31 + i) = mN M (s + 31 + i) ∧ mR M' (s + 31 + i) = mR M (s + 31 + i) := fun i hi => by
    have := q.oth (c4 i hi) re_ne
    exact ⟨this.1, this.2.1, this.2.2.1⟩
  have e0 := st s (Or.inl rfl)
  have e29 := st (s + 29) (Or.inr (Or.inl rfl))
  have e30 := st (s + 30) (Or.inr (Or.inr (Or.inl rfl)))
  have e122 := st (s + 122) (Or.inr (Or.inr (Or.inr (Or.inl rfl))))
  have e123 := st (s + 123) (Or.inr (Or.inr (Or.inr (Or.inr (Or.inl rfl)))))
  have e124 := st (s + 124) (Or.inr (Or.inr (Or.inr (Or.inr (Or.inr (Or.inl rfl))))))
  have e125 := st (s + 125) (Or.inr (Or.inr (Or.inr (Or.inr (Or.inr (Or.inr (Or.inl rfl)))))))
  have e126 := st (s + 126) (Or.inr (Or.inr (Or.inr (Or.inr (Or.inr (Or.inr (Or.inr (Or.inl rfl))))))))
  have e127 := st (s + 127) (Or.inr (Or.inr (Or.inr (Or.inr (Or.inr (Or.inr (Or.inr (Or.inr (Or.inl rfl)))))))))
  have e128 := st (s + 128) (Or.inr (Or.inr (Or.inr (Or.inr (Or.inr (Or.inr (Or.inr (Or.inr (Or.inr rfl)))))))))
  have g0 := go 0 (by decide)
  rw [Nat.add_zero] at g0
  have r0 := re 0 (by decide)
  rw [Nat.add_zero] at r0
  have r1 := re 1 (by decide)
  have r2 := re 2 (by decide)
  have r3 := re 3 (by decide)
  have r4 := re 4 (by decide)
  have r5 := re 5 (by decide)
  have r6 := re 6 (by decide)
  refine ⟨⟨q.ok, ⟨⟨by rw [e0.1]; exact a1, a2⟩, by rw [e0.2.2]; exact a3, by rw [e29.1, e30.1, e122.1, e123.1, e124.1, e125.1, e126.1, e127.1, e128.1]; exact a4, by rw [e29.2.1, e30.2.1, e122.2.1, e123.2.1, e124.2.1, e125.2.1, e126.2.1, e127.2.1, e128.2.1]; exact a5⟩, ⟨by rw [g0.1]; exact b1, by rw [g0.2.2.1]; exact b2, fun i i1 i2 => by rw [(go i i2).1]; exact b3 i i1 i2, by rw [(go 2 (by decide)).2.1, (go 4 (by decide)).2.1, (go 6 (by decide)).2.1, (go 7 (by decide)).2.1, (go 8 (by decide)).2.1, (go 9 (by decide)).2.1]; exact b4⟩, ⟨by rw [g0.2.2.1]; exact b5, by rw [(go 3 (by decide)).2.1]; exact b6⟩, gt.same (fun i hi => (go i hi).2.2.2)⟩, ⟨q.nf, q.sk hF hSK, ⟨⟨by rw [r0.1]; exact c0, by rw [r0.2.2]; exact c1, by rw [r1.1, r2.1, r3.1, r4.1, r5.1, r6.1]; exact c2, by rw [r1.2.1, r2.2.1, r3.2.1, r4.2.1, r5.2.1, r6.2.1]; exact c3⟩, fun i hi => q.oc hF (c4 i hi), fun i hi => by rw [r2.2.2]; exact c5 i hi, c6⟩, (q.frl hF hf).1⟩, fun x hx => q.oc hF (hSt x hx), fun i hi => q.oc hF (hgo i hi)⟩
/-- a step of numbers that touches no table -/
theorem Nms.nxg (h : Nms L W s g b cn cc bc v R k M) (q : NX L W Tn Cm' False (s + 1) M M') (hT : ∀ x, Tn x → x < b) (hC : ∀ x, Cm' x → x < b) (hv : ∀ j, j < 4 → ¬ Cm' (v j)) (hg : ∀ i, i ≤ 9 → ¬ Cm' (g + i)) : Nms L W s g b cn cc bc v R k M' ∧ ∀ j, j < 4 → mI M' (v j) = mI M (v j) := by
  obtain ⟨sb, tb, ⟨b1, b2⟩, tk⟩ := h
  have hF := sb.2.1.1
  refine ⟨⟨sb.nx q hg, tb.nx q hF, ⟨b1, Nat.le_trans b2 q.2.2.1.1.1⟩, fun j hj j2 => (tk j hj j2).nx (tb.1 j hj) q hF (hv j hj) (fun l hl => ?_)⟩, fun j hj => (q.oth (tb.1 j hj).1.2.2.2.2.1.1 (by have := (tb.1 j hj).2.2.2.2.1; omega)).2.2.2 (hv j hj)⟩
  have bl := (tb.1 j hj).2.1 l hl
  exact ⟨fun u => by have := hT _ u; omega, fun u => by have := hT _ u; omega, fun u => by have := hC _ u; omega⟩
theorem NX.cnu (q : NX L W Tn Cm' r (s + 1) M M') (hF : NF L W M) (hc : Cnu Z L s v R k M) (tb : Tb0 L M s b v R k) : Cnu (Zn Z M M') L s v R k M' ∧ FC (fun x => Z x ∨ Cm' x) M M' := by
  have hc' : Cnu (fun x => Z x ∨ Cm' x) L s v R k M := hc.cg (fun x u => Or.inl u)
  refine ⟨?_, (q.fc hF hc' tb (fun x u => Or.inr u)).1⟩
  obtain ⟨c1, c2, c3⟩ := hc
  refine ⟨fun x a1 a2 => Or.inl (c1 x a1 a2), fun a ha => ⟨Or.inl (c2 a ha).1, ?_⟩, fun i hi => ⟨Or.inl (c3 i hi).1, Or.inl (c3 i hi).2.1, fun j hj => ?_⟩⟩
  · by_cases c : Tn a
    · rcases q.2.2.2.1 a c with e | e
      · rw [e]; exact Or.inl (c2 a ha).2
      · exact Or.inr ⟨e, (q.nf.lt ha).2⟩
    · rw [(q.num hF ha c).1]; exact Or.inl (c2 a ha).2
  · rw [((tb.1 i hi).nx q hF).2]; exact Or.inl ((c3 i hi).2.2 j hj)
/-- the cells that a call about numbers may change -/
def Yn (Z : Nat → Prop) (t x : Nat) : Prop := Z x ∨ x = t ∨ x = t + 234
theorem yn_lo (h : Ap Z C t T A B D O P O' P' Ab Be Ag Bg M) (hx : Tx c9 t T Kt N A B D Cw p O P K p' O' P' K' Ab Be Cm M) : (∀ x, t + 2 ≤ x → x < t + 62 → ¬ Yn Z t x) ∧ (∀ x, t + 62 ≤ x → x < t + 85 → ¬ Yn Z t x) ∧ (¬ Yn Z t T ∧ ¬ Yn Z t O ∧ ¬ Yn Z t P) ∧ ∀ x, Yn Z t x → C x := by
  obtain ⟨z1, z2, z3, z4, z5⟩ := h.nz
  obtain ⟨c1, c2, c3⟩ := h.oc
  have o4 := hx.2.2.2.2.1.2.2.2.1
  have pp := hx.2.2.2.2.2.1
  have pT := h.2.2.1.1
  clear hx
  have nn : ∀ x, ¬ Z x → x ≠ t → x ≠ t + 234 → ¬ Yn Z t x := fun x a b c u => u.elim a (fun u => u.elim b c)
  refine ⟨fun x a b => nn x (z1 x (by omega) (by omega)) (by omega) (by omega), fun x a b => nn x (z1 x (by omega) (by omega)) (by omega) (by omega), ⟨nn T z3 (by omega) (by omega), nn O z4 (by omega) (by omega), nn P z5 (by omega) (by omega)⟩, fun x u => ?_⟩
  rcases u with u | u | u
  · exact (c2 x u).1
  · rw [u]; exact (c1 t (by omega) (by omega)).1
  · rw [u]; exact (c1 _ (by omega) (by omega)).1
/-- a step of numbers, in the class -/
theorem CJ.num (hj : CJ c9 C n t Ps Pc T Kt N A B D Cw p O P K p' O' P' K' Ab Be Cm U Ag Bg Cg cn cc bc Ls v R k Z M) (o : mOk M') (f : FC (Yn Z t) M M') (hr : ∀ i, i ≤ 5 → mR M' t i = mR M t i) (i1 : mI M' t 1 = mI M t 1) (i6 : mI M' t 6 = mI M t 6) (i7 : mI M' t 7 = mI M t 7) (i8 : mI M' t 8 = mI M t 8) (ns : Ns (Zn Z M M') t L' v' Rn kn cn cc bc M') (rq : Rq Ls k M L' kn M') : cQ0 c9 C n t Ps Pc M M' ∧ sE0 M M' t := by
  obtain ⟨h1, h2, h3, h4, h5, h6, h7⟩ := hj
  obtain ⟨y1, y2, ⟨y3, y4, y5⟩, y6⟩ := yn_lo h5 h2
  have tx := h2.fc o f y1 y3 y4 y5 hr i1 i6
  refine ⟨⟨Zn C M M', Ps + Pn L' kn M' - Pn Ls k M, Pc + 64 * Qn L' kn M' - 64 * Qn Ls k M, ⟨T, Kt, N, A, B, D, Cw, p, O, P, K, p', O', P', K', Ab, Be, Cm, U, Ag, Bg, Cg, cn, cc, bc, L', v', Rn, kn, Zn Z M M', o, tx, (h3.fc f y2).up, ns, h5.zn f.1.1, ?_, by rw [i6]; exact h7⟩, f.mono (fun x _ u => y6 x u), fun x u => u, ?_, ?_⟩, i1, i7, i8, fun i hi _ => (f.sm (by have := h3.2.1.2.2.2.2.2.2.1.1; clear h2 h4 h5 h6 tx ns; omega) (y2 _ (by omega) (by omega))).2.2.2⟩
  · clear tx ns h2 h3 h4 h5 f
    obtain ⟨r1, r2, r3, -⟩ := rq
    unfold Rmc at h6 ⊢
    exact ⟨by omega, by omega, by omega⟩
  · clear tx ns h2 h3 h4 h5 f
    obtain ⟨r1, r2, r3, -⟩ := rq
    unfold Rmc at h6
    omega
  · clear tx ns h2 h3 h4 h5 f
    obtain ⟨r1, r2, r3, -⟩ := rq
    unfold Rmc at h6
    omega
/-- the numbers' side after a step that leaves the top and what is printed -/
theorem Ns.step (h : Ns Z t Ls v R k cn cc bc M) (nz : ¬ Z t ∧ ¬ Z (t + 234)) (zp : t + 234 < mZ M) (f : FC Z M M') (nm : Nms L' (Wt t) (t + 85) (t + 62) (t + 235) cn cc bc v Rn kn M') (cn' : Cnu (Zn Z M M') L' (t + 85) v Rn kn M') (f2 : mI M' (v 2) 1 = 0) (ch : mI M' (v 0) 1 ≠ 0 → Chs M' (t + 85) (t + 62) cn) (rq : Rq Ls k M L' kn M') : Ns (Zn Z M M') t L' v Rn kn cn cc bc M' := by
  obtain ⟨h1, h2, h3, h4, h5, ⟨h6, h6', h6z⟩, h7, h8⟩ := h
  obtain ⟨tr, ti⟩ := h3.fc f nz.1
  have sp := f.sm zp nz.2
  exact ⟨nm, cn', tr, f2, ch, ⟨rq.2.2.2.1 _ h6, rq.2.2.2.2 _ h6', Or.inl h6z⟩, by unfold Pch; rw [sp.1, sp.2.1, sp.2.2.2]; exact h7, by rw [ti]; exact h8⟩
theorem FC.yn (f : FC Z M M') : FC (Yn Z t) M M' := f.mono (fun x _ u => Or.inl u)
end NCX
end
