/-! The class answers the questions about the states as the tables say. -/
section CAS
variable {G : mG} {d t n Ps Pc g cn cc bc : Nat} {M M' : mM} {C : Nat → Prop} {c9 : tG9} {i9 : tI9}
theorem XC.st (h : XC i9 M t) (l : Int) : stA9 i9.2.2.2.2.2.2.2 l = if 0 ≤ l ∧ l < mI M (t + 62) 0 then some (stm M (t + 62) l.toNat) else none := by
  obtain ⟨-, -, h3, h4, h5⟩ := h
  unfold stA9
  by_cases y : l < 0
  · rw [if_pos y, if_neg (by omega)]
  rw [if_neg y]
  by_cases z : i9.2.2.2.2.2.2.1 = []
  · rw [h4 z, if_neg (by rw [h3, z]; show ¬ (0 ≤ l ∧ l < ((0 : Nat) : Int)); omega)]
    all_goals rfl
  · obtain ⟨V, -, -, hT⟩ := h5 z
    rw [← hT, xtm_map, rget]
    by_cases u : 0 ≤ l ∧ l < mI M (t + 62) 0
    · rw [if_pos u, if_pos (by omega)]
    · rw [if_neg u, if_neg (by omega)]
/-- the commands of a state -/
theorem GR.row (hr : GR M g cn cc bc) {l : Int} (hl : 0 ≤ l ∧ l < cn) : ∃ a b : Nat, mI M (g + 4) l.toNat = ((a : Nat) : Int) ∧ mI M (g + 4) (l + 1).toNat = ((b : Nat) : Int) ∧ mI M (g + 4) (l.toNat + 1) = ((b : Nat) : Int) ∧ a ≤ b ∧ b ≤ cc ∧ cc ≤ 4096 ∧ 1 ≤ cn ∧ cn ≤ 512 := by
  rcases hr with ⟨e1, -⟩ | ⟨c1, q⟩
  · omega
  · obtain ⟨⟨-, q2, -⟩, -, -, t1, t2, -, -, -, t6, -⟩ := q
    obtain ⟨x, y', f1, f2, f3, f4⟩ := t6 l.toNat (by omega)
    exact ⟨x, y', f1, by rw [show (l + 1).toNat = l.toNat + 1 by omega]; exact f2, f2, f3, f4, by omega, c1, q2⟩
theorem e_CA_kind {l : Int} (il : i32 l) (h : CI c9 C n t Ps Pc M) (hx : XC c9.2 M t) : Ci G y_CA_kind (d + 1) [vr t, vi l] M (fun r M' => i32 r ∧ cQ c9 C n t Ps Pc M M' ∧ r = kdA9 c9.2.2.2.2.2.2.2.2 l) := by
  obtain ⟨cn, cc, bc, h1, ⟨h2, h3⟩, h4, h5⟩ := h.tg
  have hc := h5.cnt
  obtain ⟨g0, ⟨-, g2, -⟩, ⟨-, k2, -⟩, ⟨-, n2, -⟩⟩ := id h4
  refine k_CA_kind h1 il ?_
  rw [h3]
  refine ⟨h2, g0, (s_Ga_hasState il h1 g0 hc.1).mono (fun x4 M3 q => ?_)⟩
  obtain ⟨e, hb, hi⟩ := q
  subst e
  rw [h3, g2, n2]
  refine ⟨m_b32 hb, h1, fun u => ?_, fun v e => ?_⟩
  · have := hi.mp u
    exact ⟨h2, g0, k2, by omega, by omega⟩
  · have iv : i32 v := by
      rw [e]
      split
      · exact ⟨by decide, by decide⟩
      · exact (h1 _ _).1
    refine ⟨iv, h.same, ?_⟩
    unfold kdA9
    rw [e, hx.st, hc.1]
    by_cases y : x4 = 0
    · rw [if_pos y, if_neg (fun z => (hi.mpr z) y)]
      all_goals rfl
    · rw [if_neg y, if_pos (hi.mp y)]
      all_goals rfl
theorem e_CA_commands {l : Int} (il : i32 l) (h : CI c9 C n t Ps Pc M) (hx : XC c9.2 M t) : Ci G y_CA_commands (d + 1) [vr t, vi l] M (fun r M' => i32 r ∧ cQ c9 C n t Ps Pc M M' ∧ r = cnA9 c9.2.2.2.2.2.2.2.2 l) := by
  obtain ⟨cn, cc, bc, h1, ⟨h2, h3⟩, h4, h5⟩ := h.tg
  have hc := h5.cnt
  obtain ⟨g0, ⟨-, -, -, g4, -⟩, ⟨-, -, -, k4, -⟩, ⟨-, -, -, n4, -⟩⟩ := id h4
  refine k_CA_commands h1 il ?_
  rw [h3]
  refine ⟨h2, g0, (s_Ga_hasState il h1 g0 hc.1).mono (fun x4 M3 q => ?_)⟩
  obtain ⟨e, hb, hi⟩ := q
  subst e
  rw [h3, g4, n4]
  refine ⟨m_b32 hb, h1, fun u => ?_, fun v e => ?_⟩
  · have := hi.mp u
    exact ⟨h2, g0, k4, by omega, by omega⟩
  · have ev : i32 v ∧ v = cnA9 c9.2.2.2.2.2.2.2.2 l := by
      unfold cnA9
      rw [e, hx.st, hc.1]
      by_cases y : x4 = 0
      · rw [if_pos y, if_neg (fun z => (hi.mpr z) y)]
        exact ⟨⟨by decide, by decide⟩, rfl⟩
      · have z := hi.mp y
        obtain ⟨a, b, f1, f2, f2', f3, f4, f5, f6, f7⟩ := h5.row z
        rw [if_neg y, if_pos z, f1, f2]
        refine ⟨i32s (by omega) (by omega), ?_⟩
        show ((b : Nat) : Int) - ((a : Nat) : Int) = (((cml M3 (t + 62) (mI M3 (t + 62 + 4) l.toNat).toNat ((mI M3 (t + 62 + 4) (l.toNat + 1)).toNat - (mI M3 (t + 62 + 4) l.toNat).toNat)).length : Nat) : Int)
        rw [cml_map, List.length_map, List.length_range, f1, f2', Int.toNat_natCast, Int.toNat_natCast]
        omega
    exact ⟨ev.1, h.same, ev.2⟩
theorem e_Ga_commandAt {l1 l2 : Int} (i1 : i32 l1) (i2 : i32 l2) (h1 : mOk M) (hk : GK M g) (hr : GR M g cn cc bc) : Ci G y_Ga_commandAt (d + 1) [vr g, vi l1, vi l2] M (fun r M' => M' = M ∧ i32 r ∧ (cmdP M g cn l1 l2 → r = mI M (g + 4) l1.toNat + l2) ∧ (¬ cmdP M g cn l1 l2 → r = -1)) := by
  obtain ⟨g0, ⟨-, -, -, g4, -⟩, ⟨-, -, -, k4, -⟩, ⟨-, -, -, n4, -⟩⟩ := id hk
  have hc := hr.cnt
  refine k_Ga_commandAt h1 i1 i2 ⟨g0, (s_Ga_hasState i1 h1 g0 hc.1).mono (fun x3 M2 q => ?_)⟩
  obtain ⟨e2, hx, hiff⟩ := q
  subst e2
  have bad : ((x3 = 0) ∨ (l2 < 0) ∨ ¬ (l2 < mI M2 (g + 4) (l1 + 1).toNat - mI M2 (g + 4) l1.toNat)) → ¬ cmdP M2 g cn l1 l2 := fun u p => by
    rcases u with u | u | u
    · exact (hiff.mpr p.1) u
    · exact absurd p.2.1 (by omega)
    · exact u p.2.2
  have row : x3 ≠ 0 → ∃ a b : Nat, mI M2 (g + 4) l1.toNat = ((a : Nat) : Int) ∧ mI M2 (g + 4) (l1 + 1).toNat = ((b : Nat) : Int) ∧ mI M2 (g + 4) (l1.toNat + 1) = ((b : Nat) : Int) ∧ a ≤ b ∧ b ≤ cc ∧ cc ≤ 4096 ∧ 1 ≤ cn ∧ cn ≤ 512 := fun y => hr.row (hiff.mp y)
  clear hr
  rw [g4, n4]
  refine ⟨m_b32 hx, h1, fun y _ => ?_, fun u => ⟨rfl, ⟨by decide, by decide⟩, fun p => absurd p (bad u), fun _ => rfl⟩, fun y => ?_⟩
  · obtain ⟨a, b, f1, f2, -, f3, f4, f5, f6, f7⟩ := row y
    have b0 := hiff.mp y
    rw [f1, f2]
    exact ⟨g0, k4, by omega, by omega, ⟨by omega, by omega⟩⟩
  · have y0 : x3 ≠ 0 := fun t => y (Or.inl t)
    have b0 := hiff.mp y0
    obtain ⟨a, b, f1, f2, -, f3, f4, f5, f6, f7⟩ := row y0
    have y1 : 0 ≤ l2 := by
      by_cases t : l2 < 0
      · exact absurd (Or.inr (Or.inl t)) y
      · omega
    have y2 : l2 < mI M2 (g + 4) (Int.toNat (l1 + 1)) - mI M2 (g + 4) (Int.toNat l1) := Classical.byContradiction (fun t => y (Or.inr (Or.inr t)))
    have yy : cmdP M2 g cn l1 l2 := ⟨b0, y1, y2⟩
    rw [f1, f2] at y2
    rw [f1]
    exact ⟨g0, k4, by omega, rfl, ⟨by omega, by omega⟩, fun _ => rfl, fun n => absurd yy n⟩
/-- where a command's numbers stand -/
theorem XC.cm (h : XC i9 M t) (hr : GR M (t + 62) cn cc bc) (l1 l2 : Int) : (¬ cmdP M (t + 62) cn l1 l2 ∧ cmA9 i9.2.2.2.2.2.2.2 l1 l2 = none) ∨ (cmdP M (t + 62) cn l1 l2 ∧ ∃ j : Nat, mI M (t + 62 + 4) l1.toNat + l2 = ((j : Nat) : Int) ∧ j < cc ∧ 1 ≤ cn ∧ cmA9 i9.2.2.2.2.2.2.2 l1 l2 = some (cmm M (t + 62) j)) := by
  have hc := hr.cnt
  have hst := h.st l1
  unfold cmA9
  rw [hst, hc.1]
  by_cases y : 0 ≤ l1 ∧ l1 < ((cn : Nat) : Int)
  · obtain ⟨a, b, f1, f2, f2', f3, f4, f5, f6, f7⟩ := hr.row y
    rw [if_pos y]
    have red : ((some (stm M (t + 62) l1.toNat)).bind (fun x => if l2 < 0 then none else x.2[l2.toNat]?)) = if l2 < 0 then none else (cml M (t + 62) (mI M (t + 62 + 4) l1.toNat).toNat ((mI M (t + 62 + 4) (l1.toNat + 1)).toNat - (mI M (t + 62 + 4) l1.toNat).toNat))[l2.toNat]? := rfl
    rw [red]
    by_cases z : l2 < 0
    · rw [if_pos z]
      exact Or.inl ⟨fun u => absurd u.2.1 (by omega), rfl⟩
    · rw [if_neg z, cml_map, rget, f1, f2', Int.toNat_natCast, Int.toNat_natCast]
      by_cases u : l2 < ((b : Nat) : Int) - ((a : Nat) : Int)
      · rw [if_pos (by omega)]
        exact Or.inr ⟨⟨y, by omega, by rw [f1, f2]; exact u⟩, a + l2.toNat, by omega, by omega, f6, rfl⟩
      · rw [if_neg (by omega)]
        exact Or.inl ⟨fun v => u (by have := v.2.2; rw [f1, f2] at this; exact this), rfl⟩
  · rw [if_neg y]
    exact Or.inl ⟨fun u => y u.1, rfl⟩
theorem e_CA_command {l1 l2 : Int} (i1 : i32 l1) (i2 : i32 l2) (h : CI c9 C n t Ps Pc M) (hx : XC c9.2 M t) : Ci G y_CA_command (d + 2) [vr t, vi l1, vi l2] M (fun r M' => i32 r ∧ cQ c9 C n t Ps Pc M M' ∧ r = caA9 c9.2.2.2.2.2.2.2.2 l1 l2) := by
  obtain ⟨cn, cc, bc, h1, ⟨h2, h3⟩, h4, h5⟩ := h.tg
  obtain ⟨g0, ⟨-, -, -, -, g5, -⟩, ⟨-, -, -, -, k5, -⟩, ⟨-, -, -, -, n5, -⟩⟩ := id h4
  refine k_CA_command h1 i1 i2 ?_
  rw [h3]
  refine ⟨h2, g0, (e_Ga_commandAt (d := d) i1 i2 h1 h4 h5).mono (fun x4 M3 q => ?_)⟩
  obtain ⟨e, ix, hi⟩ := q
  subst e
  rw [h3, g5, n5]
  unfold caA9
  rcases hx.cm h5 l1 l2 with ⟨np, ec⟩ | ⟨yp, j, ej, jc, c1, ec⟩
  · have hi := hi.2 np
    rw [ec]
    exact ⟨ix, h1, fun u => absurd hi u, fun v e => ⟨by rw [e, if_pos hi]; exact ⟨by decide, by decide⟩, h.same, by rw [e, if_pos hi]; rfl⟩⟩
  · have hi := hi.1 yp
    rw [ej] at hi
    obtain ⟨b1, b2⟩ := h5.cmd c1
    obtain ⟨x, y, mu, e1, e2, e3, e4, e5, e6, e7, e8, e9, e10, e11⟩ := b2 j jc
    have nx : ¬ (x4 = -1) := by omega
    rw [ec]
    refine ⟨ix, h1, fun _ => ⟨h2, g0, k5, by omega, by omega⟩, fun v e => ?_⟩
    rw [if_neg nx, hi, Int.toNat_natCast] at e
    refine ⟨by rw [e]; exact (h1 _ _).1, h.same, ?_⟩
    rw [e]
    show mI M3 (t + 62 + 5) j = ((cmm M3 (t + 62) j).1 : Int)
    first
      | rfl
      | (show mI M3 (t + 62 + 5) j = (((mI M3 (t + 62 + 5) j).toNat : Nat) : Int); omega)
theorem e_CA_branches {l1 l2 : Int} (i1 : i32 l1) (i2 : i32 l2) (h : CI c9 C n t Ps Pc M) (hx : XC c9.2 M t) : Ci G y_CA_branches (d + 2) [vr t, vi l1, vi l2] M (fun r M' => i32 r ∧ cQ c9 C n t Ps Pc M M' ∧ r = bnA9 c9.2.2.2.2.2.2.2.2 l1 l2) := by
  obtain ⟨cn, cc, bc, h1, ⟨h2, h3⟩, h4, h5⟩ := h.tg
  obtain ⟨g0, ⟨-, -, -, -, -, -, g7, -⟩, ⟨-, -, -, -, -, -, k7, -⟩, ⟨-, -, -, -, -, -, n7, -⟩⟩ := id h4
  refine k_CA_branches h1 i1 i2 ?_
  rw [h3]
  refine ⟨h2, g0, (e_Ga_commandAt (d := d) i1 i2 h1 h4 h5).mono (fun x4 M3 q => ?_)⟩
  obtain ⟨e, ix, hi⟩ := q
  subst e
  rw [h3, g7, n7]
  unfold bnA9
  rcases hx.cm h5 l1 l2 with ⟨np, ec⟩ | ⟨yp, j, ej, jc, c1, ec⟩
  · have hi := hi.2 np
    rw [ec]
    exact ⟨ix, h1, fun u => absurd hi u, fun v e => ⟨by rw [e, if_pos hi]; exact ⟨by decide, by decide⟩, h.same, by rw [e, if_pos hi]; rfl⟩⟩
  · have hi := hi.1 yp
    rw [ej] at hi
    obtain ⟨b1, b2⟩ := h5.cmd c1
    obtain ⟨x, y, mu, e1, e2, e3, e4, -⟩ := b2 j jc
    have nx : ¬ (x4 = -1) := by omega
    rw [ec]
    refine ⟨ix, h1, fun _ => ⟨h2, g0, k7, by omega, by omega⟩, fun v e => ?_⟩
    rw [if_neg nx, hi, show (((j : Nat) : Int) + 1).toNat = j + 1 by omega, Int.toNat_natCast, e1, e2] at e
    refine ⟨by rw [e]; exact i32s (by omega) (by omega), h.same, ?_⟩
    rw [e]
    show ((y : Nat) : Int) - ((x : Nat) : Int) = (((brl M3 (t + 62) (mI M3 (t + 62 + 7) j).toNat ((mI M3 (t + 62 + 7) (j + 1)).toNat - (mI M3 (t + 62 + 7) j).toNat)).length : Nat) : Int)
    rw [brl_map, List.length_map, List.length_range, e1, e2, Int.toNat_natCast, Int.toNat_natCast]
    omega
theorem e_CA_branch {l1 l2 l3 l4 : Int} (i1 : i32 l1) (i2 : i32 l2) (i3 : i32 l3) (i4 : i32 l4) (h : CI c9 C n t Ps Pc M) (hx : XC c9.2 M t) : Ci G y_CA_branch (d + 2) [vr t, vi l1, vi l2, vi l3, vi l4] M (fun r M' => i32 r ∧ cQ c9 C n t Ps Pc M M' ∧ r = brA9 c9.2.2.2.2.2.2.2.2 l1 l2 l3 l4) := by
  obtain ⟨cn, cc, bc, h1, ⟨h2, h3⟩, h4, h5⟩ := h.tg
  obtain ⟨g0, ⟨-, -, -, -, -, g6, g7, g8, g9, -⟩, ⟨-, -, -, -, -, k6, k7, k8, k9, -⟩, ⟨-, -, -, -, -, n6, n7, n8, n9, -⟩⟩ := id h4
  refine k_CA_branch h1 i1 i2 i3 i4 ?_
  rw [h3]
  refine ⟨h2, g0, (e_Ga_commandAt (d := d) i1 i2 h1 h4 h5).mono (fun x4 M3 q => ?_)⟩
  obtain ⟨e, ix, hi⟩ := q
  subst e
  have same := h.same
  rw [h3, g7, n7, g6, n6, g9, n9]
  unfold brA9
  rcases hx.cm h5 l1 l2 with ⟨np, ec⟩ | ⟨yp, j, ej, jc, c1, ec⟩
  · have hi := hi.2 np
    rw [ec]
    exact ⟨ix, h1, fun w => absurd hi w, fun _ => ⟨⟨by decide, by decide⟩, same, rfl⟩, fun w => absurd (Or.inl hi) w⟩
  have hi := hi.1 yp
  rw [ej] at hi
  obtain ⟨b1, b2⟩ := h5.cmd c1
  have hm := b2 j jc
  obtain ⟨x, y, mu, e1, e2, e3, e4, e5, e6, e7, e8, e9, -⟩ := id hm
  have nx : ¬ (x4 = -1) := by omega
  have wl : ∀ i, x ≤ i → i < y → mI M3 (t + 62 + 9) i < 1000000000 := fun i a b => by
    have := wsm_le (M := M3) (g := t + 62) (x := x) (n := y - x) (fun i a b => (e5 i a (by omega)).2.2) (y - x) (Nat.le_refl _) i a (by omega)
    rw [e9] at this
    omega
  rw [ec, hi, show (((j : Nat) : Int) + 1).toNat = j + 1 by omega, Int.toNat_natCast, e1, e2, e6]
  have bq : bqA9 (cmm M3 (t + 62) j) l3 = if 0 ≤ l3 ∧ l3 < ((y : Nat) : Int) - ((x : Nat) : Int) then some ((mI M3 (t + 62 + 8) (x + l3.toNat)).toNat, mI M3 (t + 62 + 9) (x + l3.toNat)) else none := by
    unfold bqA9
    by_cases z : l3 < 0
    · rw [if_pos z, if_neg (by omega)]
    · rw [if_neg z]
      show (brl M3 (t + 62) (mI M3 (t + 62 + 7) j).toNat ((mI M3 (t + 62 + 7) (j + 1)).toNat - (mI M3 (t + 62 + 7) j).toNat))[l3.toNat]? = _
      rw [brl_map, rget, e1, e2, Int.toNat_natCast, Int.toNat_natCast]
      by_cases u : l3 < ((y : Nat) : Int) - ((x : Nat) : Int)
      · rw [if_pos (by omega), if_pos ⟨by omega, u⟩]
      · rw [if_neg (by omega), if_neg (fun v => u v.2)]
  have hmu : (cmm M3 (t + 62) j).2.1 = ((mu : Nat) : Int) := e6
  have red : ((some (cmm M3 (t + 62) j)).map (fun c => ((bqA9 c l3).map (b1A9 c.2.1 l4)).getD (-1))).getD (-1) = ((bqA9 (cmm M3 (t + 62) j) l3).map (b1A9 ((mu : Nat) : Int) l4)).getD (-1) := by
    rw [← hmu]
    all_goals rfl
  rw [red, bq]
  refine ⟨by rw [← hi]; exact ix, h1, fun _ _ => ⟨h2, g0, k7, by omega, by omega, i32s (by omega) (by omega)⟩, fun w => ⟨⟨by decide, by decide⟩, same, ?_⟩, fun v => ?_⟩
  · rw [if_neg (fun u => by rcases w with w | w | w <;> omega)]
    all_goals rfl
  have v1 : 0 ≤ l3 := by
    by_cases q : l3 < 0
    · exact absurd (Or.inr (Or.inl q)) v
    · omega
  have v2 : l3 < ((y : Nat) : Int) - ((x : Nat) : Int) := Classical.byContradiction (fun q => v (Or.inr (Or.inr q)))
  have ei : Int.toNat (((x : Nat) : Int) + l3) = x + l3.toNat := by omega
  have we := e5 (x + l3.toNat) (by omega) (by omega)
  have we2 := wl (x + l3.toNat) (by omega) (by omega)
  rw [ei, if_pos ⟨v1, v2⟩]
  have red2 : ((some ((mI M3 (t + 62 + 8) (x + l3.toNat)).toNat, mI M3 (t + 62 + 9) (x + l3.toNat))).map (b1A9 ((mu : Nat) : Int) l4)).getD (-1) = b1A9 ((mu : Nat) : Int) l4 ((mI M3 (t + 62 + 8) (x + l3.toNat)).toNat, mI M3 (t + 62 + 9) (x + l3.toNat)) := rfl
  rw [red2]
  unfold b1A9
  refine ⟨h2, g0, k7, by omega, k9, by omega, k6, by omega, (x_Ma_commonDivisor (d := d + 1) ⟨by omega, by omega⟩ ⟨by omega, by omega⟩ h1).mono (fun x27 M26 q => ?_)⟩
  obtain ⟨e, ⟨f1, f2⟩, f3⟩ := q
  subst e
  rw [h3, g8, n8, g9, n9, g6, n6, e6]
  have td : ∀ z : Int, 0 ≤ z → z < 1000000000 → i32 (Int.tdiv z x27) ∧ Int.tdiv z x27 = z / x27 := fun z z0 z1 => by
    rw [Int.tdiv_eq_ediv_of_nonneg z0]
    have p1 := Int.ediv_le_self x27 z0
    have p2 : 0 ≤ z / x27 := Int.ediv_nonneg z0 (by omega)
    exact ⟨⟨by omega, by omega⟩, rfl⟩
  have i27 : i32 x27 := ⟨by omega, by omega⟩
  refine ⟨⟨by omega, by omega⟩, h1, fun u0 => ⟨h2, g0, k8, by omega, (h1 _ _).1, same, ?_⟩, fun u0 => ⟨fun u1 => ⟨h2, g0, k9, by omega, i27, by omega, (td _ (by omega) we2).1, same, ?_⟩, fun u1 => ⟨fun u2 => ⟨h2, g0, k6, by omega, i27, by omega, (td _ (by omega) (by omega)).1, same, ?_⟩, fun u2 => ⟨⟨by decide, by decide⟩, same, ?_⟩⟩⟩⟩
  · rw [if_pos u0]
    show _ = (((mI M26 (t + 62 + 8) (x + l3.toNat)).toNat : Nat) : Int)
    omega
  · rw [if_neg u0, if_pos u1, (td _ (by omega) we2).2, f3]
    all_goals rfl
  · rw [if_neg u0, if_neg u1, if_pos u2, (td ((mu : Nat) : Int) (by omega) (by omega)).2, f3]
    all_goals rfl
  · rw [if_neg u0, if_neg u1, if_neg u2]
theorem e_CA_variable {l1 l2 : Int} (i1 : i32 l1) (i2 : i32 l2) (h : CI c9 C n t Ps Pc M) (hx : XC c9.2 M t) (hl : (0 ≤ l1 ∧ l1 < mI M (t + 62) 0) ∧ (0 ≤ l2 ∧ l2 < mI M (mR M t 4) 3)) : Ci G y_CA_variable (d + 1) [vr t, vi l1, vi l2] M (fun r M' => i32 r ∧ cQ c9 C n t Ps Pc M M' ∧ r = vaA9 c9.2.2.2.2.2.2.2.1 l1 l2) := by
  have same := h.same
  obtain ⟨T, Kt, N, A, B, D, Cw, p, O, P, K, p', O', P', K', Ab, Be, Cm, U, Ag, Bg, Cg, cn, cc, bc, Ls, v, R, k, Z, j⟩ := id h
  have r4 := j.2.1.1.2.2.1
  have c0 := j.tg.2.2.2.cnt.1
  obtain ⟨l11, l12⟩ := hl
  rw [c0] at l11
  rw [r4] at l12
  have c6 := j.2.2.2.2.2.2 (by omega)
  obtain ⟨V, F, ns, sf, ef, L, cnt, hw⟩ := j.2.1.2.2.2.2.2.2.1 c6
  have i3 := (j.2.1.2.2.2.2.2.2.2.2 c6).1
  have e3 := hw.2.2.1
  have kp := hw.1.1
  rw [e3.1] at l12
  obtain ⟨h1, ⟨h2, h3⟩, h4, h5⟩ := j.tg
  have hc := h5.cnt
  obtain ⟨g0, ⟨g1, -⟩, ⟨k1, -⟩, ⟨n1, -⟩⟩ := id h4
  have sne : c9.2.2.2.2.2.2.2.1 ≠ [] := fun z => by
    have x3 := hx.2.2.1
    rw [z, c0] at x3
    have : ((cn : Nat) : Int) = ((0 : Nat) : Int) := x3
    omega
  obtain ⟨W, hW, hS, -⟩ := hx.2.2.2.2 sne
  have ln := hx.2.2.1
  rw [c0] at ln
  refine k_CA_variable h1 i1 i2 ?_
  rw [h3]
  refine ⟨h2, g0, (s_Ga_hasState i1 h1 g0 hc.1).mono (fun x M3 q => ?_)⟩
  obtain ⟨e, hb, hi⟩ := q
  subst e
  have x0 := hi.mpr l11
  rw [h3, r4, e3.1, g1, n1]
  refine ⟨m_b32 hb, h1, fun _ _ => ⟨h2, kp⟩, fun u => ?_, fun _ => ⟨h2, g0, k1, by omega, (h1 _ _).1, same, ?_⟩⟩
  · rcases u with u | u | u
    · exact absurd u x0
    · omega
    · omega
  · have hWV : W = V := by
      have : (W : Int) = mI M3 p 3 := hW.trans i3.symm
      rw [e3.1] at this
      omega
    unfold vaA9
    rw [← hS]
    unfold Sm9
    rw [rget, if_pos (by omega)]
    show _ = ((lsm M3 (t + 62) W l1.toNat)[l2.toNat]?).getD 0
    unfold lsm
    rw [rget, if_pos (by omega)]
    show _ = mI M3 (t + 62 + 1) (12 * l1.toNat + l2.toNat)
    rw [show (l1 * 12 + l2).toNat = 12 * l1.toNat + l2.toNat by omega]
end CAS
