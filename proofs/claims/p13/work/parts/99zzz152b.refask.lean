/-! The reference answers the questions about the states as the tables say. -/
section RAS
variable {G : mG} {d a : Nat} {M M' : mM} {Nt9 : tP9} {i9 : tI9}
theorem XE.st (h : XE i9 M a) (l : Int) : stA9 i9.2.2.2.2.2.2.2 l = if 0 ≤ l ∧ l < mI M a 29 then some (stR M a l.toNat) else none := by
  obtain ⟨-, -, h3, h4, h5⟩ := h
  unfold stA9
  by_cases y : l < 0
  · rw [if_pos y, if_neg (by omega)]
  rw [if_neg y]
  by_cases z : i9.2.2.2.2.2.2.1 = []
  · rw [h4 z, if_neg (by rw [h3, z]; show ¬ (0 ≤ l ∧ l < ((0 : Nat) : Int)); omega)]
    all_goals rfl
  · obtain ⟨W, -, ⟨L, w, B, -, -, -, -, -, -, -, -, hT⟩, -⟩ := h5 z
    rw [← hT]
    unfold xtR
    rw [rget]
    by_cases u : 0 ≤ l ∧ l < mI M a 29
    · rw [if_pos u, if_pos (by omega)]
    · rw [if_neg u, if_neg (by omega)]
/-- the tables of a state that is there -/
theorem XE.xf (h : XE i9 M a) {l : Int} (hl : 0 ≤ l ∧ l < mI M a 29) : ∃ W : Nat, (W : Int) = i9.2.1 ∧ XF M a W i9.2.2.2.2.2.2.1 i9.2.2.2.2.2.2.2 := by
  obtain ⟨-, -, h3, -, h5⟩ := h
  have ne : i9.2.2.2.2.2.2.1 ≠ [] := fun z => by
    rw [z] at h3
    have : mI M a 29 = ((0 : Nat) : Int) := h3
    omega
  obtain ⟨W, w1, w2, -⟩ := h5 ne
  exact ⟨W, w1, w2⟩
theorem e_MM_isState {l : Int} (hl : i32 l) (h : RI Nt9 M a) : Ci G y_MM_isState d [vr a, vi l] M (fun r M' => rQ Nt9 M a r M' ∧ (r ≠ 0 ↔ (0 ≤ l ∧ l < mI M' a 29))) := by
  refine k_MM_isState h.1 hl ⟨h.2.1.1.1, fun M2 e2 v e => ?_⟩
  obtain ⟨r2, F2, -⟩ := h.step ⟨by decide, by decide⟩ ⟨by decide, by decide, by decide⟩ e2
  by_cases y : l < 0 ∨ mI M2 a 29 ≤ l
  · rw [if_pos y] at e
    exact ⟨⟨by rw [e]; exact ⟨by decide, by decide⟩, r2, F2⟩, fun z => absurd e z, fun z => by omega⟩
  · rw [if_neg y] at e
    exact ⟨⟨by rw [e]; exact ⟨by decide, by decide⟩, r2, F2⟩, fun _ => by omega, fun _ => by rw [e]; decide⟩
theorem e_MM_kind {l : Int} (hl : i32 l) (h : RI Nt9 M a) : Ci G y_MM_kind (d + 1) [vr a, vi l] M (fun r M' => rQ Nt9 M a r M' ∧ r = kdA9 Nt9.2.2.2.2.2.2.2.2.2 l) := by
  refine k_MM_kind h.1 hl ⟨h.2.1.1.1, (e_MM_isState hl h).mono (fun x M1 q => ?_)⟩
  obtain ⟨⟨ix, r1, F1⟩, hx⟩ := q
  have b := r1.n5
  have A := r1.2.1.pl4
  rw [r1.2.1.pl3.2.1]
  refine ⟨ix, r1.1, fun y => ⟨r1.2.1.1.1, A.2.1.1, by rw [A.2.1.2]; have := hx.mp y; omega⟩, fun v e => ⟨⟨?_, r1, F1⟩, ?_⟩⟩
  · rw [e]
    split
    · exact ⟨by decide, by decide⟩
    · exact (r1.1 _ _).1
  · unfold kdA9
    rw [e, r1.xe.st]
    by_cases y : x = 0
    · rw [if_pos y, if_neg (fun z => (hx.mpr z) y)]
      all_goals rfl
    · rw [if_neg y, if_pos (hx.mp y)]
      all_goals rfl
theorem e_MM_commands {l : Int} (hl : i32 l) (h : RI Nt9 M a) : Ci G y_MM_commands (d + 1) [vr a, vi l] M (fun r M' => rQ Nt9 M a r M' ∧ r = cnA9 Nt9.2.2.2.2.2.2.2.2.2 l) := by
  refine k_MM_commands h.1 hl ⟨h.2.1.1.1, (e_MM_isState hl h).mono (fun x M1 q => ?_)⟩
  obtain ⟨⟨ix, r1, F1⟩, hx⟩ := q
  have b := r1.n5
  have A := r1.2.1.pl4
  rw [r1.2.1.pl3.2.2.2.1]
  refine ⟨ix, r1.1, fun y => ⟨r1.2.1.1.1, A.2.2.2.1, by rw [A.2.2.2.2]; have := hx.mp y; omega⟩, fun v e => ⟨⟨?_, r1, F1⟩, ?_⟩⟩
  · rw [e]
    split
    · exact ⟨by decide, by decide⟩
    · exact (r1.1 _ _).1
  · unfold cnA9
    rw [e, r1.xe.st]
    by_cases y : x = 0
    · rw [if_pos y, if_neg (fun z => (hx.mpr z) y)]
      all_goals rfl
    · have z := hx.mp y
      rw [if_neg y, if_pos z]
      have y1 := ((r1.2.2.2.2.2.2.1 (by omega)).2.1 l.toNat (by omega)).2.1
      show mI M1 (a + 108) l.toNat = (((cmL M1 a (mI M1 (a + 107) l.toNat).toNat (mI M1 (a + 108) l.toNat).toNat).length : Nat) : Int)
      unfold cmL
      rw [List.length_map, List.length_range]
      omega
/-- a command: where it stands -/
def cpR (M : mM) (a : Nat) (l1 l2 : Int) : Prop := (0 ≤ l1 ∧ l1 < mI M a 29) ∧ 0 ≤ l2 ∧ l2 < mI M (a + 108) l1.toNat
theorem e_MM_isCommand {l1 l2 : Int} (i1 : i32 l1) (i2 : i32 l2) (h : RI Nt9 M a) : Ci G y_MM_isCommand (d + 1) [vr a, vi l1, vi l2] M (fun r M' => rQ Nt9 M a r M' ∧ (r ≠ 0 ↔ cpR M' a l1 l2)) := by
  refine k_MM_isCommand h.1 i1 i2 ⟨h.2.1.1.1, (e_MM_isState i1 h).mono (fun x M1 q => ?_)⟩
  obtain ⟨⟨ix, r1, F1⟩, hx⟩ := q
  have b := r1.n5
  have A := r1.2.1.pl4
  rw [r1.2.1.pl3.2.2.2.1]
  refine ⟨ix, r1.1, fun y _ => ⟨r1.2.1.1.1, A.2.2.2.1, by rw [A.2.2.2.2]; have := hx.mp y; omega⟩, fun v e => ?_⟩
  by_cases y : x = 0 ∨ l2 < 0 ∨ mI M1 (a + 108) l1.toNat ≤ l2
  · rw [if_pos y] at e
    exact ⟨⟨by rw [e]; exact ⟨by decide, by decide⟩, r1, F1⟩, fun z => absurd e z, fun z => by
      rcases y with y | y | y
      · exact absurd y (hx.mpr z.1)
      · exact absurd z.2.1 (by omega)
      · exact absurd z.2.2 (by omega)⟩
  · rw [if_neg y] at e
    exact ⟨⟨by rw [e]; exact ⟨by decide, by decide⟩, r1, F1⟩, fun _ => ⟨hx.mp (by omega), by omega, by omega⟩, fun _ => by rw [e]; decide⟩
theorem XE.cm1 (h : XE i9 M a) {l1 l2 : Int} (n : ¬ cpR M a l1 l2) : cmA9 i9.2.2.2.2.2.2.2 l1 l2 = none := by
  unfold cmA9
  rw [h.st]
  by_cases y : 0 ≤ l1 ∧ l1 < mI M a 29
  · rw [if_pos y]
    show (if l2 < 0 then none else (cmL M a (mI M (a + 107) l1.toNat).toNat (mI M (a + 108) l1.toNat).toNat)[l2.toNat]?) = _
    by_cases z : l2 < 0
    · rw [if_pos z]
    · rw [if_neg z]
      unfold cmL
      rw [rget, if_neg (fun u => n ⟨y, by omega, by omega⟩)]
  · rw [if_neg y]
    all_goals rfl
theorem XE.cm2 (h : XE i9 M a) {l1 l2 : Int} (c : cpR M a l1 l2) : cmA9 i9.2.2.2.2.2.2.2 l1 l2 = some (cmQ M a ((mI M (a + 107) l1.toNat).toNat + l2.toNat)) := by
  obtain ⟨y, z, u⟩ := c
  unfold cmA9
  rw [h.st, if_pos y]
  show (if l2 < 0 then none else (cmL M a (mI M (a + 107) l1.toNat).toNat (mI M (a + 108) l1.toNat).toNat)[l2.toNat]?) = _
  rw [if_neg (by omega)]
  unfold cmL
  rw [rget, if_pos (by omega)]
theorem e_MM_branches {l1 l2 : Int} (i1 : i32 l1) (i2 : i32 l2) (h : RI Nt9 M a) : Ci G y_MM_branches (d + 2) [vr a, vi l1, vi l2] M (fun r M' => rQ Nt9 M a r M' ∧ r = bnA9 Nt9.2.2.2.2.2.2.2.2.2 l1 l2) := by
  refine k_MM_branches h.1 i1 i2 ⟨h.2.1.1.1, (e_MM_isCommand i1 i2 h).mono (fun x M1 q => ?_)⟩
  obtain ⟨⟨ix, r1, F1⟩, hx⟩ := q
  have b := r1.n5
  have w := r1.2.1
  refine ⟨ix, r1.1, fun u => ⟨⟨⟨by decide, by decide⟩, r1, F1⟩, ?_⟩, fun y => ?_⟩
  · unfold bnA9
    rw [r1.xe.cm1 (fun z => (hx.mpr z) u)]
    all_goals rfl
  have hc := hx.mp y
  have cm := r1.xe.cm2 hc
  obtain ⟨q1, q2, q3⟩ := hc
  obtain ⟨j, e, j1, j2, j3, -, j5, -⟩ := r1.cm q1 q2 q3
  have y1 := ((r1.2.2.2.2.2.2.1 (by omega)).2.1 l1.toNat (by omega)).1
  have ej : (mI M1 (a + 107) l1.toNat).toNat + l2.toNat = j := by omega
  rw [ej] at cm
  have A := w.pl4
  rw [w.pl3.2.2.1, w.pl3.2.2.2.2.2.2.1, e]
  have hN := w.nu (p := a + 113) (nums_o (by decide))
  refine ⟨w.1.1, A.2.2.1.1, by rw [A.2.2.1.2]; omega, hN.1, (s_MN_at r1.1 hN (by omega)).mono (fun z M2 q2 => ?_)⟩
  obtain ⟨e2, e3⟩ := q2
  subst e2
  have iz : i32 z := by rw [e3]; exact (r1.1 _ _).1
  refine ⟨iz, r1.1, ⟨iz, r1, F1⟩, ?_⟩
  unfold bnA9
  rw [cm, e3]
  show nt M2 (a + 113) j = (((brR M2 a (nt M2 (a + 111) j).toNat (nt M2 (a + 115) j) (nt M2 (a + 113) j).toNat).length : Nat) : Int)
  unfold brR
  rw [List.length_map, List.length_range]
  omega
theorem e_MM_branch1 {l1 l2 l3 l4 : Int} (i1 : i32 l1) (i2 : i32 l2) (i3 : i32 l3) (i4 : i32 l4) (h : RI Nt9 M a) : Ci G y_MM_branch1 (d + 2) [vr a, vi l1, vi l2, vi l3, vi l4] M (fun r M' => (RI Nt9 M' a ∧ FX M a M') ∧ r = brA9 Nt9.2.2.2.2.2.2.2.2.2 l1 l2 l3 l4) := by
  refine k_MM_branch1 h.1 i1 i2 i3 i4 ⟨h.2.1.1.1, (e_MM_isCommand i1 i2 h).mono (fun x M1 q => ?_)⟩
  obtain ⟨⟨ix, r1, F1⟩, hx⟩ := q
  have b := r1.n5
  have w := r1.2.1
  refine ⟨ix, r1.1, fun u => ⟨⟨r1, F1⟩, ?_⟩, fun y => ?_⟩
  · unfold brA9
    by_cases hc : cpR M1 a l1 l2
    · rw [r1.xe.cm2 hc]
      have u3 : l3 < 0 := by
        rcases u with u | u
        · exact absurd u (hx.mpr hc)
        · exact u
      show -1 = ((bqA9 _ l3).map _).getD (-1)
      unfold bqA9
      rw [if_pos u3]
      all_goals rfl
    · rw [r1.xe.cm1 hc]
      all_goals rfl
  have hc := hx.mp (fun z => y (Or.inl z))
  have cm := r1.xe.cm2 hc
  obtain ⟨q1, q2, q3⟩ := hc
  obtain ⟨j, e, j1, j2, j3, j4, j5, j6, -⟩ := r1.cm q1 q2 q3
  have y1 := ((r1.2.2.2.2.2.2.1 (by omega)).2.1 l1.toNat (by omega)).1
  have ej : (mI M1 (a + 107) l1.toNat).toNat + l2.toNat = j := by omega
  rw [ej] at cm
  have y3 : 0 ≤ l3 := Int.not_lt.mp (fun z => y (Or.inr z))
  have A := w.pl4
  rw [w.pl3.2.2.1, w.pl3.2.2.2.2.2.2.1, e]
  have hN := w.nu (p := a + 113) (nums_o (by decide))
  have hN1 := w.nu (p := a + 111) (nums_o (by decide))
  refine ⟨w.1.1, A.2.2.1.1, by rw [A.2.2.1.2]; omega, hN.1, (s_MN_at r1.1 hN (by omega)).mono (fun z M2 q2 => ?_)⟩
  obtain ⟨e2, e3⟩ := q2
  subst e2
  have iz : i32 z := by rw [e3]; exact (r1.1 _ _).1
  have bq : bqA9 (cmQ M2 a j) l3 = if l3 < z then some ((mI M2 (a + 21185) ((nt M2 (a + 111) j).toNat + l3.toNat)).toNat, mL M2 (a + 21186) ((nt M2 (a + 111) j).toNat + l3.toNat) * (nt M2 (a + 115) j / mL M2 (a + 21187) ((nt M2 (a + 111) j).toNat + l3.toNat))) else none := by
    unfold bqA9
    rw [if_neg (by omega)]
    show (brR M2 a (nt M2 (a + 111) j).toNat (nt M2 (a + 115) j) (nt M2 (a + 113) j).toNat)[l3.toNat]? = _
    unfold brR
    rw [rget, e3]
    by_cases u : l3 < nt M2 (a + 113) j
    · rw [if_pos (by omega), if_pos u]
    · rw [if_neg (by omega), if_neg u]
  refine ⟨iz, r1.1, fun u => ⟨⟨r1, F1⟩, ?_⟩, fun u => ?_⟩
  · unfold brA9
    rw [cm]
    show -1 = ((bqA9 (cmQ M2 a j) l3).map (b1A9 (nt M2 (a + 115) j) l4)).getD (-1)
    rw [bq]
    by_cases v : l3 < z
    · rw [if_pos v]
      show -1 = b1A9 _ l4 _
      unfold b1A9
      rw [if_neg (by omega), if_neg (by omega), if_neg (by omega)]
    · rw [if_neg v]
      all_goals rfl
  have uz : l3 < z := Int.not_le.mp (fun t => u (Or.inl t))
  rw [if_pos uz] at bq
  rw [w.pl3.2.2.1, w.pl3.2.2.2.2.2.1, e]
  refine ⟨w.1.1, A.2.2.1.1, by rw [A.2.2.1.2]; omega, hN1.1, (s_MN_at r1.1 hN1 (by omega)).mono (fun t M3 q3 => ?_)⟩
  obtain ⟨e4, e5⟩ := q3
  subst e4
  have it : i32 t := by rw [e5]; exact (r1.1 _ _).1
  have B := w.pl6
  have C := w.pl5
  have bt : (0 : Int) ≤ t + l3 ∧ t + l3 < ((4096 : Nat) : Int) := by omega
  rw [C.1.1, C.1.2.1, C.1.2.2, B.1.2, B.2.1.2, B.2.2.1.2]
  refine ⟨it, r1.1, ⟨fun _ => ⟨w.1.1, B.1.1, bt⟩, fun _ => ⟨fun _ => ⟨w.1.1, B.2.1.1, bt⟩, fun _ => ⟨w.1.1, B.2.2.1.1, bt⟩⟩⟩, fun v ev => ⟨⟨r1, F1⟩, ?_⟩⟩
  obtain ⟨W, -, L, wn, Bn, -, -, hWy, ⟨hL, -⟩, ⟨hB0, hBL⟩, hok, hWc, -⟩ := r1.xe.xf q1
  have jL : j < L := by rw [hL] at j1; omega
  have ok := hok j jL
  have mono : ∀ m k, k + m ≤ L → Bn k ≤ Bn (k + m) := fun m => by
    induction m with
    | zero => exact fun k _ => Nat.le_refl _
    | succ m ih => exact fun k hk => Nat.le_trans (ih k (by omega)) (Nat.le_of_lt (hok (k + m) (by omega)).1.1)
  have bL : Bn (j + 1) ≤ wn := by
    have := mono (L - (j + 1)) (j + 1) (by omega)
    rw [show j + 1 + (L - (j + 1)) = L by omega, hBL] at this
    exact this
  obtain ⟨⟨o1, o2⟩, ⟨o3, o4⟩, ⟨o5, o6⟩, o7, -⟩ := ok
  have ei : (t + l3).toNat = (nt M3 (a + 111) j).toNat + l3.toNat := by omega
  have eB : (nt M3 (a + 111) j).toNat = Bn j := by omega
  have lt : l3.toNat < Bn (j + 1) - Bn j := by omega
  have Wyj := hWy (Bn j + l3.toNat) (by omega)
  have Wcj := hWc (Bn j + l3.toNat) (by omega)
  have dv := o7 (Bn j + l3.toNat) (by omega) (by omega)
  rw [ei, eB] at ev
  rw [eB] at bq
  unfold brA9
  rw [cm]
  show v = ((bqA9 (cmQ M3 a j) l3).map (b1A9 (nt M3 (a + 115) j) l4)).getD (-1)
  rw [bq]
  show v = b1A9 (nt M3 (a + 115) j) l4 _
  unfold b1A9
  have lw := low9 Wyj.2.1.1 Wyj.2.2.1 (show 0 < nt M3 (a + 115) j by omega) Wcj dv
  rw [ev]
  by_cases u0 : l4 = 0
  · rw [if_pos u0, if_pos u0]
    show _ = (((mI M3 (a + 21185) (Bn j + l3.toNat)).toNat : Nat) : Int)
    have := Wyj.1.1
    omega
  · rw [if_neg u0, if_neg u0]
    by_cases u1 : l4 = 1
    · rw [if_pos u1, if_pos u1]
      exact lw.1.symm
    · rw [if_neg u1, if_neg u1, if_pos (by omega)]
      exact lw.2.symm
theorem e_MM_variable {l1 l2 : Int} (i1 : i32 l1) (i2 : i32 l2) (h : RI Nt9 M a) : Ci G y_MM_variable d [vr a, vi l1, vi l2] M (fun r M' => rQ Nt9 M a r M' ∧ ((¬ ((0 ≤ l1 ∧ l1 < ((Nt9.2.2.2.2.2.2.2.2.1.length : Nat) : Int)) ∧ (0 ≤ l2 ∧ l2 < Nt9.2.2.2.1)) ∧ mI M' a 0 = 1) ∨ (((0 ≤ l1 ∧ l1 < ((Nt9.2.2.2.2.2.2.2.2.1.length : Nat) : Int)) ∧ (0 ≤ l2 ∧ l2 < Nt9.2.2.2.1)) ∧ mI M' a 0 = 0 ∧ r = vaA9 Nt9.2.2.2.2.2.2.2.2.1 l1 l2))) := by
  have k9 := (h.2.1.gp h.2.1.g9).1
  refine k_MM_variable h.1 i1 i2 ⟨fun _ => ⟨h.2.1.1.1, fun _ _ => k9⟩, fun v e => ⟨h.2.1.1.1, fun M2 e2 => ?_⟩⟩
  have iv : i32 v := by rw [e]; split <;> exact ⟨by decide, by decide⟩
  obtain ⟨r2, F2, f2⟩ := h.step iv ⟨by decide, by decide, by decide⟩ e2
  have n29 := h.xe.2.2.1
  have gw : mI M a 11 ≠ 0 → mI M (mR M a 9) 12 = Nt9.2.2.2.1 ∧ Nt9.2.2.2.1 ≤ 12 := fun kn => by
    obtain ⟨T, R, W, C, Z, E, tg, g1, g2, g3, g4, g5, g6, q1, -⟩ := h.2.2.2.2.2.1 kn
    have bW := g5.1
    have eW := g3.2.1
    exact ⟨q1, by rw [← q1]; omega⟩
  refine ⟨fun q => ?_, fun v18 e18 => ⟨⟨?_, r2, F2⟩, ?_⟩⟩
  · have b := h.2.2.2.1
    rw [f2, if_pos rfl] at q
    by_cases y : l1 < 0 ∨ mI M a 29 ≤ l1 ∨ l2 < 0 ∨ ¬ l2 < mI M (mR M a 9) 12
    · rw [if_pos y] at e
      omega
    · have kn : mI M a 11 ≠ 0 := (h.2.2.2.2.2.2.1 (by omega)).1
      have := gw kn
      rw [r2.2.1.pl3.1, r2.2.1.pl4.1.1, r2.2.1.pl4.1.2]
      exact ⟨rfl, by omega, by omega⟩
  · rw [e18]
    split
    · exact (r2.1 _ _).1
    · exact ⟨by decide, by decide⟩
  · have v0 : mI M2 a 0 = v := by rw [f2, if_pos rfl]
    rw [v0] at e18 ⊢
    by_cases y : l1 < 0 ∨ mI M a 29 ≤ l1 ∨ l2 < 0 ∨ ¬ l2 < mI M (mR M a 9) 12
    · rw [if_pos y] at e
      refine Or.inl ⟨fun z => ?_, e⟩
      have kn : mI M a 11 ≠ 0 := (h.2.2.2.2.2.2.1 (by omega)).1
      have := gw kn
      omega
    · rw [if_neg y] at e
      have kn : mI M a 11 ≠ 0 := (h.2.2.2.2.2.2.1 (by omega)).1
      have gg := gw kn
      have rg : (0 ≤ l1 ∧ l1 < ((Nt9.2.2.2.2.2.2.2.2.1.length : Nat) : Int)) ∧ (0 ≤ l2 ∧ l2 < Nt9.2.2.2.1) := ⟨⟨by omega, by omega⟩, by omega, by omega⟩
      refine Or.inr ⟨rg, e, ?_⟩
      rw [if_pos (by omega), r2.2.1.pl3.1] at e18
      have n2 : mI M2 a 29 = mI M a 29 := by rw [f2, if_neg (by decide)]
      obtain ⟨W, hW, L, wn, Bn, -, -, -, -, -, -, -, hS, -⟩ := r2.xe.xf (l := l1) (by rw [n2]; omega)
      unfold vaA9
      rw [← hS]
      unfold SmR
      rw [rget, if_pos (by omega)]
      show v18 = ((lsR M2 a W l1.toNat)[l2.toNat]?).getD 0
      unfold lsR
      rw [rget, if_pos (by omega), e18]
      show _ = mI M2 (a + 105) (12 * l1.toNat + l2.toNat)
      rw [show (12 * l1 + l2).toNat = 12 * l1.toNat + l2.toNat by omega]
end RAS
