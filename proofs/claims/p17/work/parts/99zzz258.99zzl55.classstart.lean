/-! The class, as its constructor leaves it, is at rest. -/
def lsO : List Nat := [87, 89, 91, 93, 95, 97, 100, 102, 105, 107, 110, 112, 123, 125, 127, 129, 131, 133, 135, 137, 139, 141, 143, 145, 147, 149, 151, 153, 155, 157, 159, 161, 163, 165, 167, 169, 171, 173, 175, 177, 179, 181, 183, 185, 187, 189, 191, 193, 195, 197, 199, 201, 203, 205, 216, 218, 228, 231, 233]
theorem lca_ls : lsO.all (fun o => match LCA[o]?, LCA[o + 1]? with | some r, some r' => bqR r (10, 0, [(0, o + 1)], .inl [(1, 0)]) && bqR r' (30, 4, [], .inl []) | _, _ => false) = true := by decide +kernel
theorem lca_at {o : Nat} (h : o ∈ lsO) : LCA[o]? = some (10, 0, [(0, o + 1)], .inl [(1, 0)]) ∧ LCA[o + 1]? = some (30, 4, [], .inl []) := by
  have q := List.all_eq_true.mp lca_ls o h
  revert q
  cases LCA[o]? with
  | none => intro q; simp at q
  | some r =>
    cases LCA[o + 1]? with
    | none => intro q; simp at q
    | some r' =>
      intro q
      have q' : (bqR r (10, 0, [(0, o + 1)], .inl [(1, 0)]) && bqR r' (30, 4, [], .inl [])) = true := q
      rw [Bool.and_eq_true] at q'
      rw [bqR_eq q'.1, bqR_eq q'.2]
      exact ⟨rfl, rfl⟩
theorem lsO_lt : ∀ o ∈ lsO, 87 ≤ o ∧ o + 1 ≤ 234 := by decide +kernel
theorem lsO_nd : lsO.Nodup := by decide +kernel
theorem lsO_R : ∀ i ∈ List.range 7, (116 + i < 236 ∧ 116 + i ∉ lsO ∧ ∀ o ∈ lsO, o + 1 ≠ 116 + i) := by decide +kernel
theorem lsO_G : ∀ i ∈ List.range 10, (62 + i < 236 ∧ 62 + i ∉ lsO ∧ ∀ o ∈ lsO, o + 1 ≠ 62 + i) := by decide +kernel
theorem lsO_9 : ∀ i ∈ List.range 41, 125 + 2 * i ∈ lsO := by decide +kernel
def Lst (t : Nat) : List Nat := lsO.map (fun o => t + o)
section CST
variable {t : Nat} {M : mM} {c9 : Nat → Int}
theorem lst_off {x : Nat} : x ∈ Lst t ↔ ∃ o, o ∈ lsO ∧ x = t + o := by
  unfold Lst
  rw [List.mem_map]
  exact ⟨fun ⟨o, h1, h2⟩ => ⟨o, h1, h2.symm⟩, fun ⟨o, h1, h2⟩ => ⟨o, h1, h2.symm⟩⟩
theorem lst_m {o : Nat} (h : o ∈ lsO) : t + o ∈ Lst t := lst_off.2 ⟨o, h, rfl⟩
theorem lst_num (hP : Pic LCA t M) (hz : mZ M = t + 236) {o : Nat} (h : o ∈ lsO) : Nt M (t + o) (t + o + 1) 4 0 := by
  obtain ⟨a1, a2⟩ := lca_at h
  have lt := lsO_lt o h
  have R := hP o _ a1
  have R' := hP (o + 1) _ a2
  exact ⟨⟨R.1, (R.2.2.1 0).trans rfl, R'.1, R'.2.1, ⟨by decide, by decide⟩, by omega, by omega, by omega⟩, R.2.2.2.2 1, by decide, fun j hj => absurd hj (by omega), fun u => absurd u (by decide)⟩
theorem lst_r0 (hP : Pic LCA t M) {o : Nat} (h : o ∈ lsO) : mR M (t + o) 0 = t + o + 1 := by
  obtain ⟨a1, a2⟩ := lca_at h
  exact ((hP o _ a1).2.2.1 0).trans rfl
theorem lst_cp (hP : Pic LCA t M) {o : Nat} (h : o ∈ lsO) : cp M (t + o) = 4 := by
  obtain ⟨a1, a2⟩ := lca_at h
  unfold cp
  rw [lst_r0 hP h]
  exact (hP (o + 1) _ a2).2.1
theorem lst_nf (hP : Pic LCA t M) (hz : mZ M = t + 236) : NF (Lst t) (Wt t) M := by
  refine ⟨List.Pairwise.map _ (fun x y h => by omega) lsO_nd, fun a ha => ?_, fun a b ha hb e => ?_⟩
  · obtain ⟨o, h1, h2⟩ := lst_off.1 ha
    subst h2
    have lt := lsO_lt o h1
    have w : Wt t (t + o) = 300 := by unfold Wt; rw [if_pos (by omega)]
    refine ⟨⟨0, ?_⟩, by rw [lst_cp hP h1, w]; decide, by rw [w]; decide⟩
    rw [lst_r0 hP h1, lst_cp hP h1]
    exact lst_num hP hz h1
  · obtain ⟨o, h1, h2⟩ := lst_off.1 ha
    obtain ⟨o', h3, h4⟩ := lst_off.1 hb
    subst h2
    subst h4
    rw [lst_r0 hP h1, lst_r0 hP h3] at e
    omega
theorem lst_oc (hP : Pic LCA t M) (hz : mZ M = t + 236) (c : Nat) (hc : c < 236 ∧ c ∉ lsO ∧ ∀ o ∈ lsO, o + 1 ≠ c) : Oc (Lst t) M (t + c) := by
  refine ⟨by omega, fun u => ?_, fun a ha e => ?_⟩
  · obtain ⟨o, h1, h2⟩ := lst_off.1 u
    have : o = c := by omega
    subst this
    exact hc.2.1 h1
  · obtain ⟨o, h1, h2⟩ := lst_off.1 ha
    subst h2
    rw [lst_r0 hP h1] at e
    exact hc.2.2 o h1 (by omega)
theorem st_tx (hP : Pic LCA t M) (hO : mOk M) (hz : mZ M = t + 236) : Tx (c9, 0, 0, 0, 0, x09, e09) t (t + 1) 256 0 (t + 4) (t + 5) (t + 6) 128 (t + 30) (t + 31) (t + 32) 128 (t + 46) (t + 47) (t + 48) 128 (t + 21) (t + 22) 64 M := by
  have R0 := hP 0 _ rfl
  have R1 := hP 1 _ rfl
  have R2 := hP 2 _ rfl
  have R4 := hP 4 _ rfl
  have R5 := hP 5 _ rfl
  have R6 := hP 6 _ rfl
  have R7 := hP 7 _ rfl
  have R8 := hP 8 _ rfl
  have R9 := hP 9 _ rfl
  have R10 := hP 10 _ rfl
  have R11 := hP 11 _ rfl
  have R12 := hP 12 _ rfl
  have R13 := hP 13 _ rfl
  have R14 := hP 14 _ rfl
  have R15 := hP 15 _ rfl
  have R16 := hP 16 _ rfl
  have R17 := hP 17 _ rfl
  have R18 := hP 18 _ rfl
  have R19 := hP 19 _ rfl
  have R20 := hP 20 _ rfl
  have R21 := hP 21 _ rfl
  have R22 := hP 22 _ rfl
  have R23 := hP 23 _ rfl
  have R24 := hP 24 _ rfl
  have R25 := hP 25 _ rfl
  have R26 := hP 26 _ rfl
  have R27 := hP 27 _ rfl
  have R28 := hP 28 _ rfl
  have R29 := hP 29 _ rfl
  have R30 := hP 30 _ rfl
  have R31 := hP 31 _ rfl
  have R32 := hP 32 _ rfl
  have R33 := hP 33 _ rfl
  have R34 := hP 34 _ rfl
  have R35 := hP 35 _ rfl
  have R36 := hP 36 _ rfl
  have R37 := hP 37 _ rfl
  have R38 := hP 38 _ rfl
  have R39 := hP 39 _ rfl
  have R40 := hP 40 _ rfl
  have R41 := hP 41 _ rfl
  have R42 := hP 42 _ rfl
  have R43 := hP 43 _ rfl
  have R44 := hP 44 _ rfl
  have R45 := hP 45 _ rfl
  have R46 := hP 46 _ rfl
  have R47 := hP 47 _ rfl
  have R48 := hP 48 _ rfl
  have R49 := hP 49 _ rfl
  have R50 := hP 50 _ rfl
  have R51 := hP 51 _ rfl
  have R52 := hP 52 _ rfl
  have R53 := hP 53 _ rfl
  have R54 := hP 54 _ rfl
  have R55 := hP 55 _ rfl
  have R56 := hP 56 _ rfl
  have R57 := hP 57 _ rfl
  have R58 := hP 58 _ rfl
  have R59 := hP 59 _ rfl
  have R60 := hP 60 _ rfl
  have R61 := hP 61 _ rfl
  exact ⟨⟨(R0.2.2.1 2).trans rfl, (R0.2.2.1 3).trans rfl, (R0.2.2.1 4).trans rfl, (R0.2.2.1 5).trans rfl⟩, ⟨⟨R0.1, (R0.2.2.1 0).trans rfl, (R0.2.2.2.2 1).trans rfl⟩, ⟨R1.1, R1.2.1⟩, ⟨(by omega), (by omega), (by omega)⟩, ⟨(by omega), (by omega), (by omega), (by omega)⟩, fun j hj => absurd hj (by omega)⟩, ⟨R2.1, ⟨(R2.2.2.1 3).trans rfl, (R2.2.2.1 4).trans rfl, (R2.2.2.1 5).trans rfl⟩, ⟨R4.1, R5.1, R6.1⟩, ⟨R4.2.1, R5.2.1, R6.2.1⟩, ⟨(by omega), (by omega), (by omega)⟩, ⟨(by omega), (by omega), (by omega), (by omega)⟩, (by omega), (by omega)⟩, ⟨hO, ⟨R8.1, ⟨(R8.2.2.1 8).trans rfl, (R8.2.2.1 9).trans rfl, (R8.2.2.1 10).trans rfl, (R8.2.2.1 11).trans rfl, (R8.2.2.1 13).trans rfl, (R8.2.2.1 15).trans rfl, (R8.2.2.1 16).trans rfl, (R8.2.2.1 17).trans rfl, (R8.2.2.1 18).trans rfl⟩, ⟨R9.1, R10.1, R11.1, R12.1, R13.1, R14.1, R15.1, R16.1, R17.1⟩, ⟨R9.2.1, R10.2.1, R11.2.1, R12.2.1, R13.2.1, R14.2.1, R15.2.1, R16.2.1, R17.2.1⟩⟩, ⟨R7.1, (R7.2.2.1 0).trans rfl, (R7.2.2.1 1).trans rfl, (R7.2.2.1 5).trans rfl, (R7.2.2.1 6).trans rfl⟩, ⟨R28.1, R29.1, R28.2.1, R29.2.1⟩, ⟨R18.1, ⟨(R18.2.2.1 3).trans rfl, (R18.2.2.1 5).trans rfl, (R18.2.2.1 6).trans rfl, (R18.2.2.1 7).trans rfl, (R18.2.2.1 10).trans rfl, (R18.2.2.1 11).trans rfl, (R18.2.2.1 12).trans rfl, (R18.2.2.1 13).trans rfl, (R18.2.2.1 14).trans rfl⟩, ⟨R19.1, R20.1, R21.1, R22.1, R23.1, R24.1, R25.1, R26.1, R27.1⟩, ⟨R20.2.1, R21.2.1, R22.2.1, R23.2.1, R24.2.1, R25.2.1, R26.2.1, R27.2.1⟩, ⟨(show (0 : Int) ≤ mI M (t + 18) 4 by rw [R18.2.2.2.2 4]; decide), (show mI M (t + 18) 4 + 12 ≤ (mN M (t + 19) : Int) by rw [R18.2.2.2.2 4, R19.2.1]; decide)⟩, ⟨(Or.inl ((by omega))), (Or.inl ((by omega))), (by omega), (by omega)⟩, ⟨(by omega), (by omega), (by omega), (by omega)⟩, ⟨(by omega), (by omega)⟩⟩, ⟨R46.1, ⟨(R46.2.2.1 0).trans rfl, (R46.2.2.1 1).trans rfl⟩, ⟨R47.1, R48.1, R47.2.1, R48.2.1⟩, ⟨(Or.inl ((by omega))), (Or.inl ((by omega))), (by omega), (by omega)⟩, ⟨(by omega), (by omega), (by omega)⟩, ⟨(by omega), (by omega)⟩, ⟨⟨(R46.2.2.1 4).trans rfl, (R46.2.2.1 5).trans rfl, (R46.2.2.1 6).trans rfl, (R46.2.2.1 8).trans rfl, (R46.2.2.1 9).trans rfl, (R46.2.2.1 10).trans rfl, (R46.2.2.1 13).trans rfl, (R46.2.2.1 14).trans rfl, (R46.2.2.1 15).trans rfl, (R46.2.2.1 16).trans rfl, (R46.2.2.1 17).trans rfl, (R46.2.2.1 18).trans rfl, (R46.2.2.1 19).trans rfl⟩, ⟨R49.1, R50.1, R51.1, R52.1, R53.1, R54.1, R55.1, R56.1, R57.1, R58.1, R59.1, R60.1, R61.1⟩, ⟨R49.2.1, R50.2.1, R51.2.1, R52.2.1, R53.2.1, R54.2.1, R55.2.1, R56.2.1, R57.2.1, R58.2.1, R59.2.1, R60.2.1, R61.2.1⟩⟩⟩, ⟨(by omega), (Or.inl ((by omega)))⟩, ⟨(by omega), (by omega), (by omega), (by omega)⟩, fun j => Or.inl (R13.2.2.2.2 j)⟩, ⟨R30.1, ⟨(R30.2.2.1 0).trans rfl, (R30.2.2.1 1).trans rfl⟩, ⟨R31.1, R32.1, R31.2.1, R32.2.1⟩, ⟨(Or.inl ((by omega))), (Or.inl ((by omega))), (by omega), (by omega)⟩, ⟨(by omega), (by omega), (by omega)⟩, ⟨(by omega), (by omega)⟩, ⟨⟨(R30.2.2.1 4).trans rfl, (R30.2.2.1 5).trans rfl, (R30.2.2.1 6).trans rfl, (R30.2.2.1 8).trans rfl, (R30.2.2.1 9).trans rfl, (R30.2.2.1 10).trans rfl, (R30.2.2.1 13).trans rfl, (R30.2.2.1 14).trans rfl, (R30.2.2.1 15).trans rfl, (R30.2.2.1 16).trans rfl, (R30.2.2.1 17).trans rfl, (R30.2.2.1 18).trans rfl, (R30.2.2.1 19).trans rfl⟩, ⟨R33.1, R34.1, R35.1, R36.1, R37.1, R38.1, R39.1, R40.1, R41.1, R42.1, R43.1, R44.1, R45.1⟩, ⟨R33.2.1, R34.2.1, R35.2.1, R36.2.1, R37.2.1, R38.2.1, R39.2.1, R40.2.1, R41.2.1, R42.2.1, R43.2.1, R44.2.1, R45.2.1⟩⟩⟩, Or.inl ⟨rfl, rfl⟩, fun u => absurd ((R0.2.2.2.2 6).trans rfl) u, (R0.2.2.2.2 6).trans rfl, fun u => absurd ((R0.2.2.2.2 6).trans rfl) u⟩
theorem st_gm (hP : Pic LCA t M) (hO : mOk M) (hz : mZ M = t + 236) : Gm t (t + 73) (t + 75) (t + 76) 64 0 0 0 0 M := by
  have R62 := hP 62 _ rfl
  have R63 := hP 63 _ rfl
  have R64 := hP 64 _ rfl
  have R65 := hP 65 _ rfl
  have R66 := hP 66 _ rfl
  have R67 := hP 67 _ rfl
  have R68 := hP 68 _ rfl
  have R69 := hP 69 _ rfl
  have R70 := hP 70 _ rfl
  have R71 := hP 71 _ rfl
  have R72 := hP 72 _ rfl
  have R73 := hP 73 _ rfl
  have R74 := hP 74 _ rfl
  have R75 := hP 75 _ rfl
  have R76 := hP 76 _ rfl
  have R77 := hP 77 _ rfl
  have R78 := hP 78 _ rfl
  have R79 := hP 79 _ rfl
  have R80 := hP 80 _ rfl
  have R81 := hP 81 _ rfl
  have R82 := hP 82 _ rfl
  have R83 := hP 83 _ rfl
  have R84 := hP 84 _ rfl
  have i9 : mI M (t + 72) 9 = 0 := (R72.2.2.2.2 9).trans rfl
  exact ⟨⟨R62.1, ⟨(R62.2.2.1 1).trans rfl, (R62.2.2.1 2).trans rfl, (R62.2.2.1 3).trans rfl, (R62.2.2.1 4).trans rfl, (R62.2.2.1 5).trans rfl, (R62.2.2.1 6).trans rfl, (R62.2.2.1 7).trans rfl, (R62.2.2.1 8).trans rfl, (R62.2.2.1 9).trans rfl, (R62.2.2.1 15).trans rfl, (R62.2.2.1 16).trans rfl, (R62.2.2.1 17).trans rfl, (R62.2.2.1 18).trans rfl⟩, ⟨R63.1, R64.1, R65.1, R66.1, R67.1, R68.1, R69.1, R70.1, R71.1, R82.1, R83.1, R84.1⟩, ⟨R63.2.1, R64.2.1, R65.2.1, R66.2.1, R67.2.1, R68.2.1, R69.2.1, R70.2.1, R71.2.1, R82.2.1, R83.2.1, R84.2.1⟩⟩, ⟨R72.1, ⟨(R72.2.2.1 3).trans rfl, (R72.2.2.1 5).trans rfl, (R72.2.2.1 6).trans rfl, (R72.2.2.1 7).trans rfl, (R72.2.2.1 10).trans rfl, (R72.2.2.1 11).trans rfl, (R72.2.2.1 12).trans rfl, (R72.2.2.1 13).trans rfl, (R72.2.2.1 14).trans rfl⟩, ⟨R73.1, R74.1, R75.1, R76.1, R77.1, R78.1, R79.1, R80.1, R81.1⟩, ⟨R74.2.1, R75.2.1, R76.2.1, R77.2.1, R78.2.1, R79.2.1, R80.2.1, R81.2.1⟩, ⟨(show (0 : Int) ≤ mI M (t + 72) 4 by rw [R72.2.2.2.2 4]; decide), (show mI M (t + 72) 4 + 12 ≤ (mN M (t + 73) : Int) by rw [R72.2.2.2.2 4, R73.2.1]; decide)⟩, ⟨(Or.inl ((by omega))), (Or.inl ((by omega))), (by omega), (by omega)⟩, ⟨(by omega), (by omega), (by omega), (by omega)⟩, ⟨(by omega), (by omega)⟩⟩, Or.inr rfl, fun x _ => by rw [i9]; exact Int.le_of_eq (R77.2.2.2.2 x), ⟨by rw [i9]; decide, by rw [i9]; decide⟩, Or.inl ⟨rfl, (R62.2.2.2.2 0).trans rfl⟩, fun u => absurd u (by decide), fun _ => ⟨rfl, rfl⟩, fun j hj => absurd hj (by omega)⟩
theorem st_sb (hP : Pic LCA t M) (hO : mOk M) (hz : mZ M = t + 236) : Sb (Lst t) (Wt t) (t + 85) (t + 62) 0 0 0 M := by
  have R62 := hP 62 _ rfl
  have R63 := hP 63 _ rfl
  have R64 := hP 64 _ rfl
  have R65 := hP 65 _ rfl
  have R66 := hP 66 _ rfl
  have R67 := hP 67 _ rfl
  have R68 := hP 68 _ rfl
  have R69 := hP 69 _ rfl
  have R70 := hP 70 _ rfl
  have R71 := hP 71 _ rfl
  have R85 := hP 85 _ rfl
  have R86 := hP 86 _ rfl
  have R99 := hP 99 _ rfl
  have R104 := hP 104 _ rfl
  have R109 := hP 109 _ rfl
  have R114 := hP 114 _ rfl
  have R115 := hP 115 _ rfl
  have R116 := hP 116 _ rfl
  have R117 := hP 117 _ rfl
  have R118 := hP 118 _ rfl
  have R119 := hP 119 _ rfl
  have R120 := hP 120 _ rfl
  have R121 := hP 121 _ rfl
  have R122 := hP 122 _ rfl
  have R207 := hP 207 _ rfl
  have R208 := hP 208 _ rfl
  have R209 := hP 209 _ rfl
  have R210 := hP 210 _ rfl
  have R211 := hP 211 _ rfl
  have R213 := hP 213 _ rfl
  have R214 := hP 214 _ rfl
  have R215 := hP 215 _ rfl
  have hm : ∀ o, o ∈ lsO → t + o ∈ Lst t := fun o h => lst_m h
  have oc : ∀ c, (c < 236 ∧ c ∉ lsO ∧ ∀ o ∈ lsO, o + 1 ≠ c) → Oc (Lst t) M (t + c) := fun c h => lst_oc hP hz c h
  have k9 : ∀ i, 1 ≤ i → i ≤ 9 → mK M (t + 62 + i) = 30 := fun i i1 i2 => by
    have w : i = 1 ∨ i = 2 ∨ i = 3 ∨ i = 4 ∨ i = 5 ∨ i = 6 ∨ i = 7 ∨ i = 8 ∨ i = 9 := by omega
    rcases w with e | e | e | e | e | e | e | e | e <;> subst e
    · exact R63.1
    · exact R64.1
    · exact R65.1
    · exact R66.1
    · exact R67.1
    · exact R68.1
    · exact R69.1
    · exact R70.1
    · exact R71.1
  have ocR : ∀ i, i ≤ 6 → (116 + i < 236 ∧ 116 + i ∉ lsO ∧ ∀ o ∈ lsO, o + 1 ≠ 116 + i) := fun i hi => lsO_R i (List.mem_range.mpr (by omega))
  have ocRr : ∀ i, i ≤ 6 → Oc (Lst t) M (t + 85 + 31 + i) := fun i hi => by
    have u := oc (116 + i) (ocR i hi)
    rw [show t + (116 + i) = t + 85 + 31 + i by first | rfl | omega] at u
    exact u
  have ocG : ∀ i, i ≤ 9 → (62 + i < 236 ∧ 62 + i ∉ lsO ∧ ∀ o ∈ lsO, o + 1 ≠ 62 + i) := fun i hi => lsO_G i (List.mem_range.mpr (by omega))
  have mm9 : ∀ i, i < 41 → 125 + 2 * i ∈ lsO := fun i hi => lsO_9 i (List.mem_range.mpr hi)
  have hm9 : ∀ i, i < 41 → t + 116 + 9 + 2 * i ∈ Lst t := fun i hi => by
    have u := hm _ (mm9 i hi)
    rw [show t + (125 + 2 * i) = t + 116 + 9 + 2 * i by first | rfl | omega] at u
    exact u
  have r118 : ∀ i, i < 41 → mR M (t + 118) i = t + 116 + 9 + 2 * i := fun i hi => by
    rw [R118.2.2.1 i]
    match i, hi with
    | 0, _ => rfl
    | 1, _ => rfl
    | 2, _ => rfl
    | 3, _ => rfl
    | 4, _ => rfl
    | 5, _ => rfl
    | 6, _ => rfl
    | 7, _ => rfl
    | 8, _ => rfl
    | 9, _ => rfl
    | 10, _ => rfl
    | 11, _ => rfl
    | 12, _ => rfl
    | 13, _ => rfl
    | 14, _ => rfl
    | 15, _ => rfl
    | 16, _ => rfl
    | 17, _ => rfl
    | 18, _ => rfl
    | 19, _ => rfl
    | 20, _ => rfl
    | 21, _ => rfl
    | 22, _ => rfl
    | 23, _ => rfl
    | 24, _ => rfl
    | 25, _ => rfl
    | 26, _ => rfl
    | 27, _ => rfl
    | 28, _ => rfl
    | 29, _ => rfl
    | 30, _ => rfl
    | 31, _ => rfl
    | 32, _ => rfl
    | 33, _ => rfl
    | 34, _ => rfl
    | 35, _ => rfl
    | 36, _ => rfl
    | 37, _ => rfl
    | 38, _ => rfl
    | 39, _ => rfl
    | 40, _ => rfl
    | k + 41, hi => omega
  refine ⟨⟨hO, ⟨⟨R85.1, (by omega)⟩, ⟨(R85.2.2.1 0).trans rfl, (R85.2.2.1 1).trans rfl, (R85.2.2.1 2).trans rfl, (R85.2.2.1 3).trans rfl, (R85.2.2.1 4).trans rfl, (R85.2.2.1 5).trans rfl, (R85.2.2.1 6).trans rfl, (R85.2.2.1 7).trans rfl, (R85.2.2.1 8).trans rfl, (R85.2.2.1 9).trans rfl, (R85.2.2.1 15).trans rfl, (R85.2.2.1 16).trans rfl, (R85.2.2.1 17).trans rfl⟩, ⟨R114.1, R115.1, R207.1, R208.1, R209.1, R210.1, R211.1, R213.1, R214.1⟩, ⟨R114.2.1, R115.2.1, R207.2.1, R208.2.1, R209.2.1, R210.2.1, R211.2.1, R213.2.1, R214.2.1⟩⟩, ⟨R62.1, ⟨(R62.2.2.1 2).trans rfl, (R62.2.2.1 4).trans rfl, (R62.2.2.1 6).trans rfl, (R62.2.2.1 7).trans rfl, (R62.2.2.1 8).trans rfl, (R62.2.2.1 9).trans rfl⟩, fun i i1 i2 => k9 i i1 i2, ⟨R64.2.1, R66.2.1, R68.2.1, R69.2.1, R70.2.1, R71.2.1⟩⟩, ⟨(R62.2.2.1 3).trans rfl, R65.2.1⟩, ⟨⟨by decide, by decide, by decide⟩, fun c hc => absurd hc (by omega), fun j hj => absurd hj (by omega), (R62.2.2.2.2 0).trans rfl⟩⟩, ⟨lst_nf hP hz, ⟨⟨R86.1, (by omega)⟩, ⟨(R86.2.2.1 0).trans rfl, (R86.2.2.1 1).trans rfl, (R86.2.2.1 2).trans rfl, (R86.2.2.1 3).trans rfl, (R86.2.2.1 4).trans rfl, (R86.2.2.1 5).trans rfl, (R86.2.2.1 6).trans rfl, (R86.2.2.1 7).trans rfl, (R86.2.2.1 8).trans rfl⟩, (Or.inl (⟨(R86.2.2.1 9).trans rfl, (R86.2.2.1 10).trans rfl⟩)), ⟨R99.1, R99.2.1, (by omega)⟩, ⟨⟨R104.1, ⟨(R104.2.2.1 0).trans rfl, (R104.2.2.1 1).trans rfl⟩, (by omega)⟩, ⟨R109.1, ⟨(R109.2.2.1 0).trans rfl, (R109.2.2.1 1).trans rfl⟩, (by omega)⟩⟩, ⟨(hm 87 (by decide +kernel)), (hm 89 (by decide +kernel)), (hm 91 (by decide +kernel)), (hm 93 (by decide +kernel)), (hm 95 (by decide +kernel)), (hm 97 (by decide +kernel)), (hm 100 (by decide +kernel)), (hm 102 (by decide +kernel))⟩, ⟨(hm 105 (by decide +kernel)), (hm 107 (by decide +kernel)), (hm 110 (by decide +kernel)), (hm 112 (by decide +kernel))⟩⟩, ⟨⟨R116.1, ⟨(R116.2.2.1 0).trans rfl, (R116.2.2.1 1).trans rfl, (R116.2.2.1 2).trans rfl, (R116.2.2.1 3).trans rfl, (R116.2.2.1 4).trans rfl, (R116.2.2.1 5).trans rfl, (R116.2.2.1 6).trans rfl⟩, ⟨R117.1, R118.1, R119.1, R120.1, R121.1, R122.1⟩, ⟨R117.2.1, R118.2.1, R119.2.1, R120.2.1, R121.2.1, R122.2.1⟩⟩, fun i hi => ocRr i hi, fun i hi => ⟨r118 i hi, hm9 i hi⟩, hm 123 (by decide +kernel)⟩, ⟨⟨R215.1, ⟨(R215.2.2.1 0).trans rfl, (R215.2.2.1 1).trans rfl⟩, (by omega)⟩, (hm 216 (by decide +kernel)), (hm 218 (by decide +kernel))⟩⟩, ?_, fun i hi => ?_⟩
  · intro x hx
    unfold Stb at hx
    rcases hx with e | e | e | e | e | e | e | e | e | e <;> subst e
    · exact oc 85 (by decide +kernel)
    · exact oc 114 (by decide +kernel)
    · exact oc 115 (by decide +kernel)
    · exact oc 207 (by decide +kernel)
    · exact oc 208 (by decide +kernel)
    · exact oc 209 (by decide +kernel)
    · exact oc 210 (by decide +kernel)
    · exact oc 211 (by decide +kernel)
    · exact oc 213 (by decide +kernel)
    · exact oc 214 (by decide +kernel)
  have u := oc (62 + i) (ocG i hi)
  rw [show t + (62 + i) = t + 62 + i by first | rfl | omega] at u
  exact u
theorem st_ns (hP : Pic LCA t M) (hO : mOk M) (hz : mZ M = t + 236) : Ns (fun x => t + 85 ≤ x ∧ x < t + 235) t (Lst t) (fun i => t + 220 + 2 * i) (up1 (fun i => t + 221 + 2 * i) 4 (t + 212)) (fun _ => 0) 0 0 0 M := by
  have R85 := hP 85 _ rfl
  have R212 := hP 212 _ rfl
  have R0 := hP 0 _ rfl
  have R220 := hP 220 _ rfl
  have R221 := hP 221 _ rfl
  have R222 := hP 222 _ rfl
  have R223 := hP 223 _ rfl
  have R224 := hP 224 _ rfl
  have R225 := hP 225 _ rfl
  have R226 := hP 226 _ rfl
  have R227 := hP 227 _ rfl
  have R230 := hP 230 _ rfl
  have R235 := hP 235 _ rfl
  have hm : ∀ o, o ∈ lsO → t + o ∈ Lst t := fun o h => lst_m h
  have oc : ∀ c, (c < 236 ∧ c ∉ lsO ∧ ∀ o ∈ lsO, o + 1 ≠ c) → Oc (Lst t) M (t + c) := fun c h => lst_oc hP hz c h
  have iv : ∀ i, i < 4 → mI M (t + 220 + 2 * i) 1 = 0 := fun i hi => by
    have w : i = 0 ∨ i = 1 ∨ i = 2 ∨ i = 3 := by omega
    rcases w with e | e | e | e <;> subst e
    · exact (R220.2.2.2.2 1).trans rfl
    · exact (R222.2.2.2.2 1).trans rfl
    · exact (R224.2.2.2.2 1).trans rfl
    · exact (R226.2.2.2.2 1).trans rfl
  refine ⟨Nms.cgr (R := fun i => t + 221 + 2 * i) (k := fun _ => 0) ⟨st_sb hP hO hz, ⟨fun i hi => ?_, fun i j hi hj ne => ⟨fun i' j' h => absurd h (Nat.not_lt_zero _), (show t + 220 + 2 * i ≠ t + 220 + 2 * j by omega), (show t + 221 + 2 * i ≠ t + 221 + 2 * j by omega)⟩⟩, ⟨by omega, by omega⟩, fun i hi _ u => absurd (iv i hi) u⟩ (fun i hi => ⟨up1_n (by omega), rfl⟩), ⟨fun x a b => (show t + 85 ≤ x ∧ x < t + 235 by omega), fun a ha => ?_, fun i hi => by
    rw [up1_n (show i ≠ 4 by omega)]
    exact ⟨(show t + 85 ≤ t + 220 + 2 * i ∧ t + 220 + 2 * i < t + 235 by omega), (show t + 85 ≤ t + 221 + 2 * i ∧ t + 221 + 2 * i < t + 235 by omega), fun j hj => absurd hj (Nat.not_lt_zero _)⟩, by
    have u : t + 85 ≤ up1 (fun i => t + 221 + 2 * i) 4 (t + 212) 4 ∧ up1 (fun i => t + 221 + 2 * i) 4 (t + 212) 4 < t + 235 := by
      rw [up1_s]
      omega
    exact u, by
    rw [up1_s]
    exact ⟨⟨(R85.2.2.1 11).trans rfl, R212.1, R212.2.1⟩, oc 212 (by decide +kernel), Or.inl ⟨by omega, rfl⟩⟩, oc 85 (by decide +kernel)⟩, ⟨R0.1, ⟨(R0.2.2.1 9).trans rfl, (R0.2.2.1 10).trans rfl⟩, ⟨(R0.2.2.1 11).trans rfl, (R0.2.2.1 12).trans rfl, (R0.2.2.1 13).trans rfl, (R0.2.2.1 14).trans rfl⟩, ⟨(R0.2.2.1 15).trans rfl, (R0.2.2.1 16).trans rfl, (R0.2.2.1 17).trans rfl⟩, by omega⟩, iv 2 (by decide), fun u => absurd (iv 0 (by decide)) u, ⟨hm 228 (by decide +kernel), ⟨⟨R230.1, ⟨(R230.2.2.1 0).trans rfl, (R230.2.2.1 1).trans rfl⟩, (by omega)⟩, (hm 231 (by decide +kernel)), (hm 233 (by decide +kernel))⟩, (show t + 85 ≤ t + 230 ∧ t + 230 < t + 235 by omega)⟩, ⟨R235.1, R235.2.1, fun j _ => ⟨Int.le_of_eq (R235.2.2.2.2 j).symm, Int.lt_of_le_of_lt (Int.le_of_eq (R235.2.2.2.2 j)) (show (0 : Int) < 65536 by decide)⟩⟩, 0, (R0.2.2.2.2 18).trans rfl, by decide⟩
  · have w : i = 0 ∨ i = 1 ∨ i = 2 ∨ i = 3 := by omega
    rcases w with e | e | e | e <;> subst e
    · exact ⟨⟨R220.1, (R220.2.2.1 0).trans rfl, R221.1, R221.2.1, ⟨oc 220 (by decide +kernel), oc 221 (by decide +kernel)⟩, fun i hi => absurd hi (Nat.not_lt_zero _)⟩, fun i hi => absurd hi (Nat.not_lt_zero _), fun i j hi => absurd hi (Nat.not_lt_zero _), Nat.zero_le _, (show t + 85 + 134 < t + 220 by omega), (show t + 85 + 134 < t + 221 by omega)⟩
    · exact ⟨⟨R222.1, (R222.2.2.1 0).trans rfl, R223.1, R223.2.1, ⟨oc 222 (by decide +kernel), oc 223 (by decide +kernel)⟩, fun i hi => absurd hi (Nat.not_lt_zero _)⟩, fun i hi => absurd hi (Nat.not_lt_zero _), fun i j hi => absurd hi (Nat.not_lt_zero _), Nat.zero_le _, (show t + 85 + 134 < t + 222 by omega), (show t + 85 + 134 < t + 223 by omega)⟩
    · exact ⟨⟨R224.1, (R224.2.2.1 0).trans rfl, R225.1, R225.2.1, ⟨oc 224 (by decide +kernel), oc 225 (by decide +kernel)⟩, fun i hi => absurd hi (Nat.not_lt_zero _)⟩, fun i hi => absurd hi (Nat.not_lt_zero _), fun i j hi => absurd hi (Nat.not_lt_zero _), Nat.zero_le _, (show t + 85 + 134 < t + 224 by omega), (show t + 85 + 134 < t + 225 by omega)⟩
    · exact ⟨⟨R226.1, (R226.2.2.1 0).trans rfl, R227.1, R227.2.1, ⟨oc 226 (by decide +kernel), oc 227 (by decide +kernel)⟩, fun i hi => absurd hi (Nat.not_lt_zero _)⟩, fun i hi => absurd hi (Nat.not_lt_zero _), fun i j hi => absurd hi (Nat.not_lt_zero _), Nat.zero_le _, (show t + 85 + 134 < t + 226 by omega), (show t + 85 + 134 < t + 227 by omega)⟩
  · obtain ⟨o, h1, h2⟩ := lst_off.1 ha
    subst h2
    have lt := lsO_lt o h1
    rw [lst_r0 hP h1]
    exact ⟨(show t + 85 ≤ t + o ∧ t + o < t + 235 by omega), (show t + 85 ≤ t + o + 1 ∧ t + o + 1 < t + 235 by omega)⟩
theorem st_ap (hz : mZ M = t + 236) : Ap (fun x => t + 85 ≤ x ∧ x < t + 235) (fun x => t ≤ x ∧ x < t + 236) t (t + 1) (t + 4) (t + 5) (t + 6) (t + 31) (t + 32) (t + 47) (t + 48) (t + 21) (t + 22) (t + 75) (t + 76) M := by
  refine ⟨fun x hx u => ?_, ?_, ⟨Or.inl rfl, Or.inl rfl, Or.inl rfl, Or.inl rfl⟩, fun x hx => ?_, fun x hx => by have u : t ≤ x ∧ x < t + 236 := hx; omega⟩
  · have u' : t + 85 ≤ x ∧ x < t + 235 := u
    simp only [List.mem_cons, List.not_mem_nil, or_false] at hx
    omega
  · simp only [List.nodup_cons, List.mem_cons, List.not_mem_nil, or_false, not_or, not_false_eq_true, List.nodup_nil, and_true]
    omega
  · simp only [List.mem_cons, List.not_mem_nil, or_false] at hx
    show t ≤ x ∧ x < t + 236
    omega
/-- the class at its start -/
theorem st_ci (hP : Pic LCA t M) (hO : mOk M) (hz : mZ M = t + 236) : ∃ Ps Pc, CI (c9, 0, 0, 0, 0, x09, e09) (fun x => t ≤ x ∧ x < t + 236) 0 t Ps Pc M ∧ tE (0, c9, 0, 0, 0, 0, x09, e09) M t := by
  have R0 := hP 0 _ rfl
  have R62 := hP 62 _ rfl
  have R220 := hP 220 _ rfl
  have r11 : mR M t 11 = t + 220 := (R0.2.2.1 11).trans rfl
  refine ⟨_, _, ⟨t + 1, 256, 0, t + 4, t + 5, t + 6, 128, t + 30, t + 31, t + 32, 128, t + 46, t + 47, t + 48, 128, t + 21, t + 22, 64, t + 73, t + 75, t + 76, 64, 0, 0, 0, Lst t, (fun i => t + 220 + 2 * i), (up1 (fun i => t + 221 + 2 * i) 4 (t + 212)), (fun _ => 0), (fun x => t + 85 ≤ x ∧ x < t + 235), hO, st_tx hP hO hz, st_gm hP hO hz, st_ns hP hO hz, st_ap hz, ⟨rfl, rfl, ?_⟩, fun u => absurd u (by decide)⟩, (R0.2.2.2.2 1).trans rfl, (R0.2.2.2.2 7).trans rfl, ⟨(R0.2.2.2.2 8).trans rfl, by rw [r11]; exact (R220.2.2.2.2 1).trans rfl⟩, (R62.2.2.2.2 0).trans rfl, fun _ => rfl, fun u => absurd rfl u⟩
  unfold Lst
  rw [List.length_map]
  decide
end CST
