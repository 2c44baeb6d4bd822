/-! The reference under construction. -/
def ini_MM (l : List PR) (o n : Nat) : List PR := uR (ini_MN (pz (uR (ini_MN (pz (uR (ini_MN (pz (uR (ini_MN (pz (uR (pz (uR (pz (uR (pz (uR (pz (uI (uR (pz (uR (pz (uR (pz (uR (pz (uR (ini_MN (pz (uR (pz (uR (pz (uR (ini_MN (pz (uR (ini_MN (pz (uR (ini_MN (pz (uR (ini_MN (pz (uR (ini_MN (pz (uR (ini_MN (pz (uI (uR (ini_MG (pz (uR (ini_MG (pz (uR (ini_MN (pz (uR (ini_MN (pz (uR (ini_MN (pz (uR (ini_MN (pz (uR (ini_MN (pz (uR (ini_MN (pz (l) 15 0) n (n + 1)) o 1 n) 15 0) (n + 2) (n + 3)) o 2 (n + 2)) 15 0) (n + 4) (n + 5)) o 3 (n + 4)) 15 0) (n + 6) (n + 7)) o 4 (n + 6)) 15 0) (n + 8) (n + 9)) o 5 (n + 8)) 15 0) (n + 10) (n + 11)) o 6 (n + 10)) 16 0) (n + 12) (n + 13)) o 9 (n + 12)) 16 0) (n + 48) (n + 49)) o 10 (n + 48)) o 12 (-1)) 15 0) (n + 84) (n + 85)) o 13 (n + 84)) 15 0) (n + 86) (n + 87)) o 14 (n + 86)) 15 0) (n + 88) (n + 89)) o 15 (n + 88)) 15 0) (n + 90) (n + 91)) o 18 (n + 90)) 15 0) (n + 92) (n + 93)) o 19 (n + 92)) 15 0) (n + 94) (n + 95)) o 20 (n + 94)) 33 16400) o 21 (n + 96)) 33 16400) o 22 (n + 97)) 15 0) (n + 98) (n + 99)) o 24 (n + 98)) 30 12) o 25 (n + 100)) 31 60) o 26 (n + 101)) 33 60) o 27 (n + 102)) 33 60) o 28 (n + 103)) o 30 (-1)) 30 6144) o 31 (n + 104)) 30 512) o 32 (n + 105)) 30 512) o 33 (n + 106)) 30 512) o 34 (n + 107)) 15 0) (n + 108) (n + 109)) o 35 (n + 108)) 15 0) (n + 110) (n + 111)) o 36 (n + 110)) 15 0) (n + 112) (n + 113)) o 37 (n + 112)) 15 0) (n + 114) (n + 115)) o 38 (n + 114)
def LMM : List PR := [(14, 0, [(38, 115), (37, 113), (36, 111), (35, 109), (34, 108), (33, 107), (32, 106), (31, 105), (28, 104), (27, 103), (26, 102), (25, 101), (24, 99), (22, 98), (21, 97), (20, 95), (19, 93), (18, 91), (15, 89), (14, 87), (13, 85), (10, 49), (9, 13), (6, 11), (5, 9), (4, 7), (3, 5), (2, 3), (1, 1)], .inl [(30, -1), (12, -1)]), (15, 0, [(0, 2)], .inl []), (30, 16, [], .inl []), (15, 0, [(0, 4)], .inl []), (30, 16, [], .inl []), (15, 0, [(0, 6)], .inl []), (30, 16, [], .inl []), (15, 0, [(0, 8)], .inl []), (30, 16, [], .inl []), (15, 0, [(0, 10)], .inl []), (30, 16, [], .inl []), (15, 0, [(0, 12)], .inl []), (30, 16, [], .inl []), (16, 0, [(29, 47), (28, 45), (27, 43), (26, 42), (25, 41), (24, 40), (23, 39), (22, 38), (21, 37), (20, 36), (19, 35), (16, 34), (15, 33), (14, 32), (13, 31), (11, 30), (10, 29), (9, 28), (8, 27), (7, 26), (5, 24), (4, 22), (3, 20), (2, 18), (1, 16), (0, 14)], .inl []), (15, 0, [(0, 15)], .inl []), (30, 16, [], .inl []), (15, 0, [(0, 17)], .inl []), (30, 16, [], .inl []), (15, 0, [(0, 19)], .inl []), (30, 16, [], .inl []), (15, 0, [(0, 21)], .inl []), (30, 16, [], .inl []), (15, 0, [(0, 23)], .inl []), (30, 16, [], .inl []), (15, 0, [(0, 25)], .inl []), (30, 16, [], .inl []), (31, 60, [], .inl []), (31, 60, [], .inl []), (30, 60, [], .inl []), (33, 60, [], .inl []), (33, 60, [], .inl []), (31, 12, [], .inl []), (30, 12, [], .inl []), (30, 12, [], .inl []), (30, 12, [], .inl []), (31, 60, [], .inl []), (30, 60, [], .inl []), (30, 60, [], .inl []), (30, 60, [], .inl []), (30, 480, [], .inl []), (30, 480, [], .inl []), (30, 480, [], .inl []), (30, 480, [], .inl []), (15, 0, [(0, 44)], .inl []), (30, 16, [], .inl []), (15, 0, [(0, 46)], .inl []), (30, 16, [], .inl []), (15, 0, [(0, 48)], .inl []), (30, 16, [], .inl []), (16, 0, [(29, 83), (28, 81), (27, 79), (26, 78), (25, 77), (24, 76), (23, 75), (22, 74), (21, 73), (20, 72), (19, 71), (16, 70), (15, 69), (14, 68), (13, 67), (11, 66), (10, 65), (9, 64), (8, 63), (7, 62), (5, 60), (4, 58), (3, 56), (2, 54), (1, 52), (0, 50)], .inl []), (15, 0, [(0, 51)], .inl []), (30, 16, [], .inl []), (15, 0, [(0, 53)], .inl []), (30, 16, [], .inl []), (15, 0, [(0, 55)], .inl []), (30, 16, [], .inl []), (15, 0, [(0, 57)], .inl []), (30, 16, [], .inl []), (15, 0, [(0, 59)], .inl []), (30, 16, [], .inl []), (15, 0, [(0, 61)], .inl []), (30, 16, [], .inl []), (31, 60, [], .inl []), (31, 60, [], .inl []), (30, 60, [], .inl []), (33, 60, [], .inl []), (33, 60, [], .inl []), (31, 12, [], .inl []), (30, 12, [], .inl []), (30, 12, [], .inl []), (30, 12, [], .inl []), (31, 60, [], .inl []), (30, 60, [], .inl []), (30, 60, [], .inl []), (30, 60, [], .inl []), (30, 480, [], .inl []), (30, 480, [], .inl []), (30, 480, [], .inl []), (30, 480, [], .inl []), (15, 0, [(0, 80)], .inl []), (30, 16, [], .inl []), (15, 0, [(0, 82)], .inl []), (30, 16, [], .inl []), (15, 0, [(0, 84)], .inl []), (30, 16, [], .inl []), (15, 0, [(0, 86)], .inl []), (30, 16, [], .inl []), (15, 0, [(0, 88)], .inl []), (30, 16, [], .inl []), (15, 0, [(0, 90)], .inl []), (30, 16, [], .inl []), (15, 0, [(0, 92)], .inl []), (30, 16, [], .inl []), (15, 0, [(0, 94)], .inl []), (30, 16, [], .inl []), (15, 0, [(0, 96)], .inl []), (30, 16, [], .inl []), (33, 16400, [], .inl []), (33, 16400, [], .inl []), (15, 0, [(0, 100)], .inl []), (30, 16, [], .inl []), (30, 12, [], .inl []), (31, 60, [], .inl []), (33, 60, [], .inl []), (33, 60, [], .inl []), (30, 6144, [], .inl []), (30, 512, [], .inl []), (30, 512, [], .inl []), (30, 512, [], .inl []), (15, 0, [(0, 110)], .inl []), (30, 16, [], .inl []), (15, 0, [(0, 112)], .inl []), (30, 16, [], .inl []), (15, 0, [(0, 114)], .inl []), (30, 16, [], .inl []), (15, 0, [(0, 116)], .inl []), (30, 16, [], .inl [])]
set_option maxRecDepth 100000 in
theorem lmm_eq : ini_MM [(14, 0, [], .inl [])] 0 1 = LMM := bqL_eq (by decide +kernel)
def LM2 : List PR := [(14, 0, [(47, 21191), (46, 21190), (45, 21189), (44, 21188), (43, 21187), (42, 21186), (41, 21185), (39, 117), (38, 115), (37, 113), (36, 111), (35, 109), (34, 108), (33, 107), (32, 106), (31, 105), (28, 104), (27, 103), (26, 102), (25, 101), (24, 99), (22, 98), (21, 97), (20, 95), (19, 93), (18, 91), (15, 89), (14, 87), (13, 85), (10, 49), (9, 13), (6, 11), (5, 9), (4, 7), (3, 5), (2, 3), (1, 1)], .inl [(30, -1), (12, -1)]), (15, 0, [(0, 2)], .inl []), (30, 16, [], .inl []), (15, 0, [(0, 4)], .inl []), (30, 16, [], .inl []), (15, 0, [(0, 6)], .inl []), (30, 16, [], .inl []), (15, 0, [(0, 8)], .inl []), (30, 16, [], .inl []), (15, 0, [(0, 10)], .inl []), (30, 16, [], .inl []), (15, 0, [(0, 12)], .inl []), (30, 16, [], .inl []), (16, 0, [(29, 47), (28, 45), (27, 43), (26, 42), (25, 41), (24, 40), (23, 39), (22, 38), (21, 37), (20, 36), (19, 35), (16, 34), (15, 33), (14, 32), (13, 31), (11, 30), (10, 29), (9, 28), (8, 27), (7, 26), (5, 24), (4, 22), (3, 20), (2, 18), (1, 16), (0, 14)], .inl []), (15, 0, [(0, 15)], .inl []), (30, 16, [], .inl []), (15, 0, [(0, 17)], .inl []), (30, 16, [], .inl []), (15, 0, [(0, 19)], .inl []), (30, 16, [], .inl []), (15, 0, [(0, 21)], .inl []), (30, 16, [], .inl []), (15, 0, [(0, 23)], .inl []), (30, 16, [], .inl []), (15, 0, [(0, 25)], .inl []), (30, 16, [], .inl []), (31, 60, [], .inl []), (31, 60, [], .inl []), (30, 60, [], .inl []), (33, 60, [], .inl []), (33, 60, [], .inl []), (31, 12, [], .inl []), (30, 12, [], .inl []), (30, 12, [], .inl []), (30, 12, [], .inl []), (31, 60, [], .inl []), (30, 60, [], .inl []), (30, 60, [], .inl []), (30, 60, [], .inl []), (30, 480, [], .inl []), (30, 480, [], .inl []), (30, 480, [], .inl []), (30, 480, [], .inl []), (15, 0, [(0, 44)], .inl []), (30, 16, [], .inl []), (15, 0, [(0, 46)], .inl []), (30, 16, [], .inl []), (15, 0, [(0, 48)], .inl []), (30, 16, [], .inl []), (16, 0, [(29, 83), (28, 81), (27, 79), (26, 78), (25, 77), (24, 76), (23, 75), (22, 74), (21, 73), (20, 72), (19, 71), (16, 70), (15, 69), (14, 68), (13, 67), (11, 66), (10, 65), (9, 64), (8, 63), (7, 62), (5, 60), (4, 58), (3, 56), (2, 54), (1, 52), (0, 50)], .inl []), (15, 0, [(0, 51)], .inl []), (30, 16, [], .inl []), (15, 0, [(0, 53)], .inl []), (30, 16, [], .inl []), (15, 0, [(0, 55)], .inl []), (30, 16, [], .inl []), (15, 0, [(0, 57)], .inl []), (30, 16, [], .inl []), (15, 0, [(0, 59)], .inl []), (30, 16, [], .inl []), (15, 0, [(0, 61)], .inl []), (30, 16, [], .inl []), (31, 60, [], .inl []), (31, 60, [], .inl []), (30, 60, [], .inl []), (33, 60, [], .inl []), (33, 60, [], .inl []), (31, 12, [], .inl []), (30, 12, [], .inl []), (30, 12, [], .inl []), (30, 12, [], .inl []), (31, 60, [], .inl []), (30, 60, [], .inl []), (30, 60, [], .inl []), (30, 60, [], .inl []), (30, 480, [], .inl []), (30, 480, [], .inl []), (30, 480, [], .inl []), (30, 480, [], .inl []), (15, 0, [(0, 80)], .inl []), (30, 16, [], .inl []), (15, 0, [(0, 82)], .inl []), (30, 16, [], .inl []), (15, 0, [(0, 84)], .inl []), (30, 16, [], .inl []), (15, 0, [(0, 86)], .inl []), (30, 16, [], .inl []), (15, 0, [(0, 88)], .inl []), (30, 16, [], .inl []), (15, 0, [(0, 90)], .inl []), (30, 16, [], .inl []), (15, 0, [(0, 92)], .inl []), (30, 16, [], .inl []), (15, 0, [(0, 94)], .inl []), (30, 16, [], .inl []), (15, 0, [(0, 96)], .inl []), (30, 16, [], .inl []), (33, 16400, [], .inl []), (33, 16400, [], .inl []), (15, 0, [(0, 100)], .inl []), (30, 16, [], .inl []), (30, 12, [], .inl []), (31, 60, [], .inl []), (33, 60, [], .inl []), (33, 60, [], .inl []), (30, 6144, [], .inl []), (30, 512, [], .inl []), (30, 512, [], .inl []), (30, 512, [], .inl []), (15, 0, [(0, 110)], .inl []), (30, 16, [], .inl []), (15, 0, [(0, 112)], .inl []), (30, 16, [], .inl []), (15, 0, [(0, 114)], .inl []), (30, 16, [], .inl []), (15, 0, [(0, 116)], .inl []), (30, 16, [], .inl [])]
set_option maxRecDepth 100000 in
theorem lm2_eq : uR (uR (uR (uR (uR (uR (uR (uR (LMM) 0 39 117) 0 41 21185) 0 42 21186) 0 43 21187) 0 44 21188) 0 45 21189) 0 46 21190) 0 47 21191 = LM2 := bqL_eq (by decide +kernel)
def LM3 : List PR := [(30, 4096, [], .inl []), (33, 4096, [], .inl []), (33, 4096, [], .inl []), (30, 12, [], .inl []), (33, 8, [], .inl []), (33, 8, [], .inl []), (30, 900, [], .inl [])]
theorem lm3_eq : pz (pz (pz (pz (pz (pz (pz ([]) 30 4096) 33 4096) 33 4096) 30 12) 33 8) 33 8) 30 900 = LM3 := bqL_eq (by decide +kernel)
section MMI
variable {l l2 : List PR} {n2 S a j q k w c d : Nat} {M M' M0 : mM} {G : mG}
def Cs2 (l l2 : List PR) (n2 S a : Nat) (M0 M : mM) : Prop := mOk M ∧ kd l 0 14 ∧ l.length = 117 ∧ (l2.length = n2 ∧ mZ M = a + (21185 + n2)) ∧ mS M = mS M0 + S ∧ (∀ x, x < a → Eqc M0 M x) ∧ Pic l a M ∧ Pic l2 (a + 21185) M ∧ Sv M (a + 117) 0 ∧ mI M (a + 117 + 30) 0 = 0
theorem Cs2.z (h : Cs2 l l2 n2 S a M0 M) : mZ M = a + (21185 + n2) := h.2.2.2.1.2
theorem Cs2.kq (h : Cs2 l l2 n2 S a M0 M) : mK M a = 14 := by
  obtain ⟨r, h1, h2, -⟩ := h.2.1
  have := (h.2.2.2.2.2.2.1 0 r h1).1
  exact this.trans h2
theorem Cs2.new (h : Cs2 l l2 n2 S a M0 M) (e : M' = mNew M k w c) : Cs2 l (pz l2 k w) (n2 + 1) (S + c) a M0 M' := by
  obtain ⟨h1, h2, h3, ⟨h4, h5⟩, h6, h7, h8, h9, h10⟩ := h
  have cs : Cst l2 n2 0 (a + 21185) M M := ⟨h1, ⟨h4, by omega⟩, rfl, fun _ _ => Eqc.rfl', h9⟩
  have c2 := cs.new e
  have E : ∀ x, x < mZ M → Eqc M M' x := fun x hx => by rw [e]; exact eqc_new (by omega)
  refine ⟨c2.1, h2, h3, ⟨c2.len, by rw [c2.z]; omega⟩, by rw [e, mS_New, h6]; omega, fun x hx => (h7 x hx).trans (E x (by omega)), h8.eqc (fun o ho => E _ (by omega)), c2.2.2.2.2, ?_⟩
  refine ⟨h10.1.ag (fun x x1 x2 => ?_), by rw [(E (a + 117 + 30) (by omega)).2.2.1]; exact h10.2⟩
  have u := E x (by omega)
  exact ⟨u.1, u.2.1, u.2.2.2.2, u.2.2.1⟩
theorem Cs2.ur (h : Cs2 l l2 n2 S a M0 M) (e : M' = mUR M a j (a + q)) : Cs2 (uR l 0 j q) l2 n2 S a M0 M' := by
  obtain ⟨h1, h2, h3, ⟨h4, h5⟩, h6, h7, h8, h9, h10⟩ := h
  have E : ∀ x, x ≠ a → Eqc M M' x := fun x hx => by rw [e]; exact eqc_ur hx
  refine ⟨by rw [e]; exact mOk_UR h1, kmn.ur _ _ h2, by unfold uR; rw [md_len]; exact h3, ⟨h4, by rw [e]; exact h5⟩, by rw [e]; exact h6, fun x hx => (h7 x hx).trans (E x (by omega)), fun i r hr => ?_, h9.eqc (fun o _ => E _ (by omega)), ?_⟩
  · unfold uR at hr
    rw [md_at] at hr
    by_cases hi : i = 0
    · subst hi
      rw [if_pos rfl] at hr
      obtain ⟨r0, g0, g1⟩ := Option.map_eq_some_iff.mp hr
      obtain ⟨p1, p2, p3, p4, p5⟩ := h8 0 r0 g0
      subst g1
      subst e
      refine ⟨p1, p2, fun j' => ?_, p4, p5⟩
      show mR (mUR M a j (a + q)) (a + 0) j' = if j' = j then a + q else lpR r0.2.2.1 j' a
      rw [mR_UR]
      by_cases c : j' = j
      · rw [if_pos ⟨rfl, c⟩, if_pos c]
      · rw [if_neg (fun u => c u.2), if_neg c]
        exact p3 j'
    · rw [if_neg hi] at hr
      exact (h8 i r hr).eqc (E _ (by omega))
  · refine ⟨h10.1.ag (fun x x1 x2 => ?_), by rw [(E (a + 117 + 30) (by omega)).2.2.1]; exact h10.2⟩
    have u := E x (by omega)
    exact ⟨u.1, u.2.1, u.2.2.2.2, u.2.2.1⟩
end MMI
theorem lm2_nu : nuO.all (fun o => match LM2[o]?, LM2[o + 1]? with | some r, some r' => bqR r (15, 0, [(0, o + 1)], .inl []) && bqR r' (30, 16, [], .inl []) | _, _ => false) = true := by decide +kernel
theorem lm2_at {o : Nat} (h : o ∈ nuO) : LM2[o]? = some (15, 0, [(0, o + 1)], .inl []) ∧ LM2[o + 1]? = some (30, 16, [], .inl []) := by
  have q := List.all_eq_true.mp lm2_nu o h
  revert q
  cases LM2[o]? with
  | none => intro q; simp at q
  | some r =>
    cases LM2[o + 1]? with
    | none => intro q; simp at q
    | some r' =>
      intro q
      have q' : (bqR r (15, 0, [(0, o + 1)], .inl []) && bqR r' (30, 16, [], .inl [])) = true := q
      rw [Bool.and_eq_true] at q'
      rw [bqR_eq q'.1, bqR_eq q'.2]
      exact ⟨rfl, rfl⟩
theorem mm_nu {a : Nat} {M : mM} (h8 : Pic LM2 a M) (hz : a + 21192 ≤ mZ M) : ∀ p, p ∈ nums a → Nu M p ∧ mR M p 0 = p + 1 ∧ cp M p = 16 := by
  intro p hp
  obtain ⟨o, ho, e⟩ := nums_off.1 hp
  subst e
  have lo := nums_lt o ho
  obtain ⟨a1, a2⟩ := lm2_at ho
  have R := h8 o _ a1
  have R' := h8 (o + 1) _ a2
  have r0 : mR M (a + o) 0 = a + o + 1 := (R.2.2.1 0).trans rfl
  have cp0 : cp M (a + o) = 16 := by unfold cp; rw [r0]; exact R'.2.1
  have i0 : mI M (a + o) 1 = 0 := R.2.2.2.2 1
  exact ⟨⟨R.1, by rw [r0]; exact R'.1, ⟨by omega, by rw [r0]; omega⟩, ⟨by rw [i0]; decide, by rw [i0, cp0]; decide⟩, by rw [cp0]; decide⟩, r0, cp0⟩
/-- the reference, as its constructor leaves it -/
theorem mm_ri {a S : Nat} {M0 M : mM} (h : Cs2 LM2 LM3 7 S a M0 M) : RI (z9 (0, 0, 0, 0, x09, e09)) M a := by
  obtain ⟨h1, h2, h3, ⟨h4, h5⟩, h6, h7, h8, h9, h10⟩ := h
  have R0 := h8 0 _ rfl
  have R1 := h8 1 _ rfl
  have R3 := h8 3 _ rfl
  have R13 := h8 13 _ rfl
  have R26 := h8 26 _ rfl
  have R27 := h8 27 _ rfl
  have R28 := h8 28 _ rfl
  have R29 := h8 29 _ rfl
  have R30 := h8 30 _ rfl
  have R31 := h8 31 _ rfl
  have R32 := h8 32 _ rfl
  have R33 := h8 33 _ rfl
  have R34 := h8 34 _ rfl
  have R35 := h8 35 _ rfl
  have R36 := h8 36 _ rfl
  have R37 := h8 37 _ rfl
  have R38 := h8 38 _ rfl
  have R39 := h8 39 _ rfl
  have R40 := h8 40 _ rfl
  have R41 := h8 41 _ rfl
  have R42 := h8 42 _ rfl
  have R49 := h8 49 _ rfl
  have R62 := h8 62 _ rfl
  have R63 := h8 63 _ rfl
  have R64 := h8 64 _ rfl
  have R65 := h8 65 _ rfl
  have R66 := h8 66 _ rfl
  have R67 := h8 67 _ rfl
  have R68 := h8 68 _ rfl
  have R69 := h8 69 _ rfl
  have R70 := h8 70 _ rfl
  have R71 := h8 71 _ rfl
  have R72 := h8 72 _ rfl
  have R73 := h8 73 _ rfl
  have R74 := h8 74 _ rfl
  have R75 := h8 75 _ rfl
  have R76 := h8 76 _ rfl
  have R77 := h8 77 _ rfl
  have R78 := h8 78 _ rfl
  have R97 := h8 97 _ rfl
  have R98 := h8 98 _ rfl
  have R101 := h8 101 _ rfl
  have R102 := h8 102 _ rfl
  have R103 := h8 103 _ rfl
  have R104 := h8 104 _ rfl
  have R105 := h8 105 _ rfl
  have R106 := h8 106 _ rfl
  have R107 := h8 107 _ rfl
  have R108 := h8 108 _ rfl
  have R21185 := h9 0 _ rfl
  have R21186 := h9 1 _ rfl
  have R21187 := h9 2 _ rfl
  have R21188 := h9 3 _ rfl
  have R21189 := h9 4 _ rfl
  have R21190 := h9 5 _ rfl
  have R21191 := h9 6 _ rfl
  have hz : a + 21192 ≤ mZ M := by omega
  have nu := mm_nu h8 hz
  have i29 : mI M a 29 = 0 := (R0.2.2.2.2 29).trans rfl
  have i11 : mI M a 11 = 0 := (R0.2.2.2.2 11).trans rfl
  have i48 : mI M a 48 = 0 := (R0.2.2.2.2 48).trans rfl
  have r1 : mR M a 1 = a + 1 := (R0.2.2.1 1).trans rfl
  have r2 : mR M a 2 = a + 3 := (R0.2.2.1 2).trans rfl
  have n1 : ln M (a + 1) = 0 := (R1.2.2.2.2 1).trans rfl
  have n2 : ln M (a + 3) = 0 := (R3.2.2.2.2 1).trans rfl
  refine ⟨h1, ⟨⟨R0.1, Or.inl ⟨(R0.2.2.1 1).trans rfl, (R0.2.2.1 2).trans rfl⟩, ⟨(R0.2.2.1 3).trans rfl, (R0.2.2.1 4).trans rfl, (R0.2.2.1 5).trans rfl, (R0.2.2.1 6).trans rfl⟩, Or.inl ⟨(R0.2.2.1 9).trans rfl, (R0.2.2.1 10).trans rfl⟩, ⟨(R0.2.2.1 13).trans rfl, (R0.2.2.1 14).trans rfl, (R0.2.2.1 15).trans rfl, (R0.2.2.1 18).trans rfl, (R0.2.2.1 19).trans rfl, (R0.2.2.1 20).trans rfl, (R0.2.2.1 21).trans rfl, (R0.2.2.1 22).trans rfl, (R0.2.2.1 24).trans rfl, (R0.2.2.1 25).trans rfl, (R0.2.2.1 26).trans rfl, (R0.2.2.1 27).trans rfl, (R0.2.2.1 28).trans rfl⟩, ⟨(R0.2.2.1 31).trans rfl, (R0.2.2.1 32).trans rfl, (R0.2.2.1 33).trans rfl, (R0.2.2.1 34).trans rfl, (R0.2.2.1 35).trans rfl, (R0.2.2.1 36).trans rfl, (R0.2.2.1 37).trans rfl, (R0.2.2.1 38).trans rfl, (R0.2.2.1 39).trans rfl⟩, ⟨(R0.2.2.1 41).trans rfl, (R0.2.2.1 42).trans rfl, (R0.2.2.1 43).trans rfl, (R0.2.2.1 44).trans rfl, (R0.2.2.1 45).trans rfl, (R0.2.2.1 46).trans rfl, (R0.2.2.1 47).trans rfl⟩, ⟨⟨R97.1, R97.2.1⟩, ⟨R98.1, R98.2.1⟩, ⟨R101.1, R101.2.1⟩, ⟨R102.1, R102.2.1⟩, ⟨R103.1, R103.2.1⟩, ⟨R104.1, R104.2.1⟩⟩, ⟨⟨R105.1, R105.2.1⟩, ⟨R106.1, R106.2.1⟩, ⟨R107.1, R107.2.1⟩, ⟨R108.1, R108.2.1⟩⟩, ⟨⟨R21185.1, R21185.2.1⟩, ⟨R21186.1, R21186.2.1⟩, ⟨R21187.1, R21187.2.1⟩, ⟨R21188.1, R21188.2.1⟩, ⟨R21189.1, R21189.2.1⟩, ⟨R21190.1, R21190.2.1⟩, ⟨R21191.1, R21191.2.1⟩⟩, ⟨R13.1, ⟨(R13.2.2.1 0).trans rfl, (R13.2.2.1 1).trans rfl, (R13.2.2.1 2).trans rfl, (R13.2.2.1 3).trans rfl, (R13.2.2.1 4).trans rfl, (R13.2.2.1 5).trans rfl, (R13.2.2.1 7).trans rfl, (R13.2.2.1 8).trans rfl, (R13.2.2.1 9).trans rfl, (R13.2.2.1 10).trans rfl, (R13.2.2.1 11).trans rfl⟩, ⟨(R13.2.2.1 13).trans rfl, (R13.2.2.1 14).trans rfl, (R13.2.2.1 15).trans rfl, (R13.2.2.1 16).trans rfl, (R13.2.2.1 19).trans rfl, (R13.2.2.1 20).trans rfl, (R13.2.2.1 21).trans rfl, (R13.2.2.1 22).trans rfl, (R13.2.2.1 23).trans rfl, (R13.2.2.1 24).trans rfl, (R13.2.2.1 25).trans rfl, (R13.2.2.1 26).trans rfl, (R13.2.2.1 27).trans rfl, (R13.2.2.1 28).trans rfl, (R13.2.2.1 29).trans rfl⟩, ⟨⟨R26.1, R26.2.1⟩, ⟨R27.1, R27.2.1⟩, ⟨R28.1, R28.2.1⟩, ⟨R29.1, R29.2.1⟩, ⟨R30.1, R30.2.1⟩⟩, ⟨⟨R31.1, R31.2.1⟩, ⟨R32.1, R32.2.1⟩, ⟨R33.1, R33.2.1⟩, ⟨R34.1, R34.2.1⟩⟩, ⟨⟨R35.1, R35.2.1⟩, ⟨R36.1, R36.2.1⟩, ⟨R37.1, R37.2.1⟩, ⟨R38.1, R38.2.1⟩, ⟨R39.1, R39.2.1⟩, ⟨R40.1, R40.2.1⟩, ⟨R41.1, R41.2.1⟩, ⟨R42.1, R42.2.1⟩⟩⟩, ⟨R49.1, ⟨(R49.2.2.1 0).trans rfl, (R49.2.2.1 1).trans rfl, (R49.2.2.1 2).trans rfl, (R49.2.2.1 3).trans rfl, (R49.2.2.1 4).trans rfl, (R49.2.2.1 5).trans rfl, (R49.2.2.1 7).trans rfl, (R49.2.2.1 8).trans rfl, (R49.2.2.1 9).trans rfl, (R49.2.2.1 10).trans rfl, (R49.2.2.1 11).trans rfl⟩, ⟨(R49.2.2.1 13).trans rfl, (R49.2.2.1 14).trans rfl, (R49.2.2.1 15).trans rfl, (R49.2.2.1 16).trans rfl, (R49.2.2.1 19).trans rfl, (R49.2.2.1 20).trans rfl, (R49.2.2.1 21).trans rfl, (R49.2.2.1 22).trans rfl, (R49.2.2.1 23).trans rfl, (R49.2.2.1 24).trans rfl, (R49.2.2.1 25).trans rfl, (R49.2.2.1 26).trans rfl, (R49.2.2.1 27).trans rfl, (R49.2.2.1 28).trans rfl, (R49.2.2.1 29).trans rfl⟩, ⟨⟨R62.1, R62.2.1⟩, ⟨R63.1, R63.2.1⟩, ⟨R64.1, R64.2.1⟩, ⟨R65.1, R65.2.1⟩, ⟨R66.1, R66.2.1⟩⟩, ⟨⟨R67.1, R67.2.1⟩, ⟨R68.1, R68.2.1⟩, ⟨R69.1, R69.2.1⟩, ⟨R70.1, R70.2.1⟩⟩, ⟨⟨R71.1, R71.2.1⟩, ⟨R72.1, R72.2.1⟩, ⟨R73.1, R73.2.1⟩, ⟨R74.1, R74.2.1⟩, ⟨R75.1, R75.2.1⟩, ⟨R76.1, R76.2.1⟩, ⟨R77.1, R77.2.1⟩, ⟨R78.1, R78.2.1⟩⟩⟩⟩, fun p hp => ⟨(nu p hp).1, Or.inl (nu p hp).2.1, by rw [(nu p hp).2.2]; unfold Bd; split <;> decide⟩, fun p q hp hq ne => by rw [(nu p hp).2.1, (nu q hq).2.1]; omega, hz⟩, ⟨Tpl.nil (by rw [r1]; exact n1), by rw [r2, n2]; decide⟩, ⟨by rw [i29]; decide, by rw [i29]; decide⟩, by rw [i29]; exact h10.1, fun u => absurd i11 u, fun u => absurd u (by rw [i29]; decide), by rw [i48]; decide, by rw [i48]; decide, i11, (R0.2.2.2.2 12).trans rfl, ⟨(R0.2.2.2.2 30).trans rfl, h10.2⟩, i29, fun _ => rfl, fun u => absurd rfl u⟩
set_option maxRecDepth 100000 in
theorem s_MM_init {a d : Nat} {G : mG} {M0 M : mM} (ht : 0 < a) (hO : mOk M0) (hz : mZ M0 = a) (e : M = mNew M0 14 0 49) : Cv G y_MM_init (d + 6) [vr a] M (fun M' => mOk M' ∧ mZ M' = a + 21192 ∧ mS M' = mS M0 + 603112 ∧ (∀ x, x < a → Eqc M0 M' x) ∧ RI (z9 (0, 0, 0, 0, x09, e09)) M' a ∧ ∀ q, q ∈ nums a → mR M' q 0 = q + 1) := by
  have c0 : Cst [] 0 0 a M0 M0 := ⟨hO, ⟨rfl, hz⟩, rfl, fun _ _ => Eqc.rfl', fun o r h => by cases h⟩
  have h := c0.new e
  have k : kd (pz ([] : List PR) 14 0) 0 14 := kd.nw rfl
  have g : kmn (pz ([] : List PR) 14 0) (pz ([] : List PR) 14 0) := fun _ _ u => u
  refine k_MM_init (d := d + 5) h.1 ⟨ht, ?_⟩
  intro M2 eM2
  have hM2 := h.new eM2
  have gM2 := hM2.gg (g.trans kmn.pu)
  rw [h.z]
  refine (ii_MN (d := d + 4) ht hM2 (kd.nw h.len)).mono (fun M4 qM4 => ⟨qM4.1.1, ?_⟩)
  have hM4 := qM4.1
  have gM4 := gM2.trans qM4.2
  clear qM4
  refine ⟨hM4.kq (gM4 _ _ k), ?_⟩
  intro M8 eM8
  have hM8 := hM4.ur (gM4 _ _ k) eM8
  have gM8 := hM8.gg (gM4.trans kmn.ur)
  intro M10 eM10
  have hM10 := hM8.new eM10
  have gM10 := hM10.gg (gM8.trans kmn.pu)
  rw [hM8.z]
  refine (ii_MN (d := d + 4) ht hM10 (kd.nw hM8.len)).mono (fun M12 qM12 => ⟨qM12.1.1, ?_⟩)
  have hM12 := qM12.1
  have gM12 := gM10.trans qM12.2
  clear qM12
  refine ⟨hM12.kq (gM12 _ _ k), ?_⟩
  intro M16 eM16
  have hM16 := hM12.ur (gM12 _ _ k) eM16
  have gM16 := hM16.gg (gM12.trans kmn.ur)
  intro M18 eM18
  have hM18 := hM16.new eM18
  have gM18 := hM18.gg (gM16.trans kmn.pu)
  rw [hM16.z]
  refine (ii_MN (d := d + 4) ht hM18 (kd.nw hM16.len)).mono (fun M20 qM20 => ⟨qM20.1.1, ?_⟩)
  have hM20 := qM20.1
  have gM20 := gM18.trans qM20.2
  clear qM20
  refine ⟨hM20.kq (gM20 _ _ k), ?_⟩
  intro M24 eM24
  have hM24 := hM20.ur (gM20 _ _ k) eM24
  have gM24 := hM24.gg (gM20.trans kmn.ur)
  intro M26 eM26
  have hM26 := hM24.new eM26
  have gM26 := hM26.gg (gM24.trans kmn.pu)
  rw [hM24.z]
  refine (ii_MN (d := d + 4) ht hM26 (kd.nw hM24.len)).mono (fun M28 qM28 => ⟨qM28.1.1, ?_⟩)
  have hM28 := qM28.1
  have gM28 := gM26.trans qM28.2
  clear qM28
  refine ⟨hM28.kq (gM28 _ _ k), ?_⟩
  intro M32 eM32
  have hM32 := hM28.ur (gM28 _ _ k) eM32
  have gM32 := hM32.gg (gM28.trans kmn.ur)
  intro M34 eM34
  have hM34 := hM32.new eM34
  have gM34 := hM34.gg (gM32.trans kmn.pu)
  rw [hM32.z]
  refine (ii_MN (d := d + 4) ht hM34 (kd.nw hM32.len)).mono (fun M36 qM36 => ⟨qM36.1.1, ?_⟩)
  have hM36 := qM36.1
  have gM36 := gM34.trans qM36.2
  clear qM36
  refine ⟨hM36.kq (gM36 _ _ k), ?_⟩
  intro M40 eM40
  have hM40 := hM36.ur (gM36 _ _ k) eM40
  have gM40 := hM40.gg (gM36.trans kmn.ur)
  intro M42 eM42
  have hM42 := hM40.new eM42
  have gM42 := hM42.gg (gM40.trans kmn.pu)
  rw [hM40.z]
  refine (ii_MN (d := d + 4) ht hM42 (kd.nw hM40.len)).mono (fun M44 qM44 => ⟨qM44.1.1, ?_⟩)
  have hM44 := qM44.1
  have gM44 := gM42.trans qM44.2
  clear qM44
  refine ⟨hM44.kq (gM44 _ _ k), ?_⟩
  intro M48 eM48
  have hM48 := hM44.ur (gM44 _ _ k) eM48
  have gM48 := hM48.gg (gM44.trans kmn.ur)
  intro M50 eM50
  have hM50 := hM48.new eM50
  have gM50 := hM50.gg (gM48.trans kmn.pu)
  rw [hM48.z]
  refine (ii_MG (d := d + 3) ht hM50 (kd.nw hM48.len)).mono (fun M52 qM52 => ⟨qM52.1.1, ?_⟩)
  have hM52 := qM52.1
  have gM52 := gM50.trans qM52.2
  clear qM52
  refine ⟨hM52.kq (gM52 _ _ k), ?_⟩
  intro M56 eM56
  have hM56 := hM52.ur (gM52 _ _ k) eM56
  have gM56 := hM56.gg (gM52.trans kmn.ur)
  intro M58 eM58
  have hM58 := hM56.new eM58
  have gM58 := hM58.gg (gM56.trans kmn.pu)
  rw [hM56.z]
  refine (ii_MG (d := d + 3) ht hM58 (kd.nw hM56.len)).mono (fun M60 qM60 => ⟨qM60.1.1, ?_⟩)
  have hM60 := qM60.1
  have gM60 := gM58.trans qM60.2
  clear qM60
  refine ⟨hM60.kq (gM60 _ _ k), ?_⟩
  intro M64 eM64
  have hM64 := hM60.ur (gM60 _ _ k) eM64
  have gM64 := hM64.gg (gM60.trans kmn.ur)
  intro M66 eM66
  have hM66 := hM64.ui (gM64 _ _ k) ⟨by decide, by decide⟩ eM66
  have gM66 := hM66.gg (gM64.trans kmn.ui)
  intro M68 eM68
  have hM68 := hM66.new eM68
  have gM68 := hM68.gg (gM66.trans kmn.pu)
  rw [hM66.z]
  refine (ii_MN (d := d + 4) ht hM68 (kd.nw hM66.len)).mono (fun M70 qM70 => ⟨qM70.1.1, ?_⟩)
  have hM70 := qM70.1
  have gM70 := gM68.trans qM70.2
  clear qM70
  refine ⟨hM70.kq (gM70 _ _ k), ?_⟩
  intro M74 eM74
  have hM74 := hM70.ur (gM70 _ _ k) eM74
  have gM74 := hM74.gg (gM70.trans kmn.ur)
  intro M76 eM76
  have hM76 := hM74.new eM76
  have gM76 := hM76.gg (gM74.trans kmn.pu)
  rw [hM74.z]
  refine (ii_MN (d := d + 4) ht hM76 (kd.nw hM74.len)).mono (fun M78 qM78 => ⟨qM78.1.1, ?_⟩)
  have hM78 := qM78.1
  have gM78 := gM76.trans qM78.2
  clear qM78
  refine ⟨hM78.kq (gM78 _ _ k), ?_⟩
  intro M82 eM82
  have hM82 := hM78.ur (gM78 _ _ k) eM82
  have gM82 := hM82.gg (gM78.trans kmn.ur)
  intro M84 eM84
  have hM84 := hM82.new eM84
  have gM84 := hM84.gg (gM82.trans kmn.pu)
  rw [hM82.z]
  refine (ii_MN (d := d + 4) ht hM84 (kd.nw hM82.len)).mono (fun M86 qM86 => ⟨qM86.1.1, ?_⟩)
  have hM86 := qM86.1
  have gM86 := gM84.trans qM86.2
  clear qM86
  refine ⟨hM86.kq (gM86 _ _ k), ?_⟩
  intro M90 eM90
  have hM90 := hM86.ur (gM86 _ _ k) eM90
  have gM90 := hM90.gg (gM86.trans kmn.ur)
  intro M92 eM92
  have hM92 := hM90.new eM92
  have gM92 := hM92.gg (gM90.trans kmn.pu)
  rw [hM90.z]
  refine (ii_MN (d := d + 4) ht hM92 (kd.nw hM90.len)).mono (fun M94 qM94 => ⟨qM94.1.1, ?_⟩)
  have hM94 := qM94.1
  have gM94 := gM92.trans qM94.2
  clear qM94
  refine ⟨hM94.kq (gM94 _ _ k), ?_⟩
  intro M98 eM98
  have hM98 := hM94.ur (gM94 _ _ k) eM98
  have gM98 := hM98.gg (gM94.trans kmn.ur)
  intro M100 eM100
  have hM100 := hM98.new eM100
  have gM100 := hM100.gg (gM98.trans kmn.pu)
  rw [hM98.z]
  refine (ii_MN (d := d + 4) ht hM100 (kd.nw hM98.len)).mono (fun M102 qM102 => ⟨qM102.1.1, ?_⟩)
  have hM102 := qM102.1
  have gM102 := gM100.trans qM102.2
  clear qM102
  refine ⟨hM102.kq (gM102 _ _ k), ?_⟩
  intro M106 eM106
  have hM106 := hM102.ur (gM102 _ _ k) eM106
  have gM106 := hM106.gg (gM102.trans kmn.ur)
  intro M108 eM108
  have hM108 := hM106.new eM108
  have gM108 := hM108.gg (gM106.trans kmn.pu)
  rw [hM106.z]
  refine (ii_MN (d := d + 4) ht hM108 (kd.nw hM106.len)).mono (fun M110 qM110 => ⟨qM110.1.1, ?_⟩)
  have hM110 := qM110.1
  have gM110 := gM108.trans qM110.2
  clear qM110
  refine ⟨hM110.kq (gM110 _ _ k), ?_⟩
  intro M114 eM114
  have hM114 := hM110.ur (gM110 _ _ k) eM114
  have gM114 := hM114.gg (gM110.trans kmn.ur)
  intro M116 eM116
  have hM116 := hM114.new eM116
  have gM116 := hM116.gg (gM114.trans kmn.pu)
  rw [hM114.z]
  refine ⟨hM116.kq (gM116 _ _ k), ?_⟩
  intro M119 eM119
  have hM119 := hM116.ur (gM116 _ _ k) eM119
  have gM119 := hM119.gg (gM116.trans kmn.ur)
  intro M121 eM121
  have hM121 := hM119.new eM121
  have gM121 := hM121.gg (gM119.trans kmn.pu)
  rw [hM119.z]
  refine ⟨hM121.kq (gM121 _ _ k), ?_⟩
  intro M124 eM124
  have hM124 := hM121.ur (gM121 _ _ k) eM124
  have gM124 := hM124.gg (gM121.trans kmn.ur)
  intro M126 eM126
  have hM126 := hM124.new eM126
  have gM126 := hM126.gg (gM124.trans kmn.pu)
  rw [hM124.z]
  refine (ii_MN (d := d + 4) ht hM126 (kd.nw hM124.len)).mono (fun M128 qM128 => ⟨qM128.1.1, ?_⟩)
  have hM128 := qM128.1
  have gM128 := gM126.trans qM128.2
  clear qM128
  refine ⟨hM128.kq (gM128 _ _ k), ?_⟩
  intro M132 eM132
  have hM132 := hM128.ur (gM128 _ _ k) eM132
  have gM132 := hM132.gg (gM128.trans kmn.ur)
  intro M134 eM134
  have hM134 := hM132.new eM134
  have gM134 := hM134.gg (gM132.trans kmn.pu)
  rw [hM132.z]
  refine ⟨hM134.kq (gM134 _ _ k), ?_⟩
  intro M137 eM137
  have hM137 := hM134.ur (gM134 _ _ k) eM137
  have gM137 := hM137.gg (gM134.trans kmn.ur)
  intro M139 eM139
  have hM139 := hM137.new eM139
  have gM139 := hM139.gg (gM137.trans kmn.pu)
  rw [hM137.z]
  refine ⟨hM139.kq (gM139 _ _ k), ?_⟩
  intro M142 eM142
  have hM142 := hM139.ur (gM139 _ _ k) eM142
  have gM142 := hM142.gg (gM139.trans kmn.ur)
  intro M144 eM144
  have hM144 := hM142.new eM144
  have gM144 := hM144.gg (gM142.trans kmn.pu)
  rw [hM142.z]
  refine ⟨hM144.kq (gM144 _ _ k), ?_⟩
  intro M147 eM147
  have hM147 := hM144.ur (gM144 _ _ k) eM147
  have gM147 := hM147.gg (gM144.trans kmn.ur)
  intro M149 eM149
  have hM149 := hM147.new eM149
  have gM149 := hM149.gg (gM147.trans kmn.pu)
  rw [hM147.z]
  refine ⟨hM149.kq (gM149 _ _ k), ?_⟩
  intro M152 eM152
  have hM152 := hM149.ur (gM149 _ _ k) eM152
  have gM152 := hM152.gg (gM149.trans kmn.ur)
  intro M154 eM154
  have hM154 := hM152.ui (gM152 _ _ k) ⟨by decide, by decide⟩ eM154
  have gM154 := hM154.gg (gM152.trans kmn.ui)
  intro M156 eM156
  have hM156 := hM154.new eM156
  have gM156 := hM156.gg (gM154.trans kmn.pu)
  rw [hM154.z]
  refine ⟨hM156.kq (gM156 _ _ k), ?_⟩
  intro M159 eM159
  have hM159 := hM156.ur (gM156 _ _ k) eM159
  have gM159 := hM159.gg (gM156.trans kmn.ur)
  intro M161 eM161
  have hM161 := hM159.new eM161
  have gM161 := hM161.gg (gM159.trans kmn.pu)
  rw [hM159.z]
  refine ⟨hM161.kq (gM161 _ _ k), ?_⟩
  intro M164 eM164
  have hM164 := hM161.ur (gM161 _ _ k) eM164
  have gM164 := hM164.gg (gM161.trans kmn.ur)
  intro M166 eM166
  have hM166 := hM164.new eM166
  have gM166 := hM166.gg (gM164.trans kmn.pu)
  rw [hM164.z]
  refine ⟨hM166.kq (gM166 _ _ k), ?_⟩
  intro M169 eM169
  have hM169 := hM166.ur (gM166 _ _ k) eM169
  have gM169 := hM169.gg (gM166.trans kmn.ur)
  intro M171 eM171
  have hM171 := hM169.new eM171
  have gM171 := hM171.gg (gM169.trans kmn.pu)
  rw [hM169.z]
  refine ⟨hM171.kq (gM171 _ _ k), ?_⟩
  intro M174 eM174
  have hM174 := hM171.ur (gM171 _ _ k) eM174
  have gM174 := hM174.gg (gM171.trans kmn.ur)
  intro M176 eM176
  have hM176 := hM174.new eM176
  have gM176 := hM176.gg (gM174.trans kmn.pu)
  rw [hM174.z]
  refine (ii_MN (d := d + 4) ht hM176 (kd.nw hM174.len)).mono (fun M178 qM178 => ⟨qM178.1.1, ?_⟩)
  have hM178 := qM178.1
  have gM178 := gM176.trans qM178.2
  clear qM178
  refine ⟨hM178.kq (gM178 _ _ k), ?_⟩
  intro M182 eM182
  have hM182 := hM178.ur (gM178 _ _ k) eM182
  have gM182 := hM182.gg (gM178.trans kmn.ur)
  intro M184 eM184
  have hM184 := hM182.new eM184
  have gM184 := hM184.gg (gM182.trans kmn.pu)
  rw [hM182.z]
  refine (ii_MN (d := d + 4) ht hM184 (kd.nw hM182.len)).mono (fun M186 qM186 => ⟨qM186.1.1, ?_⟩)
  have hM186 := qM186.1
  have gM186 := gM184.trans qM186.2
  clear qM186
  refine ⟨hM186.kq (gM186 _ _ k), ?_⟩
  intro M190 eM190
  have hM190 := hM186.ur (gM186 _ _ k) eM190
  have gM190 := hM190.gg (gM186.trans kmn.ur)
  intro M192 eM192
  have hM192 := hM190.new eM192
  have gM192 := hM192.gg (gM190.trans kmn.pu)
  rw [hM190.z]
  refine (ii_MN (d := d + 4) ht hM192 (kd.nw hM190.len)).mono (fun M194 qM194 => ⟨qM194.1.1, ?_⟩)
  have hM194 := qM194.1
  have gM194 := gM192.trans qM194.2
  clear qM194
  refine ⟨hM194.kq (gM194 _ _ k), ?_⟩
  intro M198 eM198
  have hM198 := hM194.ur (gM194 _ _ k) eM198
  have gM198 := hM198.gg (gM194.trans kmn.ur)
  intro M200 eM200
  have hM200 := hM198.new eM200
  have gM200 := hM200.gg (gM198.trans kmn.pu)
  rw [hM198.z]
  refine (ii_MN (d := d + 4) ht hM200 (kd.nw hM198.len)).mono (fun M202 qM202 => ⟨qM202.1.1, ?_⟩)
  have hM202 := qM202.1
  have gM202 := gM200.trans qM202.2
  clear qM202
  refine ⟨hM202.kq (gM202 _ _ k), ?_⟩
  intro M206 eM206
  have hM206 := hM202.ur (gM202 _ _ k) eM206
  have gM206 := hM206.gg (gM202.trans kmn.ur)
  have p5 := hM206.2.2.2.2
  have e1 : ini_MM (pz ([] : List PR) 14 0) 0 (0 + 1) = LMM := lmm_eq
  have p6 : Pic LMM a M206 := by rw [← e1]; exact p5
  intro M208 eM208
  have z6 := (hM206.cv (n' := 117) (by omega) rfl).z
  have s6 := hM206.2.2.1
  have o6 := hM206.1
  have f6 := hM206.2.2.2.1
  have kk6 : kd LMM 0 14 := by rw [← e1]; exact gM206 _ _ k
  rw [z6]
  refine (s_MS_init (d := d) (s := a + 117) (by omega) o6 z6 eM208).mono (fun M210 q => ⟨q.1, ?_⟩)
  obtain ⟨q1, q2, q3, q4, q5⟩ := q
  have hM210 : Cs2 LMM [] 0 589896 a M0 M210 := ⟨q1, kk6, rfl, ⟨rfl, by omega⟩, by omega, fun x hx => (f6 x hx).trans (q4 x (by omega)), p6.eqc (fun o ho => q4 _ (by have : o < 117 := ho; omega)), (fun o r h => by cases h), q5⟩
  refine ⟨hM210.kq, ?_⟩
  intro M214 eM214
  have hM214 := hM210.ur (q := 117) eM214
  intro M216 eM216
  have hM216 := hM214.new eM216
  rw [hM214.z]
  refine ⟨hM216.kq, ?_⟩
  intro M219 eM219
  have hM219 := hM216.ur (q := 21185) eM219
  intro M221 eM221
  have hM221 := hM219.new eM221
  rw [hM219.z]
  refine ⟨hM221.kq, ?_⟩
  intro M224 eM224
  have hM224 := hM221.ur (q := 21186) eM224
  intro M226 eM226
  have hM226 := hM224.new eM226
  rw [hM224.z]
  refine ⟨hM226.kq, ?_⟩
  intro M229 eM229
  have hM229 := hM226.ur (q := 21187) eM229
  intro M231 eM231
  have hM231 := hM229.new eM231
  rw [hM229.z]
  refine ⟨hM231.kq, ?_⟩
  intro M234 eM234
  have hM234 := hM231.ur (q := 21188) eM234
  intro M236 eM236
  have hM236 := hM234.new eM236
  rw [hM234.z]
  refine ⟨hM236.kq, ?_⟩
  intro M239 eM239
  have hM239 := hM236.ur (q := 21189) eM239
  intro M241 eM241
  have hM241 := hM239.new eM241
  rw [hM239.z]
  refine ⟨hM241.kq, ?_⟩
  intro M244 eM244
  have hM244 := hM241.ur (q := 21190) eM244
  intro M246 eM246
  have hM246 := hM244.new eM246
  rw [hM244.z]
  refine ⟨hM246.kq, ?_⟩
  intro M249 eM249
  have hM249 := hM246.ur (q := 21191) eM249
  have hE := hM249
  rw [lm2_eq, lm3_eq] at hE
  have hE' : Cs2 LM2 LM3 7 603112 a M0 M249 := hE
  exact ⟨hE'.1, hE'.z, hE'.2.2.2.2.1, hE'.2.2.2.2.2.1, mm_ri hE', fun q hq => (mm_nu hE'.2.2.2.2.2.2.1 (by rw [hE'.z]; omega) q hq).2.1⟩
