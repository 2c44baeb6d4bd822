/-! The reference: its places; feed and end. -/
/-- where its lists lie -/
def nuO : List Nat := [1, 3, 5, 7, 9, 11, 14, 16, 18, 20, 22, 24, 43, 45, 47, 50, 52, 54, 56, 58, 60, 79, 81, 83, 85, 87, 89, 91, 93, 95, 99, 109, 111, 113, 115]
def nums (a : Nat) : List Nat := nuO.map (fun o => a + o)
/-- a game's places -/
def Gp (M : mM) (g : Nat) : Prop := mK M g = 16 ∧ (mR M g 0 = g + 1 ∧ mR M g 1 = g + 3 ∧ mR M g 2 = g + 5 ∧ mR M g 3 = g + 7 ∧ mR M g 4 = g + 9 ∧ mR M g 5 = g + 11 ∧ mR M g 7 = g + 13 ∧ mR M g 8 = g + 14 ∧ mR M g 9 = g + 15 ∧ mR M g 10 = g + 16 ∧ mR M g 11 = g + 17)
  ∧ (mR M g 13 = g + 18 ∧ mR M g 14 = g + 19 ∧ mR M g 15 = g + 20 ∧ mR M g 16 = g + 21 ∧ mR M g 19 = g + 22 ∧ mR M g 20 = g + 23 ∧ mR M g 21 = g + 24 ∧ mR M g 22 = g + 25 ∧ mR M g 23 = g + 26 ∧ mR M g 24 = g + 27 ∧ mR M g 25 = g + 28 ∧ mR M g 26 = g + 29 ∧ mR M g 27 = g + 30 ∧ mR M g 28 = g + 32 ∧ mR M g 29 = g + 34)
  ∧ ((mK M (g + 13) = 31 ∧ mN M (g + 13) = 60) ∧ (mK M (g + 14) = 31 ∧ mN M (g + 14) = 60) ∧ (mK M (g + 15) = 30 ∧ mN M (g + 15) = 60) ∧ (mK M (g + 16) = 33 ∧ mN M (g + 16) = 60) ∧ (mK M (g + 17) = 33 ∧ mN M (g + 17) = 60))
  ∧ ((mK M (g + 18) = 31 ∧ mN M (g + 18) = 12) ∧ (mK M (g + 19) = 30 ∧ mN M (g + 19) = 12) ∧ (mK M (g + 20) = 30 ∧ mN M (g + 20) = 12) ∧ (mK M (g + 21) = 30 ∧ mN M (g + 21) = 12))
  ∧ ((mK M (g + 22) = 31 ∧ mN M (g + 22) = 60) ∧ (mK M (g + 23) = 30 ∧ mN M (g + 23) = 60) ∧ (mK M (g + 24) = 30 ∧ mN M (g + 24) = 60) ∧ (mK M (g + 25) = 30 ∧ mN M (g + 25) = 60) ∧ (mK M (g + 26) = 30 ∧ mN M (g + 26) = 480) ∧ (mK M (g + 27) = 30 ∧ mN M (g + 27) = 480) ∧ (mK M (g + 28) = 30 ∧ mN M (g + 28) = 480) ∧ (mK M (g + 29) = 30 ∧ mN M (g + 29) = 480))
/-- the reference's places -/
def Pl (M : mM) (a : Nat) : Prop := mK M a = 14 ∧ ((mR M a 1 = a + 1 ∧ mR M a 2 = a + 3) ∨ (mR M a 1 = a + 3 ∧ mR M a 2 = a + 1)) ∧ (mR M a 3 = a + 5 ∧ mR M a 4 = a + 7 ∧ mR M a 5 = a + 9 ∧ mR M a 6 = a + 11) ∧ ((mR M a 9 = a + 13 ∧ mR M a 10 = a + 49) ∨ (mR M a 9 = a + 49 ∧ mR M a 10 = a + 13))
  ∧ (mR M a 13 = a + 85 ∧ mR M a 14 = a + 87 ∧ mR M a 15 = a + 89 ∧ mR M a 18 = a + 91 ∧ mR M a 19 = a + 93 ∧ mR M a 20 = a + 95 ∧ mR M a 21 = a + 97 ∧ mR M a 22 = a + 98 ∧ mR M a 24 = a + 99 ∧ mR M a 25 = a + 101 ∧ mR M a 26 = a + 102 ∧ mR M a 27 = a + 103 ∧ mR M a 28 = a + 104)
  ∧ (mR M a 31 = a + 105 ∧ mR M a 32 = a + 106 ∧ mR M a 33 = a + 107 ∧ mR M a 34 = a + 108 ∧ mR M a 35 = a + 109 ∧ mR M a 36 = a + 111 ∧ mR M a 37 = a + 113 ∧ mR M a 38 = a + 115 ∧ mR M a 39 = a + 117)
  ∧ (mR M a 41 = a + 21185 ∧ mR M a 42 = a + 21186 ∧ mR M a 43 = a + 21187 ∧ mR M a 44 = a + 21188 ∧ mR M a 45 = a + 21189 ∧ mR M a 46 = a + 21190 ∧ mR M a 47 = a + 21191)
  ∧ ((mK M (a + 97) = 33 ∧ mN M (a + 97) = 16400) ∧ (mK M (a + 98) = 33 ∧ mN M (a + 98) = 16400) ∧ (mK M (a + 101) = 30 ∧ mN M (a + 101) = 12) ∧ (mK M (a + 102) = 31 ∧ mN M (a + 102) = 60) ∧ (mK M (a + 103) = 33 ∧ mN M (a + 103) = 60) ∧ (mK M (a + 104) = 33 ∧ mN M (a + 104) = 60))
  ∧ ((mK M (a + 105) = 30 ∧ mN M (a + 105) = 6144) ∧ (mK M (a + 106) = 30 ∧ mN M (a + 106) = 512) ∧ (mK M (a + 107) = 30 ∧ mN M (a + 107) = 512) ∧ (mK M (a + 108) = 30 ∧ mN M (a + 108) = 512))
  ∧ ((mK M (a + 21185) = 30 ∧ mN M (a + 21185) = 4096) ∧ (mK M (a + 21186) = 33 ∧ mN M (a + 21186) = 4096) ∧ (mK M (a + 21187) = 33 ∧ mN M (a + 21187) = 4096) ∧ (mK M (a + 21188) = 30 ∧ mN M (a + 21188) = 12) ∧ (mK M (a + 21189) = 33 ∧ mN M (a + 21189) = 8) ∧ (mK M (a + 21190) = 33 ∧ mN M (a + 21190) = 8) ∧ (mK M (a + 21191) = 30 ∧ mN M (a + 21191) = 900))
  ∧ Gp M (a + 13) ∧ Gp M (a + 49)
/-- how much a list may hold -/
def Bd (a p : Nat) : Nat := if p = a + 91 ∨ p = a + 93 ∨ p = a + 95 ∨ p = a + 99 then 131072 else 65536
/-- the reference's shape -/
def Wd (M : mM) (a : Nat) : Prop := Pl M a ∧ (∀ p, p ∈ nums a → Nu M p ∧ (mR M p 0 = p + 1 ∨ a + 21192 ≤ mR M p 0) ∧ cp M p ≤ Bd a p) ∧ Apt (nums a) M ∧ a + 21192 ≤ mZ M
theorem nums_off {a p : Nat} : p ∈ nums a ↔ ∃ o, o ∈ nuO ∧ p = a + o := by
  unfold nums
  rw [List.mem_map]
  exact ⟨fun ⟨o, h1, h2⟩ => ⟨o, h1, h2.symm⟩, fun ⟨o, h1, h2⟩ => ⟨o, h1, h2.symm⟩⟩
theorem nums_lt : ∀ o ∈ nuO, 1 ≤ o ∧ o ≤ 115 ∧ o + 1 ∉ nuO := by decide
theorem nums_nodup {a : Nat} : (nums a).Nodup := by
  have h : nuO.Nodup := by decide
  exact List.Pairwise.map _ (fun x y h => by omega) h
theorem nums_in {a p : Nat} (h : p ∈ nums a) : a < p ∧ p ≤ a + 115 ∧ p + 1 ∉ nums a := by
  obtain ⟨o, h1, h2⟩ := nums_off.1 h
  have := nums_lt o h1
  refine ⟨by omega, by omega, fun w => ?_⟩
  obtain ⟨o', h3, h4⟩ := nums_off.1 w
  have e : o' = o + 1 := by omega
  rw [e] at h3
  exact this.2.2 h3
theorem nums_o {a o : Nat} (h : o ∈ nuO) : a + o ∈ nums a := nums_off.2 ⟨o, h, rfl⟩
