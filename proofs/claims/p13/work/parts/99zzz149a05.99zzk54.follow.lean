/-! The class's game: a branch is followed. -/
section GAF
variable {G : mG} {d z g p O P K V F L cnt U Ab Be C Ab0 Be0 C0 s h t c cn k u v cc n bc bc0 x a0 : Nat} {M0 M M' M1 M2 : mM} {ns : Nat → Int} {sf ef : Nat → Nat} {H : Nat → Nat} {S R : Nat → Prop} {sm sh : Int}
/-- the sum of the weights from x on -/
def wsm (M : mM) (g x : Nat) : Nat → Int
  | 0 => 0
  | i + 1 => wsm M g x i + mI M (g + 9) (x + i)
theorem wsm_cg : ∀ n, (∀ i, x ≤ i → i < x + n → mI M' (g + 9) i = mI M (g + 9) i) → wsm M' g x n = wsm M g x n
  | 0, _ => rfl
  | n + 1, hh => by
    show wsm M' g x n + mI M' (g + 9) (x + n) = wsm M g x n + mI M (g + 9) (x + n)
    rw [wsm_cg n (fun i h1 h2 => hh i h1 (by omega)), hh (x + n) (by omega) (by omega)]
theorem wsm_add (he : ∀ i, mI M' (g + 9) i = if i = a0 then mI M (g + 9) a0 + sh else mI M (g + 9) i) (hx : x ≤ a0) : ∀ n, wsm M' g x n = if a0 < x + n then wsm M g x n + sh else wsm M g x n
  | 0 => by
    rw [if_neg (by omega)]
    rfl
  | n + 1 => by
    show wsm M' g x n + mI M' (g + 9) (x + n) = _
    rw [wsm_add he hx n, he]
    have e : wsm M g x (n + 1) = wsm M g x n + mI M (g + 9) (x + n) := rfl
    by_cases y : a0 = x + n
    · rw [if_neg (by omega), if_pos y.symm, if_pos (by omega), e, ← y]
      omega
    · have y3 : ¬ x + n = a0 := fun t => y t.symm
      by_cases y2 : a0 < x + n
      · rw [if_pos y2, if_neg y3, if_pos (by omega), e]
        omega
      · rw [if_neg y2, if_neg y3, if_neg (by omega), e]
theorem wsm_ge (hw : ∀ i, x ≤ i → i < x + n → 1 ≤ mI M (g + 9) i) : ∀ m, m ≤ n → (m : Int) ≤ wsm M g x m
  | 0, _ => Int.le_refl _
  | m + 1, hm => by
    have e : wsm M g x (m + 1) = wsm M g x m + mI M (g + 9) (x + m) := rfl
    have := wsm_ge hw m (by omega)
    have := hw (x + m) (by omega) (by omega)
    rw [e]
    omega
theorem wsm_le (hw : ∀ i, x ≤ i → i < x + n → 1 ≤ mI M (g + 9) i) : ∀ m, m ≤ n → ∀ i, x ≤ i → i < x + m → mI M (g + 9) i ≤ wsm M g x m
  | 0, _, i, h1, h2 => absurd h2 (by omega)
  | m + 1, hm, i, h1, h2 => by
    have e : wsm M g x (m + 1) = wsm M g x m + mI M (g + 9) (x + m) := rfl
    have := wsm_ge hw m (by omega)
    have := hw (x + m) (by omega) (by omega)
    rw [e]
    by_cases y : i = x + m
    · rw [y]; omega
    · have := wsm_le hw m (by omega) i h1 (by omega)
      omega
/-- a command in progress: branches from bc0 to bc, of sum sm -/
def ipG (M : mM) (g cn bc0 bc : Nat) (sm : Int) : Prop := bc0 ≤ bc ∧ bc ≤ 4096 ∧ (∀ i, bc0 ≤ i → i < bc → 0 ≤ mI M (g + 8) i ∧ mI M (g + 8) i < cn ∧ 1 ≤ mI M (g + 9) i) ∧ wsm M g bc0 (bc - bc0) = sm
/-- what following may change -/
def flF (M : mM) (g p : Nat) (bc0 : Nat) (M' : mM) : Prop := (∀ i, i ≠ 0 → i ≠ 10 → i ≠ 13 → mI M' g i = mI M g i) ∧ (∀ i, 2 ≤ i → i ≤ 7 → mI M' (g + i) = mI M (g + i)) ∧ (mI M' (g + 21) = mI M (g + 21) ∧ mI M' (g + 22) = mI M (g + 22)) ∧ mI M' (g + 10) 9 = mI M (g + 10) 9 ∧ (∀ i, i ≤ 15 → mI M' (p + i) = mI M (p + i)) ∧ (∀ i, i < bc0 → mI M' (g + 8) i = mI M (g + 8) i ∧ mI M' (g + 9) i = mI M (g + 9) i)
theorem flF.refl : flF M g p bc0 M := ⟨fun _ _ _ _ => rfl, fun _ _ _ => rfl, ⟨rfl, rfl⟩, rfl, fun _ _ => rfl, fun _ _ => ⟨rfl, rfl⟩⟩
theorem flF.trans (f : flF M g p bc0 M1) (k : flF M1 g p bc0 M2) : flF M g p bc0 M2 := by
  obtain ⟨f1, f2, ⟨f3, f4⟩, f5, f6, f7⟩ := f
  obtain ⟨g1, g2, ⟨g3, g4⟩, g5, g6, g7⟩ := k
  exact ⟨fun i a b c => by rw [g1 i a b c, f1 i a b c], fun i a b => by rw [g2 i a b, f2 i a b], ⟨by rw [g3, f3], by rw [g4, f4]⟩, by rw [g5, f5], fun i hi => by rw [g6 i hi, f6 i hi], fun i hi => ⟨by rw [(g7 i hi).1, (f7 i hi).1], by rw [(g7 i hi).2, (f7 i hi).2]⟩⟩
/-- what following a branch comes to -/
def foQ (M0 : mM) (z g p O P K V F : Nat) (ns : Nat → Int) (sf ef : Nat → Nat) (L cnt Ab0 Be0 C0 : Nat) (MB : mM) (bc0 : Nat) (cn : Nat) (sm : Int) (r : Int) (M' : mM) : Prop := i32 r ∧ flF MB g p bc0 M' ∧ (∃ Ab Be C, GX M0 z g p O P K V F ns sf ef L cnt Ab0 Be0 C0 M' Ab Be C) ∧ ∃ cn' bc' : Nat, (mI M' g 0 = ((cn' : Nat) : Int) ∧ cn ≤ cn' ∧ cn' ≤ 512 ∧ SLt M' g cn') ∧ mI M' g 13 = ((bc' : Nat) : Int) ∧ bc0 ≤ bc' ∧ (bc' ≤ 4096 ∧ ((bc' : Nat) : Int) ≤ mI MB g 13 + 1) ∧ (r = 0 → ipG M' g cn' bc0 bc' sm)
theorem ga_off (hx : GX M0 z g p O P K V F ns sf ef L cnt Ab0 Be0 C0 M Ab Be C) : ∀ i j, i ≤ 15 → j ≤ 22 → p + i ≠ g + j := fun i j hi hj => by
  have := hx.2.2.2.2.2.1.2.1
  omega
end GAF
