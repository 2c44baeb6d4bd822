/-! The class's unknown states are the least closed set. -/
section NCS
variable {T : xt9} {J J' : Nat → Prop} {x : Int × List sc9} {s g cn cc bc k lo hi un : Nat} {M M0 M' : mM} {r : Int}
/-- the game's tables, with the commands that are left, are T's -/
def ClT (M : mM) (s g cn : Nat) (T : xt9) : Prop := T.length = cn ∧ ∀ (k : Nat) (x : Int × List sc9), T[k]? = some x → mI M (g + 2) k = x.1 ∧ (x.1 = 1 ∨ x.1 = 2 ∨ x.2 = []) ∧ ∃ lo : Nat, mI M (s + 122) k = ((lo : Nat) : Int) ∧ mI M (s + 123) k = ((lo + x.2.length : Nat) : Int) ∧ ∀ (i : Nat) (c : sc9), x.2[i]? = some c → mI M (g + 6) (lo + i) = c.2.1 ∧ (∀ b, b ∈ c.2.2 → b.1 < cn) ∧ ∀ J : Nat → Prop, (∃ j : Nat, mI M (g + 7) (lo + i) ≤ j ∧ (j : Int) < mI M (g + 7) (lo + i + 1) ∧ J (mI M (g + 8) j).toNat) ↔ ldA9 J c
def coG (J : Nat → Prop) (M : mM) (g k lo hi : Nat) : Prop := (mI M (g + 2) k = 1 ∧ ∃ c : Nat, lo ≤ c ∧ c < hi ∧ ∃ j : Nat, mI M (g + 7) c ≤ j ∧ (j : Int) < mI M (g + 7) (c + 1) ∧ J (mI M (g + 8) j).toNat) ∨ (mI M (g + 2) k ≠ 1 ∧ lo < hi ∧ ∀ c : Nat, lo ≤ c → c < hi → ∃ j : Nat, mI M (g + 7) c ≤ j ∧ (j : Int) < mI M (g + 7) (c + 1) ∧ J (mI M (g + 8) j).toNat)
theorem coG_iff (h : ClT M s g cn T) (hx : T[k]? = some x) (h1 : mI M (s + 122) k = ((lo : Nat) : Int)) (h2 : mI M (s + 123) k = ((hi : Nat) : Int)) : coG J M g k lo hi ↔ coA9 J x := by
  obtain ⟨a1, a2, l, a3, a4, a5⟩ := h.2 k x hx
  have el : l = lo := by rw [h1] at a3; omega
  subst el
  have eh : hi = l + x.2.length := by rw [h2] at a4; omega
  subst eh
  unfold coG coA9
  rw [a1]
  constructor
  · intro u
    rcases u with ⟨u1, c, u2, u3, u4⟩ | ⟨u1, u2, u3⟩
    · have g9 := List.getElem?_eq_getElem (l := x.2) (i := c - l) (by omega)
      have e : l + (c - l) = c := by omega
      have q := (a5 (c - l) _ g9).2.2 J
      rw [e] at q
      exact Or.inl ⟨u1, _, List.mem_of_getElem? g9, q.mp u4⟩
    · refine Or.inr ⟨?_, fun e => by rw [e] at u2; exact absurd u2 (by simp), fun c hc => ?_⟩
      · rcases a2 with y | y | y
        · exact absurd y u1
        · exact y
        · rw [y] at u2
          exact absurd u2 (by simp)
      · obtain ⟨i, hi⟩ := List.getElem?_of_mem hc
        have lt := lt_some hi
        exact ((a5 i c hi).2.2 J).mp (u3 (l + i) (by omega) (by omega))
  · intro u
    rcases u with ⟨u1, c, hc, u2⟩ | ⟨u1, u2, u3⟩
    · obtain ⟨i, hi⟩ := List.getElem?_of_mem hc
      have lt := lt_some hi
      exact Or.inl ⟨u1, l + i, by omega, by omega, ((a5 i c hi).2.2 J).mpr u2⟩
    · have ne : x.2.length ≠ 0 := fun e => u2 (List.length_eq_zero_iff.mp e)
      refine Or.inr ⟨by rw [u1]; decide, by omega, fun c c1 c2 => ?_⟩
      have g9 := List.getElem?_eq_getElem (l := x.2) (i := c - l) (by omega)
      have e : l + (c - l) = c := by omega
      have q := (a5 (c - l) _ g9).2.2 J
      rw [e] at q
      exact q.mpr (u3 _ (List.mem_of_getElem? g9))
theorem coA9.mono2 (h : coA9 J x) (m : ∀ c, c ∈ x.2 → ∀ b, b ∈ c.2.2 → J b.1 → J' b.1) : coA9 J' x := by
  rcases h with ⟨h1, c, h2, b, h3, h4⟩ | ⟨h1, h2, h3⟩
  · exact Or.inl ⟨h1, c, h2, b, h3, m c h2 b h3 h4⟩
  · refine Or.inr ⟨h1, h2, fun c hc => ?_⟩
    obtain ⟨b, h4, h5⟩ := h3 c hc
    exact ⟨b, h4, m c hc b h4 h5⟩
/-- marked states lie in every closed set -/
theorem cl_inn (h : ClT M s g cn T) (hs : Slo M s un) (c5 : cn ≤ 512) (hb : mkB M s g cn) (hc : clA9 T J') : ∀ k, (k < cn ∧ jmk M s g k) → J' k := by
  refine rk_in (J := fun k => k < cn ∧ jmk M s g k) (fun k => if mI M (g + 2) k = 3 then 0 else (mI M (s + 124) k).toNat + 1) (fun k hJ => ?_) hc
  obtain ⟨lt, hj⟩ := hJ
  have hx := List.getElem?_eq_getElem (l := T) (i := k) (by rw [h.1]; exact lt)
  refine ⟨_, hx, ?_⟩
  obtain ⟨a1, a2, l, a3, a4, a5⟩ := h.2 k _ hx
  by_cases z : mI M (g + 2) k = 3
  · exact Or.inl (by rw [← a1]; exact z)
  · have sl : mI M (s + 124) k ≠ -1 := hj.resolve_right z
    obtain ⟨lo, hi, ⟨l1, l2⟩, l3⟩ := hb k lt sl
    have sk := (hs k (by omega)).resolve_left sl
    refine Or.inr (((coG_iff (J := jmb M s g (mI M (s + 124) k)) h hx l1 l2).mp l3).mono2 (fun c hc b hb9 w => ?_))
    obtain ⟨i, hi9⟩ := List.getElem?_of_mem hc
    have lb := (a5 i c hi9).2.1 b hb9
    refine ⟨⟨lb, ?_⟩, ?_⟩
    · rcases w with w | w
      · exact Or.inl w.1
      · exact Or.inr w
    · show (if mI M (g + 2) b.1 = 3 then 0 else (mI M (s + 124) b.1).toNat + 1) < (if mI M (g + 2) k = 3 then 0 else (mI M (s + 124) k).toNat + 1)
      rw [if_neg z]
      by_cases y : mI M (g + 2) b.1 = 3
      · rw [if_pos y]
        omega
      · rw [if_neg y]
        have w' := w.resolve_right y
        have sb := (hs b.1 (by omega)).resolve_left w'.1
        omega
/-- all are found: the marks and the targets are the least closed set -/
theorem cl_ls (h : ClT M s g cn T) (hs : Slo M s un) (c5 : cn ≤ 512) (hb : mkB M s g cn) (hn : noM M s g cn 0) : lsA9 T (fun k => k < cn ∧ jmk M s g k) := by
  refine ⟨fun k x hx u => ?_, fun J' hc => cl_inn h hs c5 hb hc⟩
  have lt : k < cn := by rw [← h.1]; exact lt_some hx
  obtain ⟨a1, a2, l, a3, a4, a5⟩ := h.2 k x hx
  refine ⟨lt, ?_⟩
  rcases u with u | u
  · exact Or.inr (by rw [a1]; exact u)
  · refine Or.inl (fun z => ?_)
    exact hn k (Nat.zero_le _) lt z l _ a3 a4 ((coG_iff (J := jmk M s g) h hx a3 a4).mpr (u.mono (fun j hj => hj.2)))
end NCS
