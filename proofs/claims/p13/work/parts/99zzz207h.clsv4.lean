/-! The class's tables, with all commands left, are those of what was explored. -/
section NCT
variable {T : xt9} {s g cn cc bc k i un : Nat} {M M' : mM}
theorem weC.wto {w : Nat} (h : weC M s g i w) : wtO M s g i w := by
  obtain ⟨k, lo, hi, gr, a1, a2, a3, a4, a5, a6⟩ := h
  intro k' lo' hi' c e1 e2 e3 c1 c2
  have ek : k' = k := by rw [a1] at e1; omega
  subst ek
  have el : lo' = lo := by rw [a2] at e2; omega
  have eh : hi' = hi := by rw [a3] at e3; omega
  subst el
  subst eh
  have b1 := a4.1 c c1 c2
  have b2 := a6.1
  omega
theorem clt_of (hT : GTT M g cn cc bc) (lx : ∀ k, k < cn → mI M' (s + 122) k = mI M (g + 4) k ∧ mI M' (s + 123) k = mI M (g + 4) (k + 1)) (e : ∀ i, i ≤ 9 → mI M' (g + i) = mI M (g + i)) (hk : kdT (xtm M g cn)) : ClT M' s g cn (xtm M g cn) := by
  refine ⟨by rw [xtm_map, List.length_map, List.length_range], fun k x hx => ?_⟩
  rw [xtm_map, rget] at hx
  by_cases hk9 : k < cn
  · rw [if_pos hk9] at hx
    have ex := Option.some.inj hx
    have kk := hk x (by rw [xtm_map]; exact List.mem_map.mpr ⟨k, List.mem_range.mpr hk9, ex⟩)
    obtain ⟨lo, hi, f1, f2, f3, f4⟩ := hT.2.2.1 k hk9
    have l2 : x.2 = cml M g lo (hi - lo) := by
      rw [← ex]
      unfold stm
      rw [f1, f2, Int.toNat_natCast, Int.toNat_natCast]
    have len : x.2.length = hi - lo := by rw [l2, cml_map, List.length_map, List.length_range]
    refine ⟨by rw [e 2 (by decide), ← ex]; rfl, kk, lo, by rw [(lx k hk9).1, f1], by rw [(lx k hk9).2, f2, len]; omega, fun i c hc => ?_⟩
    rw [l2, cml_map, rget] at hc
    by_cases hi9 : i < hi - lo
    · rw [if_pos hi9] at hc
      have ec := Option.some.inj hc
      obtain ⟨a, b, mu, c1, c2, c3, c4, c5, -⟩ := hT.2.1 (lo + i) (by omega)
      have bl : c.2.2 = (List.range (b - a)).map (fun t => ((mI M (g + 8) (a + t)).toNat, mI M (g + 9) (a + t))) := by
        rw [← ec]
        unfold cmm
        rw [c1, c2, Int.toNat_natCast, Int.toNat_natCast, brl_map]
      refine ⟨by rw [e 6 (by decide), ← ec]; rfl, fun y hy => ?_, fun J => ?_⟩
      · rw [bl] at hy
        obtain ⟨t, t1, t2⟩ := List.mem_map.mp hy
        have t3 := List.mem_range.mp t1
        have t4 := c5 (a + t) (by omega) (by omega)
        rw [← t2]
        show (mI M (g + 8) (a + t)).toNat < cn
        omega
      · rw [e 7 (by decide), e 8 (by decide), c1, c2]
        unfold ldA9
        rw [bl]
        constructor
        · rintro ⟨j, u1, u2, u3⟩
          refine ⟨_, List.mem_map.mpr ⟨j - a, List.mem_range.mpr (by omega), rfl⟩, ?_⟩
          show J (mI M (g + 8) (a + (j - a))).toNat
          rw [show a + (j - a) = j by omega]
          exact u3
        · rintro ⟨y, y1, y2⟩
          obtain ⟨t, t1, t2⟩ := List.mem_map.mp y1
          have t3 := List.mem_range.mp t1
          refine ⟨a + t, by omega, by omega, ?_⟩
          rw [← t2] at y2
          exact y2
    · rw [if_neg hi9] at hc
      cases hc
  · rw [if_neg hk9] at hx
    cases hx
end NCT
