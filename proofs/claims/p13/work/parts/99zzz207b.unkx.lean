/-! The class's Solver: the marks exactly. -/
section NBY
variable {G : mG} {d s g cn cc bc i k n c lo hi un : Nat} {M M0 M' M1 M2 M3 : mM}
theorem sm_up9 {h h' : Nat → Int} {k : Nat} {v : Int} (h0 : h k = 0) (h1 : h' k = v) (e : ∀ j, j ≠ k → h' j = h j) : ∀ n, k < n → sm h' n = sm h n + v
  | 0, u => absurd u (by omega)
  | n + 1, u => by
    show sm h' n + h' n = sm h n + h n + v
    by_cases c : k = n
    · rw [← c, h0, h1, sm_congr (f := h') (g := h) k (fun j hj => e j (by omega))]
      omega
    · rw [sm_up9 h0 h1 e n (by omega), e n (by omega)]
      omega
/-- marked with a slot below b, or a target -/
def jmb (M : mM) (s g : Nat) (b : Int) (j : Nat) : Prop := (mI M (s + 124) j ≠ -1 ∧ mI M (s + 124) j < b) ∨ mI M (g + 2) j = 3
def ldB (M : mM) (s g : Nat) (b : Int) (c : Nat) : Prop := ∃ i : Nat, mI M (g + 7) c ≤ i ∧ (i : Int) < mI M (g + 7) (c + 1) ∧ jmb M s g b (mI M (g + 8) i).toNat
def coB (M : mM) (s g : Nat) (b : Int) (k lo hi : Nat) : Prop := (mI M (g + 2) k = 1 ∧ ∃ c : Nat, lo ≤ c ∧ c < hi ∧ ldB M s g b c) ∨ (mI M (g + 2) k ≠ 1 ∧ lo < hi ∧ ∀ c : Nat, lo ≤ c → c < hi → ldB M s g b c)
/-- each marked state was marked when it came on by those before it -/
def mkB (M : mM) (s g cn : Nat) : Prop := ∀ k, k < cn → mI M (s + 124) k ≠ -1 → ∃ lo hi : Nat, (mI M (s + 122) k = ((lo : Nat) : Int) ∧ mI M (s + 123) k = ((hi : Nat) : Int)) ∧ coB M s g (mI M (s + 124) k) k lo hi
/-- sums over the unknown states -/
def smU (M : mM) (s cn un : Nat) : Prop := ∀ f : Nat → Int, sm (fun i => f (mI M (s + 125) i).toNat) un = sm (fun k => if mI M (s + 124) k = -1 then 0 else f k) cn
theorem coC.b {b : Int} (h : coC M s g k lo hi) (m : ∀ c, lo ≤ c → c < hi → ldC M s g c → ldB M' s g b c) (e : mI M' (g + 2) k = mI M (g + 2) k) : coB M' s g b k lo hi := by
  rcases h with ⟨h1, c, h2, h3, h4⟩ | ⟨h1, h2, h3⟩
  · exact Or.inl ⟨by rw [e]; exact h1, c, h2, h3, m c h2 h3 h4⟩
  · exact Or.inr ⟨by rw [e]; exact h1, h2, fun c a b => m c a b (h3 c a b)⟩
theorem coB.cg {b : Int} (h : coB M s g b k lo hi) (e2 : mI M' (g + 2) = mI M (g + 2)) (e7 : mI M' (g + 7) = mI M (g + 7)) (e8 : mI M' (g + 8) = mI M (g + 8)) (e : ∀ j, mI M (s + 124) j ≠ -1 → mI M' (s + 124) j = mI M (s + 124) j) : coB M' s g b k lo hi := by
  have m : ∀ c, ldB M s g b c → ldB M' s g b c := fun c u => by
    obtain ⟨i, u1, u2, u3⟩ := u
    refine ⟨i, by rw [e7]; exact u1, by rw [e7]; exact u2, ?_⟩
    rw [e8]
    rcases u3 with ⟨u3, u4⟩ | u3
    · exact Or.inl ⟨by rw [e _ u3]; exact u3, by rw [e _ u3]; exact u4⟩
    · exact Or.inr (by rw [e2]; exact u3)
  rcases h with ⟨h1, c, h2, h3, h4⟩ | ⟨h1, h2, h3⟩
  · exact Or.inl ⟨by rw [e2]; exact h1, c, h2, h3, m c h4⟩
  · exact Or.inr ⟨by rw [e2]; exact h1, h2, fun c a b => m c (h3 c a b)⟩
/-- a state is marked -/
theorem mk_step (hT : GTT M g cn cc bc) (hs : Slo M s un) (hb : mkB M s g cn) (hm : smU M s cn un) (hk : k < cn) (h0 : mI M (s + 124) k = -1) (hl : mI M (s + 122) k = ((lo : Nat) : Int) ∧ mI M (s + 123) k = ((hi : Nat) : Int)) (hh : hi ≤ cc) (hc : coC M s g k lo hi) (eg : ∀ i, i ≤ 9 → mI M' (g + i) = mI M (g + i)) (e122 : mI M' (s + 122) = mI M (s + 122)) (e123 : mI M' (s + 123) = mI M (s + 123)) (e124 : ∀ j, mI M' (s + 124) j = if j = k then ((un : Nat) : Int) else mI M (s + 124) j) (e125 : ∀ j, mI M' (s + 125) j = if j = un then ((k : Nat) : Int) else mI M (s + 125) j) : mkB M' s g cn ∧ smU M' s cn (un + 1) := by
  have e2 := eg 2 (by decide)
  have e7 := eg 7 (by decide)
  have e8 := eg 8 (by decide)
  have old : ∀ j, mI M (s + 124) j ≠ -1 → mI M' (s + 124) j = mI M (s + 124) j := fun j hj => by
    rw [e124, if_neg (fun u => hj (by rw [u]; exact h0))]
  refine ⟨fun j hj u => ?_, fun f => ?_⟩
  · rw [e122, e123]
    by_cases c9 : j = k
    · subst c9
      refine ⟨lo, hi, hl, ?_⟩
      rw [e124, if_pos rfl]
      refine hc.b (fun c a b w => ?_) (by rw [e2])
      obtain ⟨i, w1, w2, w3⟩ := w
      obtain ⟨x, y, mu, f1, f2, -, -, br, -⟩ := hT.2.1 c (by omega)
      rw [f1] at w1
      rw [f2] at w2
      have bb := br i (by omega) (by omega)
      have cn5 := hT.1.1
      refine ⟨i, by rw [e7, f1]; exact w1, by rw [e7, f2]; exact w2, ?_⟩
      rw [e8]
      rcases w3 with w3 | w3
      · refine Or.inl ⟨by rw [old _ w3]; exact w3, ?_⟩
        rw [old _ w3]
        rcases hs (mI M (g + 8) i).toNat (by omega) with z | z
        · exact absurd z w3
        · exact z.2
      · exact Or.inr (by rw [e2]; exact w3)
    · rw [e124, if_neg c9] at u
      obtain ⟨lo', hi', l1, l2⟩ := hb j hj u
      refine ⟨lo', hi', l1, ?_⟩
      rw [e124, if_neg c9]
      exact l2.cg e2 e7 e8 old
  · show sm (fun i => f (mI M' (s + 125) i).toNat) un + f (mI M' (s + 125) un).toNat = _
    rw [e125, if_pos rfl, Int.toNat_natCast, sm_congr (g := fun i => f (mI M (s + 125) i).toNat) un (fun j hj => by rw [e125, if_neg (by omega)]), hm f]
    refine (sm_up9 (h := fun k => if mI M (s + 124) k = -1 then 0 else f k) (k := k) ?_ ?_ (fun j hj => ?_) cn hk).symm
    · show (if mI M (s + 124) k = -1 then 0 else f k) = 0
      rw [if_pos h0]
    · show (if mI M' (s + 124) k = -1 then 0 else f k) = f k
      rw [e124, if_pos rfl, if_neg (by omega)]
    · show (if mI M' (s + 124) j = -1 then 0 else f j) = (if mI M (s + 124) j = -1 then 0 else f j)
      rw [e124, if_neg hj]
end NBY
