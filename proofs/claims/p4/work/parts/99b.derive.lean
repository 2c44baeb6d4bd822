/-! The reference: what readText accepts is made of expressions. -/
section DE
variable {w : Nat → Int} {n : Nat}
theorem ac_t {f k : Nat} {x : Int} {r : List Int} (hx : x < 50) (h : Ac w n f (x :: r) k) : ∃ g, g < f ∧ w k = x ∧ Ac w n g r (k + 1) := by
  cases f with
  | zero => exact absurd h.1 (by simp)
  | succ f =>
    have h' : (if x = 75 then Ac w n f r k else if x < 50 then w k = x ∧ Ac w n f r (k + 1) else ∃ ys t, ex x (w k) = some (ys, t) ∧ Ac w n f (ys ++ r) (k + t)) := h
    rw [if_neg (by omega), if_pos hx] at h'
    exact ⟨f, by omega, h'.1, h'.2⟩
theorem ac_l {f k : Nat} {r : List Int} (h : Ac w n f (75 :: r) k) : ∃ g, g < f ∧ Ac w n g r k := by
  cases f with
  | zero => exact absurd h.1 (by simp)
  | succ f =>
    have h' : (if (75 : Int) = 75 then Ac w n f r k else if (75 : Int) < 50 then w k = 75 ∧ Ac w n f r (k + 1) else ∃ ys t, ex 75 (w k) = some (ys, t) ∧ Ac w n f (ys ++ r) (k + t)) := h
    rw [if_pos rfl] at h'
    exact ⟨f, by omega, h'⟩
theorem ac_n {f k : Nat} {x : Int} {r : List Int} (hx : 50 ≤ x) (h75 : x ≠ 75) (h : Ac w n f (x :: r) k) : ∃ g ys t, g < f ∧ ex x (w k) = some (ys, t) ∧ Ac w n g (ys ++ r) (k + t) := by
  cases f with
  | zero => exact absurd h.1 (by simp)
  | succ f =>
    have h' : (if x = 75 then Ac w n f r k else if x < 50 then w k = x ∧ Ac w n f r (k + 1) else ∃ ys t, ex x (w k) = some (ys, t) ∧ Ac w n f (ys ++ r) (k + t)) := h
    rw [if_neg h75, if_neg (by omega)] at h'
    obtain ⟨ys, t, e, a⟩ := h'
    exact ⟨f, ys, t, by omega, e, a⟩
def prs : List (Int × Nat) := [(73, 0), (71, 1), (69, 2), (67, 3), (65, 4), (63, 5), (61, 6)]
def rsts : List (Int × Nat × Nat) := [(72, 1, 1), (70, 2, 2), (68, 2, 3), (66, 4, 4), (64, 5, 5), (62, 5, 6), (74, 7, 7)]
def Dm (w : Nat → Int) (n f : Nat) : Prop := ∀ x c, (x, c) ∈ prs → ∀ r k, Ac w n f (x :: r) k → ∃ j g, g < f ∧ k < j ∧ Eo w c k j ∧ Ac w n g r j
def Dr (w : Nat → Int) (n f : Nat) : Prop := ∀ x c0 c1, (x, c0, c1) ∈ rsts → ∀ r i k, Eo w c0 i k → Ac w n f (x :: r) k → ∃ j g, g < f ∧ k ≤ j ∧ Eo w c1 i j ∧ Ac w n g r j
/-- first a part, then its rest -/
theorem d_pair {f g k : Nat} {x y : Int} {c0 c1 : Nat} {r : List Int} (ih : ∀ f', f' < f → Dm w n f' ∧ Dr w n f') (hg : g < f) (hx : (x, c0) ∈ prs) (hy : (y, c0, c1) ∈ rsts) (h : Ac w n g (x :: y :: r) k) : ∃ j g', g' < f ∧ k < j ∧ Eo w c1 k j ∧ Ac w n g' r j := by
  obtain ⟨j, g1, a1, a2, a3, a4⟩ := (ih g hg).1 x c0 hx _ k h
  obtain ⟨j', g2, b1, b2, b3, b4⟩ := (ih g1 (by omega)).2 y c0 c1 hy r k j a3 a4
  exact ⟨j', g2, by omega, by omega, b3, b4⟩
/-- an operator, a part, and the rest again -/
theorem d_again {f g i k : Nat} {x y : Int} {c0 c1 c2 : Nat} {r : List Int} (ih : ∀ f', f' < f → Dm w n f' ∧ Dr w n f') (hg : g < f) (hx : (x, c0) ∈ prs) (hy : (y, c1, c2) ∈ rsts) (hop : ∀ j, Eo w c0 (k + 1) j → Eo w c1 i j) (h : Ac w n g (x :: y :: r) (k + 1)) : ∃ j g', g' < f ∧ k ≤ j ∧ Eo w c2 i j ∧ Ac w n g' r j := by
  obtain ⟨j, g1, a1, a2, a3, a4⟩ := (ih g hg).1 x c0 hx _ (k + 1) h
  obtain ⟨j', g2, b1, b2, b3, b4⟩ := (ih g1 (by omega)).2 y c1 c2 hy r i j (hop j a3) a4
  exact ⟨j', g2, by omega, by omega, b3, b4⟩
theorem d_all : ∀ f, Dm w n f ∧ Dr w n f := by
  intro f
  induction f using Nat.strongRecOn with
  | ind f ih =>
    refine ⟨fun x c hx r k h => ?_, fun x c0 c1 hx r i k he h => ?_⟩
    · have hx' : (x = 73 ∧ c = 0) ∨ (x = 71 ∧ c = 1) ∨ (x = 69 ∧ c = 2) ∨ (x = 67 ∧ c = 3) ∨ (x = 65 ∧ c = 4) ∨ (x = 63 ∧ c = 5) ∨ (x = 61 ∧ c = 6) := by
        unfold prs at hx
        simpa using hx
      rcases hx' with ⟨q1, q2⟩ | ⟨q1, q2⟩ | ⟨q1, q2⟩ | ⟨q1, q2⟩ | ⟨q1, q2⟩ | ⟨q1, q2⟩ | ⟨q1, q2⟩ <;> subst q1 q2
      · obtain ⟨g, ys, t, hg, e, a⟩ := ac_n (by omega) (by omega) h
        rw [ex_73] at e
        unfold ex73 at e
        by_cases c1 : w k = 1 ∨ w k = 2 ∨ w k = 12 ∨ w k = 13
        · rw [if_pos c1] at e
          cases e
          exact ⟨k + 1, g, hg, by omega, eo0_leaf c1, a⟩
        rw [if_neg c1] at e
        by_cases c2 : w k = 14 ∨ w k = 15
        · rw [if_pos c2] at e
          cases e
          have a' : Ac w n g (76 :: 61 :: 74 :: 37 :: 75 :: r) (k + 1) := a
          obtain ⟨g1, ys1, t1, b1, e1, a1⟩ := ac_n (by omega) (by omega) a'
          rw [ex_76] at e1
          unfold ex76 at e1
          by_cases c3 : w (k + 1) = 36
          · rw [if_pos c3] at e1
            cases e1
            have a1' : Ac w n g1 (61 :: 74 :: 37 :: 75 :: r) (k + 2) := a1
            obtain ⟨j, g2, d1, d2, d3, d4⟩ := (ih g1 (by omega)).1 61 6 (by decide) _ _ a1'
            obtain ⟨j', g3, d5, d6, d7, d8⟩ := (ih g2 (by omega)).2 74 7 7 (by decide) _ (k + 2) j (d3.one (by omega)) d4
            obtain ⟨g4, d9, d10, d11⟩ := ac_t (by omega) d8
            obtain ⟨g5, d12, d13⟩ := ac_l d11
            exact ⟨j' + 1, g5, by omega, by omega, eo0_lst c2 c3 d10 d7, d13⟩
          · rw [if_neg c3] at e1
            cases e1
        rw [if_neg c2] at e
        by_cases c3 : w k = 25
        · rw [if_pos c3] at e
          cases e
          have a' : Ac w n g (73 :: 75 :: r) (k + 1) := a
          obtain ⟨j, g2, d1, d2, d3, d4⟩ := (ih g hg).1 73 0 (by decide) _ _ a'
          obtain ⟨g5, d12, d13⟩ := ac_l d4
          exact ⟨j, g5, by omega, by omega, eo0_neg c3 d3, d13⟩
        rw [if_neg c3] at e
        by_cases c4 : w k = 36
        · rw [if_pos c4] at e
          cases e
          have a' : Ac w n g (61 :: 37 :: 75 :: r) (k + 1) := a
          obtain ⟨j, g2, d1, d2, d3, d4⟩ := (ih g hg).1 61 6 (by decide) _ _ a'
          obtain ⟨g4, d9, d10, d11⟩ := ac_t (by omega) d4
          obtain ⟨g5, d12, d13⟩ := ac_l d11
          exact ⟨j + 1, g5, by omega, by omega, eo0_par c4 d10 d3, d13⟩
        rw [if_neg c4] at e
        cases e
      · obtain ⟨g, ys, t, hg, e, a⟩ := ac_n (by omega) (by omega) h
        rw [ex_71] at e
        unfold ex71 at e
        cases e
        have a' : Ac w n g (73 :: 72 :: r) k := a
        obtain ⟨j, g2, d1, d2, d3, d4⟩ := (ih g hg).1 73 0 (by decide) _ _ a'
        obtain ⟨j', g3, d5, d6, d7, d8⟩ := (ih g2 (by omega)).2 72 1 1 (by decide) _ k j (d3.one (by omega)) d4
        exact ⟨j', g3, by omega, by omega, d7, d8⟩
      · obtain ⟨g, ys, t, hg, e, a⟩ := ac_n (by omega) (by omega) h
        rw [ex_69] at e
        unfold ex69 at e
        cases e
        have a' : Ac w n g (71 :: 70 :: r) k := a
        obtain ⟨j, g2, d1, d2, d3, d4⟩ := (ih g hg).1 71 1 (by decide) _ _ a'
        obtain ⟨j', g3, d5, d6, d7, d8⟩ := (ih g2 (by omega)).2 70 2 2 (by decide) _ k j (d3.one (by omega)) d4
        exact ⟨j', g3, by omega, by omega, d7, d8⟩
      · obtain ⟨g, ys, t, hg, e, a⟩ := ac_n (by omega) (by omega) h
        rw [ex_67] at e
        unfold ex67 at e
        by_cases c1 : w k = 31
        · rw [if_pos c1] at e
          cases e
          have a' : Ac w n g (67 :: 75 :: r) (k + 1) := a
          obtain ⟨j, g2, d1, d2, d3, d4⟩ := (ih g hg).1 67 3 (by decide) _ _ a'
          obtain ⟨g5, d12, d13⟩ := ac_l d4
          exact ⟨j, g5, by omega, by omega, eo3n c1 d3, d13⟩
        · rw [if_neg c1] at e
          cases e
          have a' : Ac w n g (69 :: 68 :: r) k := a
          exact d_pair ih hg (c0 := 2) (by decide) (by decide) a'
      · obtain ⟨g, ys, t, hg, e, a⟩ := ac_n (by omega) (by omega) h
        rw [ex_65] at e
        unfold ex65 at e
        cases e
        have a' : Ac w n g (67 :: 66 :: r) k := a
        obtain ⟨j, g2, d1, d2, d3, d4⟩ := (ih g hg).1 67 3 (by decide) _ _ a'
        obtain ⟨j', g3, d5, d6, d7, d8⟩ := (ih g2 (by omega)).2 66 4 4 (by decide) _ k j (d3.one (by omega)) d4
        exact ⟨j', g3, by omega, by omega, d7, d8⟩
      · obtain ⟨g, ys, t, hg, e, a⟩ := ac_n (by omega) (by omega) h
        rw [ex_63] at e
        unfold ex63 at e
        cases e
        have a' : Ac w n g (65 :: 64 :: r) k := a
        obtain ⟨j, g2, d1, d2, d3, d4⟩ := (ih g hg).1 65 4 (by decide) _ _ a'
        obtain ⟨j', g3, d5, d6, d7, d8⟩ := (ih g2 (by omega)).2 64 5 5 (by decide) _ k j (d3.one (by omega)) d4
        exact ⟨j', g3, by omega, by omega, d7, d8⟩
      · obtain ⟨g, ys, t, hg, e, a⟩ := ac_n (by omega) (by omega) h
        rw [ex_61] at e
        unfold ex61 at e
        cases e
        have a' : Ac w n g (63 :: 62 :: r) k := a
        exact d_pair ih hg (c0 := 5) (by decide) (by decide) a'
    · have hx' : (x = 72 ∧ c0 = 1 ∧ c1 = 1) ∨ (x = 70 ∧ c0 = 2 ∧ c1 = 2) ∨ (x = 68 ∧ c0 = 2 ∧ c1 = 3) ∨ (x = 66 ∧ c0 = 4 ∧ c1 = 4) ∨ (x = 64 ∧ c0 = 5 ∧ c1 = 5) ∨ (x = 62 ∧ c0 = 5 ∧ c1 = 6) ∨ (x = 74 ∧ c0 = 7 ∧ c1 = 7) := by
        unfold rsts at hx
        simpa using hx
      rcases hx' with ⟨q1, q2, q3⟩ | ⟨q1, q2, q3⟩ | ⟨q1, q2, q3⟩ | ⟨q1, q2, q3⟩ | ⟨q1, q2, q3⟩ | ⟨q1, q2, q3⟩ | ⟨q1, q2, q3⟩ <;> subst q1 q2 q3
      · obtain ⟨g, ys, t, hg, e, a⟩ := ac_n (by omega) (by omega) h
        rw [ex_72] at e
        unfold ex72 at e
        by_cases c1 : w k = 26 ∨ w k = 27 ∨ w k = 28
        · rw [if_pos c1] at e
          cases e
          exact d_again ih hg (x := 73) (y := 72) (c0 := 0) (c1 := 1) (by decide) (by decide) (fun j z => eo1 c1 he z) a
        · rw [if_neg c1] at e
          cases e
          exact ⟨k, g, hg, by omega, he, a⟩
      · obtain ⟨g, ys, t, hg, e, a⟩ := ac_n (by omega) (by omega) h
        rw [ex_70] at e
        unfold ex70 at e
        by_cases c1 : w k = 24 ∨ w k = 25
        · rw [if_pos c1] at e
          cases e
          exact d_again ih hg (x := 71) (y := 70) (c0 := 1) (c1 := 2) (by decide) (by decide) (fun j z => eo2 c1 he z) a
        · rw [if_neg c1] at e
          cases e
          exact ⟨k, g, hg, by omega, he, a⟩
      · obtain ⟨g, ys, t, hg, e, a⟩ := ac_n (by omega) (by omega) h
        rw [ex_68] at e
        unfold ex68 at e
        by_cases c1 : 18 ≤ w k ∧ w k ≤ 23
        · rw [if_pos c1] at e
          cases e
          have a' : Ac w n g (69 :: r) (k + 1) := a
          obtain ⟨j, g2, d1, d2, d3, d4⟩ := (ih g hg).1 69 2 (by decide) _ _ a'
          exact ⟨j, g2, by omega, by omega, eo3 c1 he d3, d4⟩
        · rw [if_neg c1] at e
          cases e
          exact ⟨k, g, hg, by omega, he.one (by omega), a⟩
      · obtain ⟨g, ys, t, hg, e, a⟩ := ac_n (by omega) (by omega) h
        rw [ex_66] at e
        unfold ex66 at e
        by_cases c1 : w k = 29
        · rw [if_pos c1] at e
          cases e
          exact d_again ih hg (x := 67) (y := 66) (c0 := 3) (c1 := 4) (by decide) (by decide) (fun j z => eo4 c1 he z) a
        · rw [if_neg c1] at e
          cases e
          exact ⟨k, g, hg, by omega, he, a⟩
      · obtain ⟨g, ys, t, hg, e, a⟩ := ac_n (by omega) (by omega) h
        rw [ex_64] at e
        unfold ex64 at e
        by_cases c1 : w k = 30
        · rw [if_pos c1] at e
          cases e
          exact d_again ih hg (x := 65) (y := 64) (c0 := 4) (c1 := 5) (by decide) (by decide) (fun j z => eo5 c1 he z) a
        · rw [if_neg c1] at e
          cases e
          exact ⟨k, g, hg, by omega, he, a⟩
      · obtain ⟨g, ys, t, hg, e, a⟩ := ac_n (by omega) (by omega) h
        rw [ex_62] at e
        unfold ex62 at e
        by_cases c1 : w k = 32
        · rw [if_pos c1] at e
          cases e
          have a' : Ac w n g (61 :: 33 :: 61 :: 75 :: r) (k + 1) := a
          obtain ⟨j, g2, d1, d2, d3, d4⟩ := (ih g hg).1 61 6 (by decide) _ _ a'
          obtain ⟨g3, d5, d6, d7⟩ := ac_t (by omega) d4
          obtain ⟨j', g4, d8, d9, d10, d11⟩ := (ih g3 (by omega)).1 61 6 (by decide) _ _ d7
          obtain ⟨g5, d12, d13⟩ := ac_l d11
          exact ⟨j', g5, by omega, by omega, eo6 c1 d6 he d3 d10, d13⟩
        · rw [if_neg c1] at e
          cases e
          exact ⟨k, g, hg, by omega, he.one (by omega), a⟩
      · obtain ⟨g, ys, t, hg, e, a⟩ := ac_n (by omega) (by omega) h
        rw [ex_74] at e
        unfold ex74 at e
        by_cases c1 : w k = 35
        · rw [if_pos c1] at e
          cases e
          exact d_again ih hg (x := 61) (y := 74) (c0 := 6) (c1 := 7) (by decide) (by decide) (fun j z => eo7 c1 he z) a
        · rw [if_neg c1] at e
          cases e
          exact ⟨k, g, hg, by omega, he, a⟩
/-- a rule is wanted: an expression stands there -/
theorem ac_rule {f k : Nat} {r : List Int} (h : Ac w n f (61 :: r) k) : ∃ j g, g < f ∧ k < j ∧ Eo w 6 k j ∧ Ac w n g r j := (d_all f).1 61 6 (by decide) r k h
theorem ac_or {f k : Nat} {r : List Int} (h : Ac w n f (63 :: r) k) : ∃ j g, g < f ∧ k < j ∧ Eo w 5 k j ∧ Ac w n g r j := (d_all f).1 63 5 (by decide) r k h
end DE
