/-! The unknown states: the least closed set; their weights; what solve answers. Pure. -/
section LST
variable {T : xt9} {J J' : Nat → Prop} {x : Int × List sc9} {c : sc9} {k : Nat} {r r' g g' : Int} {w w' : Nat}
/-- a command leads into J -/
def ldA9 (J : Nat → Prop) (c : sc9) : Prop := ∃ b, b ∈ c.2.2 ∧ J b.1
/-- a state comes to J -/
def coA9 (J : Nat → Prop) (x : Int × List sc9) : Prop := (x.1 = 1 ∧ ∃ c, c ∈ x.2 ∧ ldA9 J c) ∨ (x.1 = 2 ∧ x.2 ≠ [] ∧ ∀ c, c ∈ x.2 → ldA9 J c)
/-- targets are in, and what comes to it -/
def clA9 (T : xt9) (J : Nat → Prop) : Prop := ∀ k x, T[k]? = some x → (x.1 = 3 ∨ coA9 J x) → J k
def lsA9 (T : xt9) (J : Nat → Prop) : Prop := clA9 T J ∧ ∀ J', clA9 T J' → ∀ k, J k → J' k
theorem lsA9.same (h : lsA9 T J) (h' : lsA9 T J') (k : Nat) : J k ↔ J' k := ⟨h.2 J' h'.1 k, h'.2 J h.1 k⟩
theorem ldA9.mono (h : ldA9 J c) (m : ∀ k, J k → J' k) : ldA9 J' c := by
  obtain ⟨b, h1, h2⟩ := h
  exact ⟨b, h1, m _ h2⟩
theorem coA9.mono (h : coA9 J x) (m : ∀ k, J k → J' k) : coA9 J' x := by
  rcases h with ⟨h1, c, h2, h3⟩ | ⟨h1, h2, h3⟩
  · exact Or.inl ⟨h1, c, h2, h3.mono m⟩
  · exact Or.inr ⟨h1, h2, fun c hc => (h3 c hc).mono m⟩
/-- there is one -/
theorem ls_ex : lsA9 T (fun k => ∀ J', clA9 T J' → J' k) := by
  refine ⟨fun k x hx h J' hc => hc k x hx ?_, fun J' hc k h => h J' hc⟩
  rcases h with h | h
  · exact Or.inl h
  · exact Or.inr (h.mono (fun j hj => hj J' hc))
/-- marks with ranks: every closed set holds them -/
theorem rk_in (ρ : Nat → Nat) (h : ∀ k, J k → ∃ x, T[k]? = some x ∧ (x.1 = 3 ∨ coA9 (fun j => J j ∧ ρ j < ρ k) x)) (hc : clA9 T J') : ∀ k, J k → J' k := by
  have H : ∀ n k, ρ k = n → J k → J' k := by
    intro n
    induction n using Nat.strongRecOn with
    | ind n ih =>
      intro k hk hJ
      obtain ⟨x, h1, h2⟩ := h k hJ
      refine hc k x h1 ?_
      rcases h2 with h2 | h2
      · exact Or.inl h2
      · exact Or.inr (h2.mono (fun j hj => ih (ρ j) (by rw [← hk]; exact hj.2) j rfl hj.1))
  exact fun k hJ => H _ k rfl hJ
/-- the greatest multiple, at least 1 -/
def gmA9 (l : List sc9) (g : Int) : Prop := 1 ≤ g ∧ (∀ c, c ∈ l → c.2.1 ≤ g) ∧ (g = 1 ∨ ∃ c, c ∈ l ∧ c.2.1 = g)
theorem gmA9.le {l : List sc9} (h : gmA9 l g) (h' : gmA9 l g') : g ≤ g' := by
  rcases h.2.2 with e | ⟨c, hc, e⟩
  · rw [e]; exact h'.1
  · rw [← e]; exact h'.2.1 c hc
/-- its weight: the least w with 2^w not below twice as much -/
def wtA9 (g : Int) (w : Nat) : Prop := 2 * g ≤ 2 ^ w ∧ ∀ v : Nat, v < w → (2 : Int) ^ v < 2 * g
theorem wtA9.le (h : wtA9 g w) (h' : wtA9 g w') : w ≤ w' := by
  rcases Nat.lt_or_ge w' w with u | u
  · have a := h.2 w' u
    have b := h'.1
    omega
  · exact u
def weA9 (x : Int × List sc9) (w : Int) : Prop := ∃ (g : Int) (v : Nat), gmA9 x.2 g ∧ wtA9 g v ∧ w = ((v : Nat) : Int)
theorem weA9.same {a b : Int} (h : weA9 x a) (h' : weA9 x b) : a = b := by
  obtain ⟨g, v, h1, h2, h3⟩ := h
  obtain ⟨g', v', k1, k2, k3⟩ := h'
  have eg : g = g' := Int.le_antisymm (h1.le k1) (k1.le h1)
  subst eg
  have ev : v = v' := Nat.le_antisymm (h2.le k2) (k2.le h2)
  rw [h3, k3, ev]
/-- which states are unknown: e is 1 there, 0 elsewhere -/
def unA9 (T : xt9) (J : Nat → Prop) (e : Nat → Int) : Prop := ∀ k x, T[k]? = some x → ((J k ∧ x.1 ≠ 3) → e k = 1) ∧ (¬ (J k ∧ x.1 ≠ 3) → e k = 0)
/-- what solve answers -/
def svA9 (T : xt9) (r : Int) : Prop := ∃ (J : Nat → Prop) (e : Nat → Int), lsA9 T J ∧ unA9 T J e ∧ ((40 < sm e T.length ∧ r = 5) ∨ (sm e T.length ≤ 40 ∧ ∃ w : Nat → Int, (∀ k x, T[k]? = some x → (e k = 1 → weA9 x (w k)) ∧ (e k = 0 → w k = 0)) ∧ ((480 < sm w T.length ∧ r = 6) ∨ (sm w T.length ≤ 480 ∧ r = 0))))
theorem svA9.same (h : svA9 T r) (h' : svA9 T r') : r = r' := by
  obtain ⟨J, e, h1, h2, h3⟩ := h
  obtain ⟨J', e', k1, k2, k3⟩ := h'
  have at9 : ∀ k, k < T.length → ∃ x, T[k]? = some x := fun k hk => ⟨_, List.getElem?_eq_getElem hk⟩
  have ee : ∀ k, k < T.length → e k = e' k ∧ (e k = 0 ∨ e k = 1) := fun k hk => by
    obtain ⟨x, hx⟩ := at9 k hk
    have a := h2 k x hx
    have b := k2 k x hx
    have s := h1.same k1 k
    by_cases u : J k ∧ x.1 ≠ 3
    · exact ⟨by rw [a.1 u, b.1 ⟨s.mp u.1, u.2⟩], Or.inr (a.1 u)⟩
    · exact ⟨by rw [a.2 u, b.2 (fun v => u ⟨s.mpr v.1, v.2⟩)], Or.inl (a.2 u)⟩
  have es : sm e T.length = sm e' T.length := sm_congr _ (fun k hk => (ee k hk).1)
  rcases h3 with ⟨a1, a2⟩ | ⟨a1, w, a2, a3⟩
  · rcases k3 with ⟨b1, b2⟩ | ⟨b1, w', b2, b3⟩
    · rw [a2, b2]
    · omega
  · rcases k3 with ⟨b1, b2⟩ | ⟨b1, w', b2, b3⟩
    · omega
    · have ws : sm w T.length = sm w' T.length := sm_congr _ (fun k hk => by
        obtain ⟨x, hx⟩ := at9 k hk
        obtain ⟨e1, e2⟩ := ee k hk
        rcases e2 with y | y
        · rw [(a2 k x hx).2 y, (b2 k x hx).2 (by rw [← e1]; exact y)]
        · exact ((a2 k x hx).1 y).same ((b2 k x hx).1 (by rw [← e1]; exact y)))
      rcases a3 with ⟨u1, u2⟩ | ⟨u1, u2⟩ <;> rcases b3 with ⟨v1, v2⟩ | ⟨v1, v2⟩
      · rw [u2, v2]
      · omega
      · omega
      · rw [u2, v2]
/-- marked states are in the least set: there are no more of them than it has -/
theorem sm_le9 {e f : Nat → Int} : ∀ n, (∀ k, k < n → e k ≤ f k) → sm e n ≤ sm f n
  | 0, _ => Int.le_refl _
  | n + 1, h => by
    have a := sm_le9 n (fun k hk => h k (by omega))
    have b := h n (by omega)
    show sm e n + e n ≤ sm f n + f n
    omega
theorem un_ex (J : Nat → Prop) : ∃ e : Nat → Int, unA9 T J e := by
  refine ⟨fun k => @ite Int (∃ x, T[k]? = some x ∧ J k ∧ x.1 ≠ 3) (Classical.propDecidable _) 1 0, fun k x hx => ⟨fun u => ?_, fun u => ?_⟩⟩
  · exact if_pos ⟨x, hx, u⟩
  · refine if_neg (fun v => ?_)
    obtain ⟨y, hy, v1⟩ := v
    rw [hx] at hy
    have e := Option.some.inj hy
    subst e
    exact u v1
end LST
