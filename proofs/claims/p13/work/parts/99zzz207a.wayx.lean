/-! The class's Solver: comesOn and wayFrom exactly. -/
section NBX
variable {G : mG} {d s g cn cc bc i k n c lo hi un : Nat} {M M0 M' M1 M2 M3 : mM}
/-- a state is marked, or a target -/
def jmk (M : mM) (s g j : Nat) : Prop := mI M (s + 124) j ≠ -1 ∨ mI M (g + 2) j = 3
/-- a command has a branch to one -/
def ldC (M : mM) (s g c : Nat) : Prop := ∃ i : Nat, mI M (g + 7) c ≤ i ∧ (i : Int) < mI M (g + 7) (c + 1) ∧ jmk M s g (mI M (g + 8) i).toNat
theorem x_So_comesOn (h : SG M s g cn cc bc) (hc : c < cc) : Ci G y_So_comesOn d [vr s, vi c] M (fun r M' => M' = M ∧ (r = 0 ∨ r = 1) ∧ (r = 1 ↔ ldC M s g c)) := by
  obtain ⟨o, ⟨⟨s0, -⟩, ⟨-, -, -, r3, -, -, -, r7, -⟩, ⟨-, -, -, -, k7, -⟩, ⟨-, -, -, -, n7, -⟩⟩, ⟨g0, ⟨q2, -, -, q7, q8, -⟩, gk, ⟨m2, -, -, m7, m8, -⟩⟩, -, hT⟩ := id h
  obtain ⟨hc1, hc2, hc3⟩ := hT.1
  obtain ⟨x, y, mu, e1, e2, ⟨xy, -⟩, yb, br, -⟩ := hT.2.1 c hc
  have no : ∀ j : Nat, y ≤ j → (∀ i : Nat, x ≤ i → i < j → ¬ jmk M s g (mI M (g + 8) i).toNat) → ¬ ldC M s g c := fun j hj hn u => by
    obtain ⟨i, u1, u2, u3⟩ := u
    rw [e1] at u1
    rw [e2] at u2
    exact hn i (by omega) (by omega) u3
  refine k_So_comesOn o ⟨by omega, by omega⟩ ?_
  rw [r3, q7, m7, Int.toNat_natCast, e1]
  refine ⟨s0, g0, gk 7 (by decide) (by decide), ⟨by omega, by omega⟩, ?_⟩
  suffices HH : ∀ (t i : Nat), y ≤ i + t → x ≤ i → i ≤ y → (∀ i' : Nat, x ≤ i' → i' < i → ¬ jmk M s g (mI M (g + 8) i').toNat) → h_So_comesOn_10 G d s c i M (fun r M' => M' = M ∧ (r = 0 ∨ r = 1) ∧ (r = 1 ↔ ldC M s g c)) from HH (y - x) x (by omega) (Nat.le_refl _) (by omega) (fun i' a b => absurd b (by omega))
  intro t
  induction t with
  | zero =>
    intro i h1 h2 h3 hn
    refine k_So_comesOn_10 o ⟨by omega, by omega⟩ ⟨by omega, by omega⟩ ?_
    rw [r3, q7, m7, show Int.toNat ((c : Int) + 1) = c + 1 by omega, e2]
    exact ⟨s0, g0, gk 7 (by decide) (by decide), ⟨by omega, by omega⟩, fun _ => ⟨rfl, Or.inl rfl, fun z => absurd z (by decide), fun z => absurd z (no i (by omega) hn)⟩, fun u => absurd (by omega) u⟩
  | succ t ih =>
    intro i h1 h2 h3 hn
    refine k_So_comesOn_10 o ⟨by omega, by omega⟩ ⟨by omega, by omega⟩ ?_
    rw [r3, q7, m7, show Int.toNat ((c : Int) + 1) = c + 1 by omega, e2]
    refine ⟨s0, g0, gk 7 (by decide) (by decide), ⟨by omega, by omega⟩, fun z => ⟨rfl, Or.inl rfl, fun z => absurd z (by decide), fun w => absurd w (no i (by omega) hn)⟩, fun u => ?_⟩
    obtain ⟨b1, b2, b3⟩ := br i h2 (by omega)
    rw [q8, m8, r7, n7, q2, m2, Int.toNat_natCast, show ((i : Int) + 1) = ((i + 1 : Nat) : Int) by omega]
    refine ⟨gk 8 (by decide) (by decide), ⟨by omega, by omega⟩, k7, ⟨by omega, by omega⟩, fun _ => ⟨gk 2 (by decide) (by decide), ⟨by omega, by omega⟩⟩, fun z => ⟨rfl, Or.inr rfl, fun _ => ⟨i, by rw [e1]; omega, by rw [e2]; omega, z⟩, fun _ => rfl⟩, fun z => ih (i + 1) (by omega) (by omega) (by omega) (fun i' a b => ?_)⟩
    by_cases c9 : i' = i
    · rw [c9]
      exact z
    · exact hn i' a (by omega)
/-- whether a state comes on: its commands from lo to hi -/
def coC (M : mM) (s g k lo hi : Nat) : Prop := (mI M (g + 2) k = 1 ∧ ∃ c : Nat, lo ≤ c ∧ c < hi ∧ ldC M s g c) ∨ (mI M (g + 2) k ≠ 1 ∧ lo < hi ∧ ∀ c : Nat, lo ≤ c → c < hi → ldC M s g c)
def wayX (M : mM) (s g k : Nat) (x : Int) (M' : mM) : Prop := M' = M ∧ ∃ lo hi : Nat, (mI M (s + 122) k = ((lo : Nat) : Int) ∧ mI M (s + 123) k = ((hi : Nat) : Int)) ∧ ((x = -1 ∧ ¬ coC M s g k lo hi) ∨ (coC M s g k lo hi ∧ ∃ c : Nat, x = ((c : Nat) : Int) ∧ lo ≤ c ∧ c < hi))
theorem x_So_wayFrom (h : SG M s g cn cc bc) (hL : LHs M s cn cc) (hk : k < cn) : Ci G y_So_wayFrom (d + 1) [vr s, vi k] M (wayX M s g k) := by
  obtain ⟨o, ⟨⟨s0, -⟩, ⟨-, -, -, r3, -, r5, r6, -⟩, ⟨-, -, k5, k6, -⟩, ⟨-, -, n5, n6, -⟩⟩, ⟨g0, ⟨q2, -⟩, gk, ⟨m2, -⟩⟩, -, hT⟩ := id h
  obtain ⟨hc1, hc2, hc3⟩ := hT.1
  obtain ⟨lo, hi, e1, e2, lh, hb⟩ := hL k hk
  refine k_So_wayFrom o ⟨by omega, by omega⟩ ?_
  rw [r3, q2, m2, r5, n5, Int.toNat_natCast, e1]
  refine ⟨s0, g0, gk 2 (by decide) (by decide), ⟨by omega, by omega⟩, fun v6 e6 => ⟨k5, ⟨by omega, by omega⟩, ?_⟩⟩
  have v01 : (v6 = 1 ∧ mI M (g + 2) k = 1) ∨ (v6 = 0 ∧ mI M (g + 2) k ≠ 1) := by
    by_cases z : mI M (g + 2) k = 1
    · rw [if_pos z] at e6
      exact Or.inl ⟨e6, z⟩
    · rw [if_neg z] at e6
      exact Or.inr ⟨e6, z⟩
  have vb : v6 = 0 ∨ v6 = 1 := by omega
  clear e6
  suffices HH : ∀ (t c : Nat), hi ≤ c + t → lo ≤ c → c ≤ hi → (∀ c' : Nat, lo ≤ c' → c' < c → (v6 = 1 → ¬ ldC M s g c') ∧ (v6 = 0 → ldC M s g c')) → h_So_wayFrom_26 G d s k v6 c M (wayX M s g k) from HH (hi - lo) lo (by omega) (Nat.le_refl _) lh (fun c' a b => absurd b (by omega))
  have fin : ∀ c : Nat, hi ≤ c → (∀ c' : Nat, lo ≤ c' → c' < c → (v6 = 1 → ¬ ldC M s g c') ∧ (v6 = 0 → ldC M s g c')) → ∀ v31 : Int, v31 = (if ((¬ (v6 = 0)) ∨ ((lo : Int) = (hi : Int))) then (-1) else ((lo : Nat) : Int)) → wayX M s g k v31 M := fun c hc hn v31 e31 => by
    refine ⟨rfl, lo, hi, ⟨e1, e2⟩, ?_⟩
    rcases v01 with ⟨v1, z⟩ | ⟨v1, z⟩
    · rw [if_pos (Or.inl (by omega))] at e31
      refine Or.inl ⟨e31, fun u => ?_⟩
      rcases u with ⟨-, c', u1, u2, u3⟩ | ⟨u1, -⟩
      · exact (hn c' u1 (by omega)).1 v1 u3
      · exact u1 z
    · by_cases w : lo = hi
      · rw [if_pos (Or.inr (by omega))] at e31
        refine Or.inl ⟨e31, fun u => ?_⟩
        rcases u with ⟨u1, -⟩ | ⟨-, u1, -⟩
        · exact z u1
        · omega
      · rw [if_neg (by omega)] at e31
        exact Or.inr ⟨Or.inr ⟨z, by omega, fun c' a b => (hn c' a (by omega)).2 v1⟩, lo, e31, Nat.le_refl _, by omega⟩
  intro t
  induction t with
  | zero =>
    intro c h1 h2 h3 hn
    refine k_So_wayFrom_26 o ⟨by omega, by omega⟩ (m_b32 vb) ⟨by omega, by omega⟩ ?_
    rw [r6, n6, r5, n5, Int.toNat_natCast, e2, e1]
    exact ⟨s0, k6, ⟨by omega, by omega⟩, fun _ => ⟨fun _ => ⟨k5, ⟨by omega, by omega⟩, ⟨by omega, by omega⟩, fun _ => ⟨by omega, by omega⟩⟩, fin c (by omega) hn⟩, fun u => absurd (by omega) u⟩
  | succ t ih =>
    intro c h1 h2 h3 hn
    refine k_So_wayFrom_26 o ⟨by omega, by omega⟩ (m_b32 vb) ⟨by omega, by omega⟩ ?_
    rw [r6, n6, r5, n5, Int.toNat_natCast, e2, e1]
    refine ⟨s0, k6, ⟨by omega, by omega⟩, fun z => ⟨fun _ => ⟨k5, ⟨by omega, by omega⟩, ⟨by omega, by omega⟩, fun _ => ⟨by omega, by omega⟩⟩, fin c (by omega) hn⟩, fun u => (x_So_comesOn (d := d) h (show c < cc by omega)).mono (fun x M' q => ?_)⟩
    obtain ⟨e, x01, xi⟩ := q
    rw [e]
    refine ⟨m_b32 x01, o, fun xe v45 e45 => ⟨rfl, lo, hi, ⟨e1, e2⟩, ?_⟩, fun xe => ?_⟩
    · rcases v01 with ⟨v1, z⟩ | ⟨v1, z⟩
      · rw [if_neg (by omega)] at e45
        exact Or.inr ⟨Or.inl ⟨z, c, h2, by omega, xi.mp (by omega)⟩, c, e45, h2, by omega⟩
      · rw [if_pos v1] at e45
        refine Or.inl ⟨e45, fun w => ?_⟩
        rcases w with ⟨w1, -⟩ | ⟨-, -, w1⟩
        · exact z w1
        · have := xi.mpr (w1 c h2 (by omega))
          omega
    · rw [show ((c : Int) + 1) = ((c + 1 : Nat) : Int) by omega]
      refine ih (c + 1) (by omega) (by omega) (by omega) (fun c' a b => ?_)
      by_cases c9 : c' = c
      · rw [c9]
        refine ⟨fun v1 w => ?_, fun v1 => xi.mp (by omega)⟩
        have := xi.mpr w
        omega
      · exact hn c' a (by omega)
end NBX
