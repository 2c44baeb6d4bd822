section
/-! The class's Solver: comesOn and wayFrom exactly. -/
section NBX
variable {G : mG} {d s g cn cc bc i k n c lo hi un : Nat} {M M0 M' M1 M2 M3 : mM}
/-- a state is marked, or a target -/
def jmk (M : mM) (s g j : Nat) : Prop := mI M (s + 124) j ≠ -1 ∨ mI M (g + 2) j = 3
/-- a command has a branch to one -/
def ldC (M : mM) (s g c : Nat) : Prop := ∃ i : Nat, mI M (g + 7) c ≤ i ∧ (i : Int) < mI M (g + 7) (c + 1) ∧ jmk M s g (mI M (g + 8) i).toNat
theorem x_So_comesOn (h : SG M s g cn cc bc) (hc : c < cc) : Ci G y_So_comesOn d [vr s, vi c] M (fun r M' => M' = M ∧ (r = 0 ∨ r = 1) ∧ (r = 1 ↔ ldC M s g c)) := by
  obtain ⟨o, ⟨⟨s0, -⟩, ⟨-, -, -, r3, -, -, -, r7, -⟩, ⟨-, -, -, -, k7, -⟩, ⟨-, -, -, -, n7, -⟩⟩, ⟨g0, ⟨q2, -, -, q7, q8, -⟩, gk, ⟨m2, -, -, m7, m8, -⟩⟩, -, hT⟩ := id h
  obtain ⟨hc1, hc2, hc3⟩ := hT.1
  obtain ⟨x, y, mu, e1, e2, ⟨xy, -⟩, yb, br, -⟩ := hT.2.1 c hc
  have no : ∀ j : Nat, y ≤ j → (∀ i : Nat, x ≤ i → i < j → ¬ jmk M s g (mI M (g + 8) i).toNat) → ¬ ldC M s g c := fun j hj hn u => by
    obtain ⟨i, u1, u2, u3⟩ := u
    rw [e1] at u1
    rw [e2] at u2
    exact hn i (by omega) (by omega) u3
  refine k_So_comesOn o ⟨by omega, by omega⟩ ?_
  rw [r3, q7, m7, Int.toNat_natCast, e1]
  refine ⟨s0, g0, gk 7 (by decide) (by decide), ⟨by omega, by omega⟩, ?_⟩
  suffices HH : ∀ (t i : Nat), y ≤ i + t → x ≤ i → i ≤ y → (∀ i' : Nat, x ≤ i' → i' < i → ¬ jmk M s g (mI M (g + 8) i').toNat) → h_So_comesOn_10 G d s c i M (fun r M' => M' = M ∧ (r = 0 ∨ r = 1) ∧ (r = 1 ↔ ldC M s g c)) from HH (y - x) x (by omega) (Nat.le_refl _) (by omega) (fun i' a b => absurd b (by omega))
  intro t
  induction t with
  | zero =>
    intro i h1 h2 h3 hn
    refine k_So_comesOn_10 o ⟨by omega, by omega⟩ ⟨by omega, by omega⟩ ?_
    rw [r3, q7, m7, show Int.toNat ((c : Int) + 1) = c + 1 by omega, e2]
    exact ⟨s0, g0, gk 7 (by decide) (by decide), ⟨by omega, by omega⟩, fun _ => ⟨rfl, Or.inl rfl, fun z => absurd z (by decide), fun z => absurd z (no i (by omega) hn)⟩, fun u => absurd (by omega) u⟩
  | succ t ih =>
    intro i h1 h2 h3 hn
    refine k_So_comesOn_10 o ⟨by omega, by omega⟩ ⟨by omega, by omega⟩ ?_
    rw [r3, q7, m7, show Int.toNat ((c : Int) + 1) = c + 1 by omega, e2]
    refine ⟨s0, g0, gk 7 (by decide) (by decide), ⟨by omega, by omega⟩, fun z => ⟨rfl, Or.inl rfl, fun z => absurd z (by decide), fun w => absurd w (no i (by omega) hn)⟩, fun u => ?_⟩
    obtain ⟨b1, b2, b3⟩ := br i h2 (by omega)
    rw [q8, m8, r7, n7, q2, m2, Int.toNat_natCast, show ((i : Int) + 1) = ((i + 1 : Nat) : Int) by omega]
    refine ⟨gk 8 (by decide) (by decide), ⟨by omega, by omega⟩, k7, ⟨by omega, by omega⟩, fun _ => ⟨gk 2 (by decide) (by decide), ⟨by omega, by omega⟩⟩, fun z => ⟨rfl, Or.inr rfl, fun _ => ⟨i, by rw [e1]; omega, by rw [e2]; omega, z⟩, fun _ => rfl⟩, fun z => ih (i + 1) (by omega) (by omega) (by omega) (fun i' a b => ?_)⟩
    by_cases c9 : i' = i
    · rw [c9]
      exact z
    · exact hn i' a (by omega)
/-- whether a state comes on: its commands from lo to hi -/
def coC (M : mM) (s g k lo hi : Nat) : Prop := (mI M (g + 2) k = 1 ∧ ∃ c : Nat, lo ≤ c ∧ c < hi ∧ ldC M s g c) ∨ (mI M (g + 2) k ≠ 1 ∧ lo < hi ∧ ∀ c : Nat, lo ≤ c → c < hi → ldC M s g c)
def wayX (M : mM) (s g k : Nat) (x : Int) (M' : mM) : Prop := M' = M ∧ ∃ lo hi : Nat, (mI M (s + 122) k = ((lo : Nat) : Int) ∧ mI M (s + 123) k = ((hi : Nat) : Int)) ∧ ((x = -1 ∧ ¬ coC M s g k lo hi) ∨ (coC M s g k lo hi ∧ ∃ c : Nat, x = ((c : Nat) : Int) ∧ lo ≤ c ∧ c < hi))
theorem x_So_wayFrom (h : SG M s g cn cc bc) (hL : LHs M s cn cc) (hk : k < cn) : Ci G y_So_wayFrom (d + 1) [vr s, vi k] M (wayX M s g k) := by
  obtain ⟨o, ⟨⟨s0, -⟩, ⟨-, -, -, r3, -, r5, r6, -⟩, ⟨-, -, k5, k6, -⟩, ⟨-, -, n5, n6, -⟩⟩, ⟨g0, ⟨q2, -⟩, gk, ⟨m2, -⟩⟩, -, hT⟩ := id h
  obtain ⟨hc1, hc2, hc3⟩ := hT.1
  obtain ⟨lo, hi, e1, e2, lh, hb⟩ := hL k hk
  refine k_So_wayFrom o ⟨by omega, by omega⟩ ?_
  rw [r3, q2, m2, r5, n5, Int.toNat_natCast, e1]
  refine ⟨s0, g0, gk 2 (by decide) (by decide), ⟨by omega, by omega⟩, fun v6 e6 => ⟨k5, ⟨by omega, by omega⟩, ?_⟩⟩
  have v01 : (v6 = 1 ∧ mI M (g + 2) k = 1) ∨ (v6 = 0 ∧ mI M (g + 2) k ≠ 1) := by
    by_cases z : mI M (g + 2) k = 1
    · rw [if_pos z] at e6
      exact Or.inl ⟨e6, z⟩
    · rw [if_neg z] at e6
      exact Or.inr ⟨e6, z⟩
  have vb : v6 = 0 ∨ v6 = 1 := by omega
  clear e6
  suffices HH : ∀ (t c : Nat), hi ≤ c + t → lo ≤ c → c ≤ hi → (∀ c' : Nat, lo ≤ c' → c' < c → (v6 = 1 → ¬ ldC M s g c') ∧ (v6 = 0 → ldC M s g c')) → h_So_wayFrom_26 G d s k v6 c M (wayX M s g k) from HH (hi - lo) lo (by omega) (Nat.le_refl _) lh (fun c' a b => absurd b (by omega))
  have fin : ∀ c : Nat, hi ≤ c → (∀ c' : Nat, lo ≤ c' → c' < c → (v6 = 1 → ¬ ldC M s g c') ∧ (v6 = 0 → ldC M s g c')) → ∀ v31 : Int, v31 = (if ((¬ (v6 = 0)) ∨ ((lo : Int) = (hi : Int))) then (-1) else ((lo : Nat) : Int)) → wayX M s g k v31 M := fun c hc hn v31 e31 => by
    refine ⟨rfl, lo, hi, ⟨e1, e2⟩, ?_⟩
    rcases v01 with ⟨v1, z⟩ | ⟨v1, z⟩
    · rw [if_pos (Or.inl (by omega))] at e31
      refine Or.inl ⟨e31, fun u => ?_⟩
      rcases u with ⟨-, c', u1, u2, u3⟩ | ⟨u1, -⟩
      · exact (hn c' u1 (by omega)).1 v1 u3
      · exact u1 z
    · by_cases w : lo = hi
      · rw [if_pos (Or.inr (by omega))] at e31
        refine Or.inl ⟨e31, fun u => ?_⟩
        rcases u with ⟨u1, -⟩ | ⟨-, u1, -⟩
        · exact z u1
        · omega
      · rw [if_neg (by omega)] at e31
        exact Or.inr ⟨Or.inr ⟨z, by omega, fun c' a b => (hn c' a (by omega)).2 v1⟩, lo, e31, Nat.le_refl _, by omega⟩
  intro t
  induction t with
  | zero =>
    intro c h1 h2 h3 hn
    refine k_So_wayFrom_26 o ⟨by omega, by omega⟩ (m_b32 vb) ⟨by omega, by omega⟩ ?_
    rw [r6, n6, r5, n5, Int.toNat_natCast, e2, e1]
    exact ⟨s0, k6, ⟨by omega, by omega⟩, fun _ => ⟨fun _ => ⟨k5, ⟨by omega, by omega⟩, ⟨by omega, by omega⟩, fun _ => ⟨by omega, by omega⟩⟩, fin c (by omega) hn⟩, fun u => absurd (by omega) u⟩
  | succ t ih =>
    intro c h1 h2 h3 hn
    refine k_So_wayFrom_26 o ⟨by omega, by omega⟩ (m_b32 vb) ⟨by omega, by omega⟩ ?_
    rw [r6, n6, r5, n5, Int.toNat_natCast, e2, e1]
    refine ⟨s0, k6, ⟨by omega, by omega⟩, fun z => ⟨fun _ => ⟨k5, ⟨by omega, by omega⟩, ⟨by omega, by omega⟩, fun _ => ⟨by omega, by omega⟩⟩, fin c (by omega) hn⟩, fun u => (x_So_comesOn (d := d) h (show c < cc by omega)).mono (fun x M' q => ?_)⟩
    obtain ⟨e, x01, xi⟩ := q
    rw [e]
    refine ⟨m_b32 x01, o, fun xe v45 e45 => ⟨rfl, lo, hi, ⟨e1, e2⟩, ?_⟩, fun xe => ?_⟩
    · rcases v01 with ⟨v1, z⟩ | ⟨v1, z⟩
      · rw [if_neg (by omega)] at e45
        exact Or.inr ⟨Or.inl ⟨z, c, h2, by omega, xi.mp (by omega)⟩, c, e45, h2, by omega⟩
      · rw [if_pos v1] at e45
        refine Or.inl ⟨e45, fun w => ?_⟩
        rcases w with ⟨w1, -⟩ | ⟨-, -, w1⟩
        · exact z w1
        · have := xi.mpr (w1 c h2 (by omega))
          omega
    · rw [show ((c : Int) + 1) = ((c + 1 : Nat) : Int) by omega]
      refine ih (c + 1) (by omega) (by omega) (by omega) (fun c' a b => ?_)
      by_cases c9 : c' = c
      · rw [c9]
        refine ⟨fun v1 w => ?_, fun v1 => xi.mp (by omega)⟩
        have := xi.mpr w
        omega
      · exact hn c' a (by omega)
end NBX
end
section
/-! The class's Solver: the marks exactly. -/
section NBY
variable {G : mG} {d s g cn cc bc i k n c lo hi un : Nat} {M M0 M' M1 M2 M3 : mM}
theorem sm_up9 {h h' : Nat → Int} {k : Nat} {v : Int} (h0 : h k = 0) (h1 : h' k = v) (e : ∀ j, j ≠ k → h' j = h j) : ∀ n, k < n → sm h' n = sm h n + v
  | 0, u => absurd u (by omega)
  | n + 1, u => by
    show sm h' n + h' n = sm h n + h n + v
    by_cases c : k = n
    · rw [← c, h0, h1, sm_congr (f := h') (g := h) k (fun j hj => e j (by omega))]
      omega
    · rw [sm_up9 h0 h1 e n (by omega), e n (by omega)]
      omega
/-- marked with a slot below b, or a target -/
def jmb (M : mM) (s g : Nat) (b : Int) (j : Nat) : Prop := (mI M (s + 124) j ≠ -1 ∧ mI M (s + 124) j < b) ∨ mI M (g + 2) j = 3
def ldB (M : mM) (s g : Nat) (b : Int) (c : Nat) : Prop := ∃ i : Nat, mI M (g + 7) c ≤ i ∧ (i : Int) < mI M (g + 7) (c + 1) ∧ jmb M s g b (mI M (g + 8) i).toNat
def coB (M : mM) (s g : Nat) (b : Int) (k lo hi : Nat) : Prop := (mI M (g + 2) k = 1 ∧ ∃ c : Nat, lo ≤ c ∧ c < hi ∧ ldB M s g b c) ∨ (mI M (g + 2) k ≠ 1 ∧ lo < hi ∧ ∀ c : Nat, lo ≤ c → c < hi → ldB M s g b c)
/-- each marked state was marked when it came on by those before it -/
def mkB (M : mM) (s g cn : Nat) : Prop := ∀ k, k < cn → mI M (s + 124) k ≠ -1 → ∃ lo hi : Nat, (mI M (s + 122) k = ((lo : Nat) : Int) ∧ mI M (s + 123) k = ((hi : Nat) : Int)) ∧ coB M s g (mI M (s + 124) k) k lo hi
/-- sums over the unknown states -/
def smU (M : mM) (s cn un : Nat) : Prop := ∀ f : Nat → Int, sm (fun i => f (mI M (s + 125) i).toNat) un = sm (fun k => if mI M (s + 124) k = -1 then 0 else f k) cn
theorem coC.b {b : Int} (h : coC M s g k lo hi) (m : ∀ c, lo ≤ c → c < hi → ldC M s g c → ldB M' s g b c) (e : mI M' (g + 2) k = mI M (g + 2) k) : coB M' s g b k lo hi := by
  rcases h with ⟨h1, c, h2, h3, h4⟩ | ⟨h1, h2, h3⟩
  · exact Or.inl ⟨by rw [e]; exact h1, c, h2, h3, m c h2 h3 h4⟩
  · exact Or.inr ⟨by rw [e]; exact h1, h2, fun c a b => m c a b (h3 c a b)⟩
theorem coB.cg {b : Int} (h : coB M s g b k lo hi) (e2 : mI M' (g + 2) = mI M (g + 2)) (e7 : mI M' (g + 7) = mI M (g + 7)) (e8 : mI M' (g + 8) = mI M (g + 8)) (e : ∀ j, mI M (s + 124) j ≠ -1 → mI M' (s + 124) j = mI M (s + 124) j) : coB M' s g b k lo hi := by
  have m : ∀ c, ldB M s g b c → ldB M' s g b c := fun c u => by
    obtain ⟨i, u1, u2, u3⟩ := u
    refine ⟨i, by rw [e7]; exact u1, by rw [e7]; exact u2, ?_⟩
    rw [e8]
    rcases u3 with ⟨u3, u4⟩ | u3
    · exact Or.inl ⟨by rw [e _ u3]; exact u3, by rw [e _ u3]; exact u4⟩
    · exact Or.inr (by rw [e2]; exact u3)
  rcases h with ⟨h1, c, h2, h3, h4⟩ | ⟨h1, h2, h3⟩
  · exact Or.inl ⟨by rw [e2]; exact h1, c, h2, h3, m c h4⟩
  · exact Or.inr ⟨by rw [e2]; exact h1, h2, fun c a b => m c (h3 c a b)⟩
/-- a state is marked -/
theorem mk_step (hT : GTT M g cn cc bc) (hs : Slo M s un) (hb : mkB M s g cn) (hm : smU M s cn un) (hk : k < cn) (h0 : mI M (s + 124) k = -1) (hl : mI M (s + 122) k = ((lo : Nat) : Int) ∧ mI M (s + 123) k = ((hi : Nat) : Int)) (hh : hi ≤ cc) (hc : coC M s g k lo hi) (eg : ∀ i, i ≤ 9 → mI M' (g + i) = mI M (g + i)) (e122 : mI M' (s + 122) = mI M (s + 122)) (e123 : mI M' (s + 123) = mI M (s + 123)) (e124 : ∀ j, mI M' (s + 124) j = if j = k then ((un : Nat) : Int) else mI M (s + 124) j) (e125 : ∀ j, mI M' (s + 125) j = if j = un then ((k : Nat) : Int) else mI M (s + 125) j) : mkB M' s g cn ∧ smU M' s cn (un + 1) := by
  have e2 := eg 2 (by decide)
  have e7 := eg 7 (by decide)
  have e8 := eg 8 (by decide)
  have old : ∀ j, mI M (s + 124) j ≠ -1 → mI M' (s + 124) j = mI M (s + 124) j := fun j hj => by
    rw [e124, if_neg (fun u => hj (by rw [u]; exact h0))]
  refine ⟨fun j hj u => ?_, fun f => ?_⟩
  · rw [e122, e123]
    by_cases c9 : j = k
    · subst c9
      refine ⟨lo, hi, hl, ?_⟩
      rw [e124, if_pos rfl]
      refine hc.b (fun c a b w => ?_) (by rw [e2])
      obtain ⟨i, w1, w2, w3⟩ := w
      obtain ⟨x, y, mu, f1, f2, -, -, br, -⟩ := hT.2.1 c (by omega)
      rw [f1] at w1
      rw [f2] at w2
      have bb := br i (by omega) (by omega)
      have cn5 := hT.1.1
      refine ⟨i, by rw [e7, f1]; exact w1, by rw [e7, f2]; exact w2, ?_⟩
      rw [e8]
      rcases w3 with w3 | w3
      · refine Or.inl ⟨by rw [old _ w3]; exact w3, ?_⟩
        rw [old _ w3]
        rcases hs (mI M (g + 8) i).toNat (by omega) with z | z
        · exact absurd z w3
        · exact z.2
      · exact Or.inr (by rw [e2]; exact w3)
    · rw [e124, if_neg c9] at u
      obtain ⟨lo', hi', l1, l2⟩ := hb j hj u
      refine ⟨lo', hi', l1, ?_⟩
      rw [e124, if_neg c9]
      exact l2.cg e2 e7 e8 old
  · show sm (fun i => f (mI M' (s + 125) i).toNat) un + f (mI M' (s + 125) un).toNat = _
    rw [e125, if_pos rfl, Int.toNat_natCast, sm_congr (g := fun i => f (mI M (s + 125) i).toNat) un (fun j hj => by rw [e125, if_neg (by omega)]), hm f]
    refine (sm_up9 (h := fun k => if mI M (s + 124) k = -1 then 0 else f k) (k := k) ?_ ?_ (fun j hj => ?_) cn hk).symm
    · show (if mI M (s + 124) k = -1 then 0 else f k) = 0
      rw [if_pos h0]
    · show (if mI M' (s + 124) k = -1 then 0 else f k) = f k
      rw [e124, if_pos rfl, if_neg (by omega)]
    · show (if mI M' (s + 124) j = -1 then 0 else f j) = (if mI M (s + 124) j = -1 then 0 else f j)
      rw [e124, if_neg hj]
end NBY
end
section
/-! The class's Solver: the unknown states exactly. -/
section NBZ
variable {G : mG} {d s g cn cc bc i k n c lo hi un : Nat} {M M0 M' M1 M2 M3 : mM}
/-- nothing from k on comes on -/
def noM (M : mM) (s g cn k : Nat) : Prop := ∀ j, k ≤ j → j < cn → mI M (s + 124) j = -1 → ∀ lo hi : Nat, mI M (s + 122) j = ((lo : Nat) : Int) → mI M (s + 123) j = ((hi : Nat) : Int) → ¬ coC M s g j lo hi
def fuX (M0 : mM) (s g cn cc bc un : Nat) (M : mM) : Prop := FI (Sun s) M0 M ∧ SG M s g cn cc bc ∧ LHs M s cn cc ∧ Unk M s cn un ∧ mkB M s g cn ∧ smU M s cn un
/-- found all, or one too many -/
def fuR (M0 : mM) (s g cn cc bc : Nat) (x : Int) (M : mM) : Prop := ∃ un, fuX M0 s g cn cc bc un M ∧ ((x = 1 ∧ noM M s g cn 0) ∨ (x = 0 ∧ un = 40 ∧ ∃ k, k < cn ∧ mI M (s + 124) k = -1 ∧ ∃ lo hi : Nat, mI M (s + 122) k = ((lo : Nat) : Int) ∧ mI M (s + 123) k = ((hi : Nat) : Int) ∧ coC M s g k lo hi))
theorem x_fu63 {l1 l2 x : Int} (h1 : l1 = 0 ∨ l1 = 1) (h2 : 0 ≤ l2 ∧ l2 ≤ 512) (hk : k < cn) (hI : fuX M0 s g cn cc bc un M) (hx : x = -1 ∨ (mI M (s + 124) k = -1 ∧ ∃ lo hi c : Nat, (mI M (s + 122) k = ((lo : Nat) : Int) ∧ mI M (s + 123) k = ((hi : Nat) : Int)) ∧ coC M s g k lo hi ∧ x = ((c : Nat) : Int) ∧ lo ≤ c ∧ c < hi))
    (hQ0 : x = -1 → h_So_findUnknown_40 G d s l1 l2 ((k : Int) - 1) M (fuR M0 s g cn cc bc)) (hQ1 : ∀ M', fuX M0 s g cn cc bc (un + 1) M' → h_So_findUnknown_40 G d s 1 l2 ((k : Int) - 1) M' (fuR M0 s g cn cc bc)) : h_So_findUnknown_63 G d s l1 l2 k x M (fuR M0 s g cn cc bc) := by
  have hI0 := hI
  obtain ⟨F, hg, hL, ⟨u1, u2, u3, u4⟩, hb, hm⟩ := hI
  obtain ⟨o, ⟨⟨s0, gs⟩, ⟨-, -, -, -, -, -, -, r7, r8, r9, -⟩, ⟨-, -, -, -, k7, k8, k9, -⟩, ⟨-, -, -, -, n7, n8, n9, -⟩⟩, -, -, hT⟩ := id hg
  obtain ⟨hc1, hc2, hc3⟩ := hT.1
  have xi : i32 x := by
    rcases hx with e | ⟨-, lo, hi, c, ⟨e1, e2⟩, -, e3, e4, e5⟩
    · rw [e]; exact ⟨by decide, by decide⟩
    · obtain ⟨lo', hi', f1, f2, f3, f4⟩ := hL k hk
      exact ⟨by omega, by omega⟩
  refine k_So_findUnknown_63 o (m_b32 h1) ⟨by omega, by omega⟩ ⟨by omega, by omega⟩ xi ⟨fun z => by
    have := hQ0 z
    rw [show ((k : Int) - 1) = (k : Int) + (-1) by omega] at this
    exact this, fun xn => ?_⟩
  obtain ⟨k0, lo, hi, c, ⟨e1, e2⟩, hco, e3, e4, e5⟩ := hx.resolve_left xn
  obtain ⟨lo', hi', f1, f2, f3, f4⟩ := hL k hk
  rw [u1]
  refine ⟨s0, fun z => ⟨un, hI0, Or.inr ⟨rfl, by omega, k, hk, k0, lo, hi, e1, e2, hco⟩⟩, fun ne => ?_⟩
  rw [r7, n7, Int.toNat_natCast]
  refine ⟨k7, ⟨by omega, by omega⟩, fun M41 e41 => ?_⟩
  have f41 : FI (fun z => z = s + 124) M M41 := by rw [e41]; exact FI.ui rfl
  rw [f41.1, f41.2.1, f41.2.2.1, r8, n8, f41.2.2.2.2.2.2 s (show ¬ s = s + 124 by omega), u1, Int.toNat_natCast]
  refine ⟨k8, ⟨by omega, by omega⟩, fun M45 e45 => ?_⟩
  have f45 : FI (fun z => z = s + 125) M41 M45 := by rw [e45]; exact FI.ui rfl
  rw [f45.1, f45.2.1, f45.2.2.1, f41.1, f41.2.1, f41.2.2.1, r9, n9, f45.2.2.2.2.2.2 s (show ¬ s = s + 125 by omega), f41.2.2.2.2.2.2 s (show ¬ s = s + 124 by omega), u1, Int.toNat_natCast]
  refine ⟨k9, ⟨by omega, by omega⟩, fun M49 e49 => ?_⟩
  have f49 : FI (fun z => z = s + 126) M45 M49 := by rw [e49]; exact FI.ui rfl
  rw [f49.2.2.2.2.2.2 s (show ¬ s = s + 126 by omega), f45.2.2.2.2.2.2 s (show ¬ s = s + 125 by omega), f41.2.2.2.2.2.2 s (show ¬ s = s + 124 by omega), u1]
  refine ⟨⟨by omega, by omega⟩, fun M52 e52 => ?_⟩
  have f52 : FI (fun z => z = s) M49 M52 := by rw [e52]; exact FI.ui rfl
  have ff : FI (Sun s) M M52 := (((f41.mono (fun _ u => Or.inr (Or.inl u))).trans (f45.mono (fun _ u => Or.inr (Or.inr (Or.inl u))))).trans (f49.mono (fun _ u => Or.inr (Or.inr (Or.inr u))))).trans (f52.mono (fun _ u => Or.inl u))
  have o52 : mOk M52 := by rw [e52]; exact mOk_UI (by rw [e49]; exact mOk_UI (by rw [e45]; exact mOk_UI (by rw [e41]; exact mOk_UI o ⟨by omega, by omega⟩) ⟨by omega, by omega⟩) xi) ⟨by omega, by omega⟩
  have i122 : mI M52 (s + 122) = mI M (s + 122) := ff.2.2.2.2.2.2 _ (fun u => by unfold Sun at u; omega)
  have i123 : mI M52 (s + 123) = mI M (s + 123) := ff.2.2.2.2.2.2 _ (fun u => by unfold Sun at u; omega)
  have i124 : ∀ j, mI M52 (s + 124) j = if j = k then ((un : Nat) : Int) else mI M (s + 124) j := fun j => by
    rw [f52.2.2.2.2.2.2 _ (show ¬ s + 124 = s by omega), f49.2.2.2.2.2.2 _ (show ¬ s + 124 = s + 126 by omega), f45.2.2.2.2.2.2 _ (show ¬ s + 124 = s + 125 by omega), mI_ui _ j e41]
    by_cases cj : j = k
    · rw [if_pos ⟨rfl, cj⟩, if_pos cj]
    · rw [if_neg (fun u => cj u.2), if_neg cj]
  have i125 : ∀ j, mI M52 (s + 125) j = if j = un then ((k : Nat) : Int) else mI M (s + 125) j := fun j => by
    rw [f52.2.2.2.2.2.2 _ (show ¬ s + 125 = s by omega), f49.2.2.2.2.2.2 _ (show ¬ s + 125 = s + 126 by omega), mI_ui _ j e45]
    by_cases cj : j = un
    · rw [if_pos ⟨rfl, cj⟩, if_pos cj]
    · rw [if_neg (fun u => cj u.2), if_neg cj, f41.2.2.2.2.2.2 _ (show ¬ s + 125 = s + 124 by omega)]
  have i126 : ∀ j, mI M52 (s + 126) j = if j = un then x else mI M (s + 126) j := fun j => by
    rw [f52.2.2.2.2.2.2 _ (show ¬ s + 126 = s by omega), mI_ui _ j e49]
    by_cases cj : j = un
    · rw [if_pos ⟨rfl, cj⟩, if_pos cj]
    · rw [if_neg (fun u => cj u.2), if_neg cj, f45.2.2.2.2.2.2 _ (show ¬ s + 126 = s + 125 by omega), f41.2.2.2.2.2.2 _ (show ¬ s + 126 = s + 124 by omega)]
  obtain ⟨hb', hm'⟩ := mk_step (M' := M52) hT u3 hb hm hk k0 ⟨e1, e2⟩ (by omega) hco (fun i hi => ff.2.2.2.2.2.2 _ (sun_g hg i hi)) i122 i123 i124 i125
  have := hQ1 M52 ⟨F.trans ff, hg.fi ff o52 (sun_g hg), fun j hj => by rw [i122, i123]; exact hL j hj, ⟨by rw [mI_ui s 10 e52, if_pos ⟨rfl, rfl⟩]; omega, by omega, fun j hj => ?_, fun j hj => ?_⟩, hb', hm'⟩
  · rw [show ((k : Int) - 1) = (k : Int) + (-1) by omega] at this
    exact this
  · rw [i124]
    by_cases cj : j = k
    · rw [if_pos cj]; exact Or.inr ⟨by omega, by omega⟩
    · rw [if_neg cj]
      rcases u3 j hj with e | e
      · exact Or.inl e
      · exact Or.inr ⟨e.1, by omega⟩
  · rw [i125, i126, i122, i123]
    by_cases cj : j = un
    · rw [if_pos cj, if_pos cj]
      exact ⟨k, c, lo, hi, rfl, hk, e3, e1, e2, e4, e5⟩
    · rw [if_neg cj, if_neg cj]
      exact u4 j (by omega)
theorem x_fu40 {l2 : Int} {u0 : Nat} (h2 : 0 ≤ l2 ∧ l2 ≤ 512) (hQ : ∀ (l1' : Int) (un : Nat) (M' : mM), fuX M0 s g cn cc bc un M' → ((l1' = 0 ∧ noM M' s g cn 0) ∨ (l1' = 1 ∧ u0 < un)) → h_So_findUnknown_17 G (d + 1) s l1' (l2 + 1) M' (fuR M0 s g cn cc bc)) : ∀ (k : Nat) (l1 : Int) (un : Nat) (M : mM), k ≤ cn → u0 ≤ un → ((l1 = 0 ∧ noM M s g cn k) ∨ (l1 = 1 ∧ u0 < un)) → fuX M0 s g cn cc bc un M → h_So_findUnknown_40 G (d + 1) s l1 l2 ((k : Int) - 1) M (fuR M0 s g cn cc bc) := by
  intro k
  induction k with
  | zero =>
    intro l1 un M hk hu h1 hI
    exact k_So_findUnknown_40 hI.2.1.1 (m_b32 (by omega)) ⟨by omega, by omega⟩ ⟨by omega, by omega⟩ ⟨fun _ => hQ l1 un M hI h1, fun u => absurd (by omega) u⟩
  | succ k ih =>
    intro l1 un M hk hu h1 hI
    obtain ⟨F, hg, hL, ⟨u1, u2, u3, u4⟩, hb, hm⟩ := id hI
    obtain ⟨o, ⟨⟨s0, gs⟩, ⟨-, -, -, -, -, -, -, r7, -⟩, ⟨-, -, -, -, k7, -⟩, ⟨-, -, -, -, n7, -⟩⟩, -, -, hT⟩ := id hg
    obtain ⟨hc1, hc2, hc3⟩ := hT.1
    have hl : l1 = 0 ∨ l1 = 1 := by omega
    rw [show ((k + 1 : Nat) : Int) - 1 = ((k : Nat) : Int) by omega]
    refine k_So_findUnknown_40 o (m_b32 hl) ⟨by omega, by omega⟩ ⟨by omega, by omega⟩ ⟨fun u => absurd u (by omega), fun _ => ?_⟩
    have ext : (mI M (s + 124) k = -1 → ∀ lo hi : Nat, mI M (s + 122) k = ((lo : Nat) : Int) → mI M (s + 123) k = ((hi : Nat) : Int) → ¬ coC M s g k lo hi) → ((l1 = 0 ∧ noM M s g cn k) ∨ (l1 = 1 ∧ u0 < un)) := fun z => by
      rcases h1 with ⟨a1, a2⟩ | a1
      · refine Or.inl ⟨a1, fun j j1 j2 j3 lo hi j4 j5 => ?_⟩
        by_cases c9 : j = k
        · subst c9
          exact z j3 lo hi j4 j5
        · exact a2 j (by omega) j2 j3 lo hi j4 j5
      · exact Or.inr a1
    rw [r7, n7, Int.toNat_natCast]
    refine ⟨s0, k7, ⟨by omega, by omega⟩, fun z => (x_So_wayFrom (d := d) hg hL (show k < cn by omega)).mono (fun x M' q => ?_), fun z => x_fu63 hl h2 (by omega) hI (Or.inl rfl) (fun _ => ih l1 un M (by omega) hu (ext (fun w => absurd w z)) hI) (fun M' hI' => ih 1 (un + 1) M' (by omega) (by omega) (Or.inr ⟨rfl, by omega⟩) hI')⟩
    obtain ⟨e, lo, hi, ⟨e1, e2⟩, hx⟩ := q
    rw [e]
    obtain ⟨lo', hi', f1, f2, f3, f4⟩ := hL k (by omega)
    have xi : i32 x := by
      rcases hx with ⟨e, -⟩ | ⟨-, c, e3, e4, e5⟩
      · rw [e]; exact ⟨by decide, by decide⟩
      · exact ⟨by omega, by omega⟩
    refine ⟨xi, o, x_fu63 hl h2 (by omega) hI ?_ (fun xe => ih l1 un M (by omega) hu (ext (fun _ lo2 hi2 a1 a2 => ?_)) hI) (fun M' hI' => ih 1 (un + 1) M' (by omega) (by omega) (Or.inr ⟨rfl, by omega⟩) hI')⟩
    · rcases hx with ⟨y, -⟩ | ⟨y, c, e3, e4, e5⟩
      · exact Or.inl y
      · exact Or.inr ⟨z, lo, hi, c, ⟨e1, e2⟩, y, e3, e4, e5⟩
    · have el : lo2 = lo := by rw [e1] at a1; omega
      have eh : hi2 = hi := by rw [e2] at a2; omega
      subst el
      subst eh
      rcases hx with ⟨-, y⟩ | ⟨-, c, e3, -⟩
      · exact y
      · omega
theorem x_So_findUnknown (h : SG M s g cn cc bc) (hL : LHs M s cn cc) : Ci G y_So_findUnknown (d + 2) [vr s] M (fuR M s g cn cc bc) := by
  obtain ⟨o, ⟨⟨s0, gs⟩, ⟨-, -, -, -, -, -, -, r7, -⟩, ⟨-, -, -, -, k7, -⟩, ⟨-, -, -, -, n7, -⟩⟩, -, -, hT⟩ := id h
  refine k_So_findUnknown o ⟨s0, fun M2 e2 => ?_⟩
  have f2 : FI (fun z => z = s) M M2 := by rw [e2]; exact FI.ui rfl
  have o2 : mOk M2 := by rw [e2]; exact mOk_UI o ⟨by decide, by decide⟩
  rw [f2.2.2.1, r7]
  refine (s_JA_fill (d := d + 1) o2 (by rw [f2.1]; exact k7) (by rw [f2.2.1, n7]; decide) ⟨by decide, by decide⟩).mono (fun M4 q => ?_)
  obtain ⟨o4, f4, i4⟩ := q
  rw [f2.2.1, n7] at i4
  have ff : FI (Sun s) M M4 := (f2.mono (fun _ u => Or.inl u)).trans (f4.mono (fun _ u => Or.inr (Or.inl u)))
  have z9 : ∀ (f : Nat → Int) (n : Nat), n ≤ 512 → sm (fun k => if mI M4 (s + 124) k = -1 then 0 else f k) n = 0 := fun f n => by
    induction n with
    | zero => exact fun _ => rfl
    | succ n ih =>
      intro hn
      show sm (fun k => if mI M4 (s + 124) k = -1 then 0 else f k) n + (if mI M4 (s + 124) n = -1 then 0 else f n) = 0
      rw [ih (by omega), if_pos (i4 n (by omega))]
      all_goals rfl
  have cn5 := hT.1.1
  have I4 : fuX M s g cn cc bc 0 M4 := ⟨ff, h.fi ff o4 (sun_g h), fun j hj => by rw [ff.2.2.2.2.2.2 (s + 122) (fun u => by unfold Sun at u; omega), ff.2.2.2.2.2.2 (s + 123) (fun u => by unfold Sun at u; omega)]; exact hL j hj, ⟨by rw [f4.2.2.2.2.2.2 s (show ¬ s = s + 124 by omega), mI_ui s 10 e2, if_pos ⟨rfl, rfl⟩]; rfl, by decide, fun k hk => Or.inl (i4 k hk), fun i hi => absurd hi (by omega)⟩, fun k hk u => absurd (i4 k (by omega)) u, fun f => (z9 f cn cn5).symm⟩
  refine ⟨o4, ?_⟩
  suffices HH : ∀ (t sw : Nat) (l1 : Int) (un : Nat) (M1 : mM), 513 ≤ sw + t → sw ≤ 513 → ((l1 = 0 ∧ noM M1 s g cn 0) ∨ (l1 = 1 ∧ sw ≤ un)) → fuX M s g cn cc bc un M1 → h_So_findUnknown_17 G (d + 1) s l1 sw M1 (fuR M s g cn cc bc) from HH 513 0 1 0 M4 (by omega) (by omega) (Or.inr ⟨rfl, Nat.le_refl _⟩) I4
  intro t
  induction t with
  | zero =>
    intro sw l1 un M1 h1 h2 hl hI
    have u40 := hI.2.2.2.1.2.1
    have lb : l1 = 0 ∨ l1 = 1 := by omega
    have fin : (512 : Int) < sw ∨ l1 = 0 → fuR M s g cn cc bc 1 M1 := fun u => ⟨un, hI, Or.inl ⟨rfl, by
      rcases hl with hl | hl
      · exact hl.2
      · exfalso
        omega⟩⟩
    exact k_So_findUnknown_17 hI.2.1.1 (m_b32 lb) ⟨by omega, by omega⟩ ⟨fin, fun u => absurd (Or.inl (by omega)) u⟩
  | succ t ih =>
    intro sw l1 un M1 h1 h2 hl hI
    have u40 := hI.2.2.2.1.2.1
    have lb : l1 = 0 ∨ l1 = 1 := by omega
    have fin : (512 : Int) < sw ∨ l1 = 0 → fuR M s g cn cc bc 1 M1 := fun u => ⟨un, hI, Or.inl ⟨rfl, by
      rcases hl with hl | hl
      · exact hl.2
      · exfalso
        omega⟩⟩
    refine k_So_findUnknown_17 hI.2.1.1 (m_b32 lb) ⟨by omega, by omega⟩ ⟨fin, fun u => ?_⟩
    obtain ⟨-, ⟨⟨s0', -⟩, ⟨-, -, -, r3, -⟩, -⟩, ⟨g0, -⟩, -, hT'⟩ := id hI.2.1
    rw [r3, hT'.2.2.2]
    have sl : sw ≤ 512 := by
      by_cases c : (512 : Int) < sw
      · exact absurd (Or.inl c) u
      · omega
    refine ⟨s0', g0, x_fu40 (u0 := un) ⟨by omega, by omega⟩ (fun l1' un' M' hI' h1' => ?_) cn 0 un M1 (Nat.le_refl _) (Nat.le_refl _) (Or.inl ⟨rfl, fun j j1 j2 => absurd j2 (by omega)⟩) hI⟩
    rw [show ((sw : Int) + 1) = ((sw + 1 : Nat) : Int) by omega]
    refine ih (sw + 1) l1' un' M' (by omega) (by omega) ?_ hI'
    rcases h1' with y | ⟨y1, y2⟩
    · exact Or.inl y
    · refine Or.inr ⟨y1, ?_⟩
      have : l1 = 1 := by
        rcases lb with z | z
        · exact absurd (Or.inr z) u
        · exact z
      omega
end NBZ
end
section
/-! The class's Solver: the weights exactly. -/
section NBW
variable {G : mG} {d s g cn cc bc i k n c lo hi un : Nat} {M M0 M' M1 M2 M3 : mM}
theorem p2m9 : ∀ (w v : Nat), v ≤ w → (2 : Int) ^ v ≤ 2 ^ w ∧ (0 : Int) < 2 ^ w
  | 0, v, h => by
    have e : v = 0 := by omega
    rw [e]
    exact ⟨Int.le_refl _, by decide⟩
  | w + 1, v, h => by
    have e : (2 : Int) ^ (w + 1) = 2 ^ w * 2 := Int.pow_succ 2 w
    have p := (p2m9 w 0 (by omega)).2
    by_cases c : v = w + 1
    · rw [c]
      exact ⟨Int.le_refl _, by rw [e]; omega⟩
    · have q := (p2m9 w v (by omega)).1
      exact ⟨by rw [e]; omega, by rw [e]; omega⟩
theorem wt_1 : wtA9 1 1 := by
  refine ⟨by decide, fun v hv => ?_⟩
  have e : v = 0 := by omega
  rw [e]
  decide
/-- gr is the greatest multiple of the commands from lo to c, at least 1 -/
def gmC (M : mM) (g lo c : Nat) (gr : Int) : Prop := (∀ c', lo ≤ c' → c' < c → mI M (g + 6) c' ≤ gr) ∧ (gr = 1 ∨ ∃ c', lo ≤ c' ∧ c' < c ∧ mI M (g + 6) c' = gr)
theorem gmC.step {gr v mu : Int} (h : gmC M g lo c gr) (hc : lo ≤ c) (e : mI M (g + 6) c = mu) (hv : (v = gr ∧ mu ≤ gr) ∨ (v = mu ∧ gr ≤ mu)) : gmC M g lo (c + 1) v := by
  refine ⟨fun c' a b => ?_, ?_⟩
  · by_cases z : c' = c
    · rw [z, e]
      rcases hv with y | y
      · rw [y.1]; exact y.2
      · rw [y.1]; exact Int.le_refl _
    · have q := h.1 c' a (by omega)
      rcases hv with y | y
      · rw [y.1]; exact q
      · rw [y.1]; exact Int.le_trans q y.2
  · rcases hv with y | y
    · rw [y.1]
      rcases h.2 with z | ⟨c', a, b, z⟩
      · exact Or.inl z
      · exact Or.inr ⟨c', a, by omega, z⟩
    · exact Or.inr ⟨c, hc, by omega, by rw [y.1]; exact e⟩
/-- the weight of the i-th unknown state -/
def weC (M : mM) (s g i w : Nat) : Prop := ∃ (k lo hi : Nat) (gr : Int), mI M (s + 125) i = ((k : Nat) : Int) ∧ mI M (s + 122) k = ((lo : Nat) : Int) ∧ mI M (s + 123) k = ((hi : Nat) : Int) ∧ gmC M g lo hi gr ∧ 1 ≤ gr ∧ wtA9 gr w
def wesX (M : mM) (s g un : Nat) (x : Int) (M' : mM) : Prop := M' = M ∧ ∃ wt : Nat → Nat, x = ((wsu wt un : Nat) : Int) ∧ ∀ i, i < un → weC M s g i (wt i) ∧ wt i ≤ 33
theorem x_wgh27 {l1 : Int} {hi' : Nat} (hg : SG M s g cn cc bc) (hL : LHs M s cn cc) (hU : Unk M s cn un) (hi : i < un) (hl : 0 ≤ l1 ∧ l1 ≤ 100000) (e1 : mI M (s + 125) i = ((k : Nat) : Int)) (hk : k < cn) (e2 : mI M (s + 122) k = ((lo : Nat) : Int)) (e3 : mI M (s + 123) k = ((hi' : Nat) : Int)) (lh : lo ≤ hi' ∧ hi' ≤ cc)
    (hQ : ∀ w : Nat, w ≤ 33 → weC M s g i w → h_So_weights_4 G d s (l1 + ((w : Nat) : Int)) ((i + 1 : Nat) : Int) M (wesX M s g un)) : ∀ (t c : Nat) (gr : Int), hi' ≤ c + t → lo ≤ c → c ≤ hi' → 1 ≤ gr → gr < 1000000000 → gmC M g lo c gr → h_So_weights_27 G d s l1 i gr c M (wesX M s g un) := by
  obtain ⟨o, ⟨⟨s0, gs⟩, ⟨-, -, -, r3, -, r5, r6, -, r8, -⟩, ⟨-, -, k5, k6, -, k8, -⟩, ⟨-, -, n5, n6, -, n8, -⟩⟩, ⟨g0, ⟨-, -, q6, -⟩, gk, ⟨-, -, m6, -⟩⟩, -, hT⟩ := id hg
  obtain ⟨hc1, hc2, hc3⟩ := hT.1
  have u40 := hU.2.1
  have fin : ∀ (c : Nat) (gr : Int), c = hi' → 1 ≤ gr → gr < 1000000000 → gmC M g lo c gr → Ci G y_JI_nlz d [vi (gr - 1)] M (fun x23 M22 => i32 x23 ∧ mOk M22 ∧ (h_So_weights_4 G d s (l1 + (33 - x23)) ((i : Int) + 1) M22 (wesX M s g un))) := by
    intro c gr ec g1 g2 gm
    have wo : ∀ w : Nat, wtA9 gr w → weC M s g i w := fun w hw => ⟨k, lo, hi', gr, e1, e2, e3, by rw [← ec]; exact gm, g1, hw⟩
    rw [show ((i : Int) + 1) = ((i + 1 : Nat) : Int) by omega]
    by_cases z : gr = 1
    · rw [z, show (1 : Int) - 1 = 0 by decide]
      refine (s_nlz0 (d := d) o).mono (fun x M' q => ?_)
      rw [q.1, q.2]
      refine ⟨⟨by decide, by decide⟩, o, ?_⟩
      have := hQ 1 (by decide) (wo 1 (by rw [z]; exact wt_1))
      rw [show l1 + (33 - 32) = l1 + ((1 : Nat) : Int) by omega]
      exact this
    · refine (s_nlz (d := d) (show 0 < gr - 1 by omega) ⟨by omega, by omega⟩ o).mono (fun x M' q => ?_)
      obtain ⟨e, kk, ek, k31, q1, q2⟩ := q
      rw [e, ek]
      refine ⟨⟨by omega, by omega⟩, o, ?_⟩
      have p1 : (2 : Int) ^ (33 - kk) = 2 ^ (32 - kk) * 2 := by rw [show 33 - kk = (32 - kk) + 1 by omega, Int.pow_succ]
      have p2 : (2 : Int) ^ (32 - kk) = 2 ^ (31 - kk) * 2 := by rw [show 32 - kk = (31 - kk) + 1 by omega, Int.pow_succ]
      have w1 : wtA9 gr (33 - kk) := ⟨by rw [p1]; omega, fun v hv => by
        have := p2m9 (32 - kk) v (by omega)
        omega⟩
      have := hQ (33 - kk) (by omega) (wo _ w1)
      rw [show l1 + (33 - ((kk : Nat) : Int)) = l1 + ((33 - kk : Nat) : Int) by omega]
      exact this
  intro t
  induction t with
  | zero =>
    intro c gr h1 h2 h3 g1 g2 gm
    refine k_So_weights_27 o ⟨by omega, by omega⟩ ⟨by omega, by omega⟩ ⟨by omega, by omega⟩ ⟨by omega, by omega⟩ ?_
    rw [r8, n8, r6, n6, Int.toNat_natCast, e1, Int.toNat_natCast, e3]
    exact ⟨s0, k8, ⟨by omega, by omega⟩, k6, ⟨by omega, by omega⟩, fun _ => fin c gr (by omega) g1 g2 gm, fun u => absurd (by omega) u⟩
  | succ t ih =>
    intro c gr h1 h2 h3 g1 g2 gm
    refine k_So_weights_27 o ⟨by omega, by omega⟩ ⟨by omega, by omega⟩ ⟨by omega, by omega⟩ ⟨by omega, by omega⟩ ?_
    rw [r8, n8, r6, n6, Int.toNat_natCast, e1, Int.toNat_natCast, e3]
    refine ⟨s0, k8, ⟨by omega, by omega⟩, k6, ⟨by omega, by omega⟩, fun u => fin c gr (by omega) g1 g2 gm, fun u => ?_⟩
    obtain ⟨x, y, mu, -, -, -, -, -, e6, mu1, mu2, -⟩ := hT.2.1 c (by omega)
    rw [r3, q6, m6, Int.toNat_natCast, show ((c : Int) + 1) = ((c + 1 : Nat) : Int) by omega, e6]
    refine ⟨g0, gk 6 (by decide) (by decide), ⟨by omega, by omega⟩, ih (c + 1) _ (by omega) (by omega) (by omega) ?_ ?_ ?_⟩
    · split <;> omega
    · split <;> omega
    · refine gm.step h2 e6 ?_
      split <;> omega
theorem x_So_weights (hg : SG M s g cn cc bc) (hL : LHs M s cn cc) (hU : Unk M s cn un) : Ci G y_So_weights (d + 1) [vr s] M (wesX M s g un) := by
  obtain ⟨o, ⟨⟨s0, gs⟩, ⟨-, -, -, r3, -, r5, r6, -, r8, -⟩, ⟨-, -, k5, k6, -, k8, -⟩, ⟨-, -, n5, n6, -, n8, -⟩⟩, -, -, hT⟩ := id hg
  obtain ⟨hc1, hc2, hc3⟩ := hT.1
  obtain ⟨u1, u2, u3, u4⟩ := id hU
  refine k_So_weights o ?_
  suffices HH : ∀ (t i : Nat) (wt : Nat → Nat), un ≤ i + t → i ≤ un → (∀ j, j < i → weC M s g j (wt j) ∧ wt j ≤ 33) → wsu wt i ≤ 33 * i → h_So_weights_4 G d s ((wsu wt i : Nat) : Int) i M (wesX M s g un) from HH un 0 (fun _ => 0) (by omega) (by omega) (fun j hj => absurd hj (by omega)) (by decide)
  intro t
  induction t with
  | zero =>
    intro i wt h1 h2 hw hb
    have ei : i = un := by omega
    subst ei
    refine k_So_weights_4 o ⟨by omega, by omega⟩ ⟨by omega, by omega⟩ ?_
    rw [u1]
    exact ⟨s0, fun _ => ⟨rfl, wt, rfl, hw⟩, fun u => absurd (Int.le_refl _) u⟩
  | succ t ih =>
    intro i wt h1 h2 hw hb
    by_cases ei : i = un
    · exact ih i wt (by omega) h2 hw hb
    have hi : i < un := by omega
    obtain ⟨k, c, lo, hi', e1, hk, e4, e2, e3, l1, l2⟩ := u4 i hi
    obtain ⟨lo', hi2, f1, f2, f3, f4⟩ := hL k hk
    refine k_So_weights_4 o ⟨by omega, by omega⟩ ⟨by omega, by omega⟩ ?_
    rw [u1, r8, n8, r5, n5, Int.toNat_natCast, e1, Int.toNat_natCast, e2]
    refine ⟨s0, fun u => absurd u (by omega), fun _ => ⟨k8, ⟨by omega, by omega⟩, k5, ⟨by omega, by omega⟩, ?_⟩⟩
    refine x_wgh27 hg hL hU hi ⟨by omega, by omega⟩ e1 hk e2 e3 ⟨by omega, by omega⟩ (fun w w33 wo => ?_) (hi' - lo) lo 1 (by omega) (Nat.le_refl _) (by omega) (by decide) (by decide) ⟨fun c' h1 h2 => absurd h2 (by omega), Or.inl rfl⟩
    have cg : wsu (fun j => if j = i then w else wt j) i = wsu wt i := wsu_cg i (fun j hj => by rw [if_neg (by omega)])
    have sm : wsu (fun j => if j = i then w else wt j) (i + 1) = wsu wt i + w := by
      show wsu (fun j => if j = i then w else wt j) i + (if i = i then w else wt i) = _
      rw [cg, if_pos rfl]
    have := ih (i + 1) (fun j => if j = i then w else wt j) (by omega) (by omega) (fun j hj => by
      by_cases cj : j = i
      · show weC M s g j (if j = i then w else wt j) ∧ (if j = i then w else wt j) ≤ 33
        rw [if_pos cj, cj]; exact ⟨wo, w33⟩
      · show weC M s g j (if j = i then w else wt j) ∧ (if j = i then w else wt j) ≤ 33
        rw [if_neg cj]; exact hw j (by omega)) (by rw [sm]; omega)
    rw [sm] at this
    rw [show ((wsu wt i : Nat) : Int) + ((w : Nat) : Int) = ((wsu wt i + w : Nat) : Int) by omega]
    exact this
end NBW
end
section
/-! The class's unknown states are the least closed set. -/
section NCS
variable {T : xt9} {J J' : Nat → Prop} {x : Int × List sc9} {s g cn cc bc k lo hi un : Nat} {M M0 M' : mM} {r : Int}
/-- the game's tables, with the commands that are left, are T's -/
def ClT (M : mM) (s g cn : Nat) (T : xt9) : Prop := T.length = cn ∧ ∀ (k : Nat) (x : Int × List sc9), T[k]? = some x → mI M (g + 2) k = x.1 ∧ (x.1 = 1 ∨ x.1 = 2 ∨ x.2 = []) ∧ ∃ lo : Nat, mI M (s + 122) k = ((lo : Nat) : Int) ∧ mI M (s + 123) k = ((lo + x.2.length : Nat) : Int) ∧ ∀ (i : Nat) (c : sc9), x.2[i]? = some c → mI M (g + 6) (lo + i) = c.2.1 ∧ (∀ b, b ∈ c.2.2 → b.1 < cn) ∧ ∀ J : Nat → Prop, (∃ j : Nat, mI M (g + 7) (lo + i) ≤ j ∧ (j : Int) < mI M (g + 7) (lo + i + 1) ∧ J (mI M (g + 8) j).toNat) ↔ ldA9 J c
def coG (J : Nat → Prop) (M : mM) (g k lo hi : Nat) : Prop := (mI M (g + 2) k = 1 ∧ ∃ c : Nat, lo ≤ c ∧ c < hi ∧ ∃ j : Nat, mI M (g + 7) c ≤ j ∧ (j : Int) < mI M (g + 7) (c + 1) ∧ J (mI M (g + 8) j).toNat) ∨ (mI M (g + 2) k ≠ 1 ∧ lo < hi ∧ ∀ c : Nat, lo ≤ c → c < hi → ∃ j : Nat, mI M (g + 7) c ≤ j ∧ (j : Int) < mI M (g + 7) (c + 1) ∧ J (mI M (g + 8) j).toNat)
theorem coG_iff (h : ClT M s g cn T) (hx : T[k]? = some x) (h1 : mI M (s + 122) k = ((lo : Nat) : Int)) (h2 : mI M (s + 123) k = ((hi : Nat) : Int)) : coG J M g k lo hi ↔ coA9 J x := by
  obtain ⟨a1, a2, l, a3, a4, a5⟩ := h.2 k x hx
  have el : l = lo := by rw [h1] at a3; omega
  subst el
  have eh : hi = l + x.2.length := by rw [h2] at a4; omega
  subst eh
  unfold coG coA9
  rw [a1]
  constructor
  · intro u
    rcases u with ⟨u1, c, u2, u3, u4⟩ | ⟨u1, u2, u3⟩
    · have g9 := List.getElem?_eq_getElem (l := x.2) (i := c - l) (by omega)
      have e : l + (c - l) = c := by omega
      have q := (a5 (c - l) _ g9).2.2 J
      rw [e] at q
      exact Or.inl ⟨u1, _, List.mem_of_getElem? g9, q.mp u4⟩
    · refine Or.inr ⟨?_, fun e => by rw [e] at u2; exact absurd u2 (by simp), fun c hc => ?_⟩
      · rcases a2 with y | y | y
        · exact absurd y u1
        · exact y
        · rw [y] at u2
          exact absurd u2 (by simp)
      · obtain ⟨i, hi⟩ := List.getElem?_of_mem hc
        have lt := lt_some hi
        exact ((a5 i c hi).2.2 J).mp (u3 (l + i) (by omega) (by omega))
  · intro u
    rcases u with ⟨u1, c, hc, u2⟩ | ⟨u1, u2, u3⟩
    · obtain ⟨i, hi⟩ := List.getElem?_of_mem hc
      have lt := lt_some hi
      exact Or.inl ⟨u1, l + i, by omega, by omega, ((a5 i c hi).2.2 J).mpr u2⟩
    · have ne : x.2.length ≠ 0 := fun e => u2 (List.length_eq_zero_iff.mp e)
      refine Or.inr ⟨by rw [u1]; decide, by omega, fun c c1 c2 => ?_⟩
      have g9 := List.getElem?_eq_getElem (l := x.2) (i := c - l) (by omega)
      have e : l + (c - l) = c := by omega
      have q := (a5 (c - l) _ g9).2.2 J
      rw [e] at q
      exact q.mpr (u3 _ (List.mem_of_getElem? g9))
theorem coA9.mono2 (h : coA9 J x) (m : ∀ c, c ∈ x.2 → ∀ b, b ∈ c.2.2 → J b.1 → J' b.1) : coA9 J' x := by
  rcases h with ⟨h1, c, h2, b, h3, h4⟩ | ⟨h1, h2, h3⟩
  · exact Or.inl ⟨h1, c, h2, b, h3, m c h2 b h3 h4⟩
  · refine Or.inr ⟨h1, h2, fun c hc => ?_⟩
    obtain ⟨b, h4, h5⟩ := h3 c hc
    exact ⟨b, h4, m c hc b h4 h5⟩
/-- marked states lie in every closed set -/
theorem cl_inn (h : ClT M s g cn T) (hs : Slo M s un) (c5 : cn ≤ 512) (hb : mkB M s g cn) (hc : clA9 T J') : ∀ k, (k < cn ∧ jmk M s g k) → J' k := by
  refine rk_in (J := fun k => k < cn ∧ jmk M s g k) (fun k => if mI M (g + 2) k = 3 then 0 else (mI M (s + 124) k).toNat + 1) (fun k hJ => ?_) hc
  obtain ⟨lt, hj⟩ := hJ
  have hx := List.getElem?_eq_getElem (l := T) (i := k) (by rw [h.1]; exact lt)
  refine ⟨_, hx, ?_⟩
  obtain ⟨a1, a2, l, a3, a4, a5⟩ := h.2 k _ hx
  by_cases z : mI M (g + 2) k = 3
  · exact Or.inl (by rw [← a1]; exact z)
  · have sl : mI M (s + 124) k ≠ -1 := hj.resolve_right z
    obtain ⟨lo, hi, ⟨l1, l2⟩, l3⟩ := hb k lt sl
    have sk := (hs k (by omega)).resolve_left sl
    refine Or.inr (((coG_iff (J := jmb M s g (mI M (s + 124) k)) h hx l1 l2).mp l3).mono2 (fun c hc b hb9 w => ?_))
    obtain ⟨i, hi9⟩ := List.getElem?_of_mem hc
    have lb := (a5 i c hi9).2.1 b hb9
    refine ⟨⟨lb, ?_⟩, ?_⟩
    · rcases w with w | w
      · exact Or.inl w.1
      · exact Or.inr w
    · show (if mI M (g + 2) b.1 = 3 then 0 else (mI M (s + 124) b.1).toNat + 1) < (if mI M (g + 2) k = 3 then 0 else (mI M (s + 124) k).toNat + 1)
      rw [if_neg z]
      by_cases y : mI M (g + 2) b.1 = 3
      · rw [if_pos y]
        omega
      · rw [if_neg y]
        have w' := w.resolve_right y
        have sb := (hs b.1 (by omega)).resolve_left w'.1
        omega
/-- all are found: the marks and the targets are the least closed set -/
theorem cl_ls (h : ClT M s g cn T) (hs : Slo M s un) (c5 : cn ≤ 512) (hb : mkB M s g cn) (hn : noM M s g cn 0) : lsA9 T (fun k => k < cn ∧ jmk M s g k) := by
  refine ⟨fun k x hx u => ?_, fun J' hc => cl_inn h hs c5 hb hc⟩
  have lt : k < cn := by rw [← h.1]; exact lt_some hx
  obtain ⟨a1, a2, l, a3, a4, a5⟩ := h.2 k x hx
  refine ⟨lt, ?_⟩
  rcases u with u | u
  · exact Or.inr (by rw [a1]; exact u)
  · refine Or.inl (fun z => ?_)
    exact hn k (Nat.zero_le _) lt z l _ a3 a4 ((coG_iff (J := jmk M s g) h hx a3 a4).mpr (u.mono (fun j hj => hj.2)))
end NCS
end
section
/-! The class's answer is what the least closed set says. -/
section NCR
variable {T : xt9} {J J' : Nat → Prop} {x : Int × List sc9} {s g cn cc bc k lo hi un : Nat} {M M0 M' : mM} {r : Int}
theorem sm_one : ∀ n, sm (fun _ => 1) n = ((n : Nat) : Int)
  | 0 => rfl
  | n + 1 => by
    show sm (fun _ => 1) n + 1 = _
    rw [sm_one n]
    omega
theorem sm_pos {f : Nat → Int} : ∀ n, 0 < sm f n → ∃ i, i < n ∧ f i ≠ 0
  | 0, h => absurd (show (0 : Int) < 0 from h) (by decide)
  | n + 1, h => by
    by_cases c : f n = 0
    · have h' : 0 < sm f n := by
        have : 0 < sm f n + f n := h
        omega
      obtain ⟨i, a, b⟩ := sm_pos n h'
      exact ⟨i, by omega, b⟩
    · exact ⟨n, by omega, c⟩
theorem sm_ge {f : Nat → Int} {k : Nat} (h : ∀ j, 0 ≤ f j) : ∀ n, k < n → f k ≤ sm f n
  | 0, u => absurd u (by omega)
  | n + 1, u => by
    have p : 0 ≤ sm f n := by
      clear u
      induction n with
      | zero => exact Int.le_refl _
      | succ n ih =>
        show 0 ≤ sm f n + f n
        have := h n
        omega
    show f k ≤ sm f n + f n
    by_cases c : k = n
    · rw [c]
      omega
    · have := sm_ge (k := k) h n (by omega)
      have := h n
      omega
/-- the unknown states are just the marked ones -/
theorem un_of (hm : smU M s cn un) (hk : k < cn) (h : mI M (s + 124) k ≠ -1) : ∃ i, i < un ∧ (mI M (s + 125) i).toNat = k := by
  have e := hm (fun j => if j = k then 1 else 0)
  have p : 0 < sm (fun i => if (mI M (s + 125) i).toNat = k then (1 : Int) else 0) un := by
    rw [e]
    have q := sm_ge (f := fun j => if mI M (s + 124) j = -1 then 0 else if j = k then (1 : Int) else 0) (k := k) (fun j => by
      show 0 ≤ (if mI M (s + 124) j = -1 then 0 else if j = k then (1 : Int) else 0)
      split
      · omega
      · split <;> omega) cn hk
    have q2 : (if mI M (s + 124) k = -1 then 0 else if k = k then (1 : Int) else 0) ≤ sm (fun j => if mI M (s + 124) j = -1 then 0 else if j = k then (1 : Int) else 0) cn := q
    rw [if_neg h, if_pos rfl] at q2
    omega
  obtain ⟨i, a, b⟩ := sm_pos un p
  refine ⟨i, a, Classical.byContradiction (fun u => b (if_neg u))⟩
theorem mk_kd (h : ClT M s g cn T) (hb : mkB M s g cn) (hx : T[k]? = some x) (u : mI M (s + 124) k ≠ -1) : x.1 = 1 ∨ x.1 = 2 := by
  have lt : k < cn := by rw [← h.1]; exact lt_some hx
  obtain ⟨lo, hi, ⟨l1, l2⟩, l3⟩ := hb k lt u
  rcases (coG_iff (J := jmb M s g (mI M (s + 124) k)) h hx l1 l2).mp l3 with y | y
  · exact Or.inl y.1
  · exact Or.inr y.1
theorem cl_un (h : ClT M s g cn T) (hb : mkB M s g cn) : unA9 T (fun k => k < cn ∧ jmk M s g k) (fun k => if mI M (s + 124) k = -1 then 0 else 1) := fun k x hx => by
  have lt : k < cn := by rw [← h.1]; exact lt_some hx
  obtain ⟨a1, -⟩ := h.2 k x hx
  refine ⟨fun u => ?_, fun u => ?_⟩
  · show (if mI M (s + 124) k = -1 then (0 : Int) else 1) = 1
    rcases u.1.2 with y | y
    · rw [if_neg y]
    · exact absurd (a1.symm.trans y) u.2
  · show (if mI M (s + 124) k = -1 then (0 : Int) else 1) = 0
    by_cases z : mI M (s + 124) k = -1
    · rw [if_pos z]
    · refine absurd ⟨⟨lt, Or.inl z⟩, ?_⟩ u
      rcases mk_kd h hb hx z with y | y <;> rw [y] <;> decide
/-- a refusal: there are 40, and one more -/
theorem cl_many (h : ClT M s g cn T) (hs : Slo M s 40) (c5 : cn ≤ 512) (hb : mkB M s g cn) (hm : smU M s cn 40) (hk : k < cn) (k0 : mI M (s + 124) k = -1) (l1 : mI M (s + 122) k = ((lo : Nat) : Int)) (l2 : mI M (s + 123) k = ((hi : Nat) : Int)) (hc : coC M s g k lo hi) (inn : ∀ J', clA9 T J' → ∀ j, j < cn → jmk M s g j → J' j) : svA9 T 5 := by
  obtain ⟨e, he⟩ := un_ex (T := T) (fun k => ∀ J', clA9 T J' → J' k)
  refine ⟨_, e, ls_ex, he, Or.inl ⟨?_, rfl⟩⟩
  have o := hm (fun _ => 1)
  rw [sm_one] at o
  obtain ⟨xk, hx⟩ : ∃ y, T[k]? = some y := ⟨_, List.getElem?_eq_getElem (by rw [h.1]; exact hk)⟩
  have ck := (coG_iff (J := jmk M s g) h hx l1 l2).mp hc
  obtain ⟨a1, a2, l, a3, a4, a5⟩ := h.2 k _ hx
  have u := sm_up9 (h := fun k => if mI M (s + 124) k = -1 then (0 : Int) else 1) (h' := fun j => if j = k then 1 else if mI M (s + 124) j = -1 then 0 else 1) (k := k) (v := 1) (by show (if mI M (s + 124) k = -1 then (0 : Int) else 1) = 0; rw [if_pos k0]) (by show (if k = k then (1 : Int) else _) = 1; rw [if_pos rfl]) (fun j hj => by show (if j = k then (1 : Int) else if mI M (s + 124) j = -1 then 0 else 1) = _; rw [if_neg hj]) cn hk
  have le : sm (fun j => if j = k then (1 : Int) else if mI M (s + 124) j = -1 then 0 else 1) cn ≤ sm e cn := sm_le9 cn (fun j hj => by
    obtain ⟨y9, hy⟩ : ∃ y, T[j]? = some y := ⟨_, List.getElem?_eq_getElem (by rw [h.1]; exact hj)⟩
    have hj9 := he j _ hy
    have e0 : 0 ≤ e j := by
      by_cases z : (∀ J', clA9 T J' → J' j) ∧ y9.1 ≠ 3
      · rw [hj9.1 z]; decide
      · rw [hj9.2 z]; decide
    show (if j = k then (1 : Int) else if mI M (s + 124) j = -1 then 0 else 1) ≤ e j
    by_cases c9 : j = k
    · have ey : y9 = xk := by
        rw [c9] at hy
        exact Option.some.inj (hy.symm.trans hx)
      have u1 : (∀ J', clA9 T J' → J' j) ∧ y9.1 ≠ 3 := by
        refine ⟨fun J' hc9 => hc9 j y9 hy (Or.inr ?_), ?_⟩
        · rw [ey]
          refine ck.mono2 (fun c h1 b h2 h3 => ?_)
          obtain ⟨i, hi9⟩ := List.getElem?_of_mem h1
          exact inn J' hc9 b.1 ((a5 i c hi9).2.1 b h2) h3
        · rw [ey]
          rcases ck with y | y <;> rw [y.1] <;> decide
      rw [if_pos c9, hj9.1 u1]
      exact Int.le_refl _
    · rw [if_neg c9]
      by_cases z : mI M (s + 124) j = -1
      · rw [if_pos z]; exact e0
      · have u1 : (∀ J', clA9 T J' → J' j) ∧ y9.1 ≠ 3 := ⟨fun J' hc9 => inn J' hc9 j hj (Or.inl z), by rcases mk_kd h hb hy z with y | y <;> rw [y] <;> decide⟩
        rw [if_neg z, hj9.1 u1]
        exact Int.le_refl _)
  rw [h.1]
  omega
end NCR
end
section
/-! The class's answer where it is not refused for the number of unknown states. -/
section NCQ
variable {T : xt9} {x : Int × List sc9} {s g cn cc bc k lo hi un : Nat} {M : mM} {r : Int}
theorem gm_iff {gr : Int} (h : ClT M s g cn T) (hx : T[k]? = some x) (h1 : mI M (s + 122) k = ((lo : Nat) : Int)) (h2 : mI M (s + 123) k = ((hi : Nat) : Int)) (hg : gmC M g lo hi gr) (g1 : 1 ≤ gr) : gmA9 x.2 gr := by
  obtain ⟨-, -, l, a3, a4, a5⟩ := h.2 k x hx
  have el : l = lo := by rw [h1] at a3; omega
  subst el
  have eh : hi = l + x.2.length := by rw [h2] at a4; omega
  subst eh
  refine ⟨g1, fun c hc => ?_, ?_⟩
  · obtain ⟨i, hi9⟩ := List.getElem?_of_mem hc
    have lt := lt_some hi9
    rw [← (a5 i c hi9).1]
    exact hg.1 (l + i) (by omega) (by omega)
  · rcases hg.2 with y | ⟨c, c1, c2, c3⟩
    · exact Or.inl y
    · have g9 := List.getElem?_eq_getElem (l := x.2) (i := c - l) (by omega)
      have e : l + (c - l) = c := by omega
      have q := (a5 (c - l) _ g9).1
      rw [e] at q
      exact Or.inr ⟨_, List.mem_of_getElem? g9, q.symm.trans c3⟩
theorem wsu_sm {f : Nat → Nat} : ∀ n, ((wsu f n : Nat) : Int) = sm (fun i => ((f i : Nat) : Int)) n
  | 0 => rfl
  | n + 1 => by
    show ((wsu f n + f n : Nat) : Int) = sm (fun i => ((f i : Nat) : Int)) n + ((f n : Nat) : Int)
    rw [← wsu_sm n]
    omega
theorem cl_few {wt : Nat → Nat} (h : ClT M s g cn T) (hs : Slo M s un) (c5 : cn ≤ 512) (u40 : un ≤ 40) (hb : mkB M s g cn) (hm : smU M s cn un) (hn : noM M s g cn 0) (hk : ∀ i, i < un → ∃ k, mI M (s + 125) i = ((k : Nat) : Int) ∧ k < cn) (hw : ∀ i, i < un → weC M s g i (wt i)) (hr : (480 < ((wsu wt un : Nat) : Int) ∧ r = 6) ∨ (((wsu wt un : Nat) : Int) ≤ 480 ∧ r = 0)) : svA9 T r := by
  have ex : ∀ k : Nat, ∃ v : Int, (mI M (s + 124) k = -1 → v = 0) ∧ (mI M (s + 124) k ≠ -1 → ∀ x, T[k]? = some x → weA9 x v) := fun k => by
    by_cases z : mI M (s + 124) k = -1
    · exact ⟨0, fun _ => rfl, fun u => absurd z u⟩
    by_cases lt : k < cn
    · obtain ⟨i, i1, i2⟩ := un_of hm lt z
      obtain ⟨k', lo, hi, gr, w1, w2, w3, w4, w5, w6⟩ := hw i i1
      have ek : k' = k := by rw [w1, Int.toNat_natCast] at i2; exact i2
      subst ek
      exact ⟨((wt i : Nat) : Int), fun u => absurd u z, fun _ x hx => ⟨gr, wt i, gm_iff h hx w2 w3 w4 w5, w6, rfl⟩⟩
    · exact ⟨0, fun u => absurd u z, fun _ x hx => absurd (by rw [← h.1]; exact lt_some hx) lt⟩
  obtain ⟨w, hw9⟩ := Classical.axiomOfChoice ex
  have es : sm (fun k => if mI M (s + 124) k = -1 then (0 : Int) else 1) cn = ((un : Nat) : Int) := by rw [← hm (fun _ => 1), sm_one]
  have ws : sm w cn = ((wsu wt un : Nat) : Int) := by
    have a : sm (fun k => if mI M (s + 124) k = -1 then 0 else w k) cn = sm w cn := sm_congr cn (fun k _ => by
      show (if mI M (s + 124) k = -1 then 0 else w k) = w k
      by_cases z : mI M (s + 124) k = -1
      · rw [if_pos z, (hw9 k).1 z]
      · rw [if_neg z])
    rw [wsu_sm, ← a, ← hm w]
    refine sm_congr un (fun i hi => ?_)
    obtain ⟨k', lo, hi', gr, w1, w2, w3, w4, w5, w6⟩ := hw i hi
    obtain ⟨k2, q1, q2⟩ := hk i hi
    have e2 : k2 = k' := by rw [w1] at q1; omega
    subst e2
    show w (mI M (s + 125) i).toNat = ((wt i : Nat) : Int)
    rw [w1, Int.toNat_natCast]
    obtain ⟨x, hx⟩ : ∃ x, T[k2]? = some x := ⟨_, List.getElem?_eq_getElem (by rw [h.1]; exact q2)⟩
    have nz : mI M (s + 124) k2 ≠ -1 := fun z => by
      have e := hm (fun j => if j = k2 then 1 else 0)
      have p := sm_ge (f := fun i => if (mI M (s + 125) i).toNat = k2 then (1 : Int) else 0) (k := i) (fun j => by
        show 0 ≤ (if (mI M (s + 125) j).toNat = k2 then (1 : Int) else 0)
        split <;> omega) un hi
      have p2 : (if (mI M (s + 125) i).toNat = k2 then (1 : Int) else 0) ≤ sm (fun i => if (mI M (s + 125) i).toNat = k2 then (1 : Int) else 0) un := p
      rw [w1, Int.toNat_natCast, if_pos rfl, e] at p2
      obtain ⟨j, j1, j2⟩ := sm_pos cn (show 0 < sm (fun k => if mI M (s + 124) k = -1 then 0 else if k = k2 then (1 : Int) else 0) cn by omega)
      refine j2 ?_
      show (if mI M (s + 124) j = -1 then 0 else if j = k2 then (1 : Int) else 0) = 0
      by_cases c9 : j = k2
      · rw [c9, if_pos z]
      · rw [if_neg c9]
        split <;> rfl
    exact ((hw9 k2).2 nz x hx).same ⟨gr, wt i, gm_iff h hx w2 w3 w4 w5, w6, rfl⟩
  refine ⟨_, _, cl_ls h hs c5 hb hn, cl_un h hb, Or.inr ⟨by rw [h.1, es]; omega, w, fun k x hx => ⟨fun u => ?_, fun u => ?_⟩, by rw [h.1, ws]; exact hr⟩⟩
  · refine (hw9 k).2 (fun z => ?_) x hx
    have u' : (if mI M (s + 124) k = -1 then (0 : Int) else 1) = 1 := u
    rw [if_pos z] at u'
    exact absurd u' (by decide)
  · refine (hw9 k).1 (Classical.byContradiction (fun z => ?_))
    have u' : (if mI M (s + 124) k = -1 then (0 : Int) else 1) = 0 := u
    rw [if_neg z] at u'
    exact absurd u' (by decide)
end NCQ
end
section
/-! The class's tables, with all commands left, are those of what was explored. -/
section NCT
variable {T : xt9} {s g cn cc bc k i un : Nat} {M M' : mM}
theorem weC.wto {w : Nat} (h : weC M s g i w) : wtO M s g i w := by
  obtain ⟨k, lo, hi, gr, a1, a2, a3, a4, a5, a6⟩ := h
  intro k' lo' hi' c e1 e2 e3 c1 c2
  have ek : k' = k := by rw [a1] at e1; omega
  subst ek
  have el : lo' = lo := by rw [a2] at e2; omega
  have eh : hi' = hi := by rw [a3] at e3; omega
  subst el
  subst eh
  have b1 := a4.1 c c1 c2
  have b2 := a6.1
  omega
theorem clt_of (hT : GTT M g cn cc bc) (lx : ∀ k, k < cn → mI M' (s + 122) k = mI M (g + 4) k ∧ mI M' (s + 123) k = mI M (g + 4) (k + 1)) (e : ∀ i, i ≤ 9 → mI M' (g + i) = mI M (g + i)) (hk : kdT (xtm M g cn)) : ClT M' s g cn (xtm M g cn) := by
  refine ⟨by rw [xtm_map, List.length_map, List.length_range], fun k x hx => ?_⟩
  rw [xtm_map, rget] at hx
  by_cases hk9 : k < cn
  · rw [if_pos hk9] at hx
    have ex := Option.some.inj hx
    have kk := hk x (by rw [xtm_map]; exact List.mem_map.mpr ⟨k, List.mem_range.mpr hk9, ex⟩)
    obtain ⟨lo, hi, f1, f2, f3, f4⟩ := hT.2.2.1 k hk9
    have l2 : x.2 = cml M g lo (hi - lo) := by
      rw [← ex]
      unfold stm
      rw [f1, f2, Int.toNat_natCast, Int.toNat_natCast]
    have len : x.2.length = hi - lo := by rw [l2, cml_map, List.length_map, List.length_range]
    refine ⟨by rw [e 2 (by decide), ← ex]; rfl, kk, lo, by rw [(lx k hk9).1, f1], by rw [(lx k hk9).2, f2, len]; omega, fun i c hc => ?_⟩
    rw [l2, cml_map, rget] at hc
    by_cases hi9 : i < hi - lo
    · rw [if_pos hi9] at hc
      have ec := Option.some.inj hc
      obtain ⟨a, b, mu, c1, c2, c3, c4, c5, -⟩ := hT.2.1 (lo + i) (by omega)
      have bl : c.2.2 = (List.range (b - a)).map (fun t => ((mI M (g + 8) (a + t)).toNat, mI M (g + 9) (a + t))) := by
        rw [← ec]
        unfold cmm
        rw [c1, c2, Int.toNat_natCast, Int.toNat_natCast, brl_map]
      refine ⟨by rw [e 6 (by decide), ← ec]; rfl, fun y hy => ?_, fun J => ?_⟩
      · rw [bl] at hy
        obtain ⟨t, t1, t2⟩ := List.mem_map.mp hy
        have t3 := List.mem_range.mp t1
        have t4 := c5 (a + t) (by omega) (by omega)
        rw [← t2]
        show (mI M (g + 8) (a + t)).toNat < cn
        omega
      · rw [e 7 (by decide), e 8 (by decide), c1, c2]
        unfold ldA9
        rw [bl]
        constructor
        · rintro ⟨j, u1, u2, u3⟩
          refine ⟨_, List.mem_map.mpr ⟨j - a, List.mem_range.mpr (by omega), rfl⟩, ?_⟩
          show J (mI M (g + 8) (a + (j - a))).toNat
          rw [show a + (j - a) = j by omega]
          exact u3
        · rintro ⟨y, y1, y2⟩
          obtain ⟨t, t1, t2⟩ := List.mem_map.mp y1
          have t3 := List.mem_range.mp t1
          refine ⟨a + t, by omega, by omega, ?_⟩
          rw [← t2] at y2
          exact y2
    · rw [if_neg hi9] at hc
      cases hc
  · rw [if_neg hk9] at hx
    cases hx
end NCT
end
