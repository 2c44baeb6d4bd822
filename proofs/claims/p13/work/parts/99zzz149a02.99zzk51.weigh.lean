/-! The class's game: a command's chances are weighed. -/
section GAC
variable {G : mG} {d z g p O P K V F L cnt U Ab Be C Ab0 Be0 C0 s h t c cn k u v cc : Nat} {M0 M M' M1 M2 : mM} {ns : Nat → Int} {sf ef : Nat → Nat} {H : Nat → Nat} {S R : Nat → Prop}
/-- what chances sum up to, times mu -/
def shS (M : mM) (g : Nat) (mu : Int) : Nat → Int
  | 0 => 0
  | b + 1 => shS M g mu b + Int.tdiv mu (mI M (g + 22) b) * mI M (g + 21) b
/-- chances of n branches -/
def chz (M : mM) (g n : Nat) : Prop := ∀ b, b < n → 0 ≤ mI M (g + 21) b ∧ mI M (g + 21) b ≤ mI M (g + 22) b ∧ 1 ≤ mI M (g + 22) b ∧ mI M (g + 22) b < 1000000000
/-- what stays when chances are weighed -/
def wgF (M : mM) (g : Nat) (M' : mM) : Prop := (∀ i, i ≠ 10 → mI M' g i = mI M g i) ∧ (∀ i, 1 ≤ i → i ≤ 9 → i ≠ 6 → mI M' (g + i) = mI M (g + i)) ∧ mI M' (g + 20) = mI M (g + 20) ∧ (∀ i, i ≠ (mI M g 12).toNat → mI M' (g + 6) i = mI M (g + 6) i) ∧ mI M' (g + 10) 9 = mI M (g + 10) 9
theorem wgF.refl : wgF M g M := ⟨fun _ _ => rfl, fun _ _ _ _ => rfl, rfl, fun _ _ => rfl, rfl⟩
theorem wgF.trans (f : wgF M g M1) (k : wgF M1 g M2) : wgF M g M2 := by
  obtain ⟨f1, f2, f3, f4, f5⟩ := f
  obtain ⟨g1, g2, g3, g4, g5⟩ := k
  exact ⟨fun i hi => by rw [g1 i hi, f1 i hi], fun i a b c => by rw [g2 i a b c, f2 i a b c], by rw [g3, f3], fun i hi => by rw [g4 i (by rw [f1 12 (by decide)]; exact hi), f4 i hi], by rw [g5, f5]⟩
theorem PG.fbm {Bn : Nat} (hg : PG M p O P V F ns sf ef L cnt Bn) : ∀ (t j : Nat), j + t = cnt → ∃ x y : Nat, mI M (p + 12) j = ((x : Nat) : Int) ∧ mI M (p + 12) cnt = ((y : Nat) : Int) ∧ x ≤ y ∧ y ≤ Bn ∧ y ≤ 8 * cnt
  | 0, j, hj => by
    obtain ⟨y, e1, e2, e3⟩ := hg.2.2.2.2.2.1
    have : j = cnt := by omega
    subst this
    exact ⟨y, y, e1, e1, Nat.le_refl _, e2, e3⟩
  | t + 1, j, hj => by
    obtain ⟨x, y, e1, e2, e3, e4, e5⟩ := PG.fbm hg t (j + 1) (by omega)
    obtain ⟨a, b, f1, f2, f3, f4⟩ := hg.2.2.2.2.1 j (by omega)
    rw [e1] at f2
    exact ⟨a, y, f1, e2, by omega, e4, e5⟩
/-- a command of the program -/
theorem PW.cmd (hp : PW M z p O P K V F ns sf ef L cnt) (hc : c < cnt) : ∃ u v : Nat, mI M (p + 12) c = ((u : Nat) : Int) ∧ mI M (p + 12) (c + 1) = ((v : Nat) : Int) ∧ u ≤ v ∧ v ≤ u + 8 ∧ v ≤ 480 ∧ (∀ b, b < v → ∃ s1 s2 : Nat, mI M (p + 14) b = ((s1 : Nat) : Int) ∧ PC M O P V F ns ef L s1 1 ∧ mI M (p + 15) b = ((s2 : Nat) : Int) ∧ PC M O P V F ns ef L s2 0) ∧ ∃ sg : Nat, mI M (p + 11) c = ((sg : Nat) : Int) ∧ PC M O P V F ns ef L sg 1 := by
  obtain ⟨p1, -, -, -, ⟨-, p9⟩, -, u0, p11, p12⟩ := hp
  obtain ⟨u, v, e1, e2, e3, e4⟩ := p12.2.2.2.2.1 c hc
  obtain ⟨x, y, f1, f2, f3, f4, f5⟩ := p12.fbm (cnt - (c + 1)) (c + 1) (by omega)
  rw [e2] at f1
  obtain ⟨sg, g1, g2⟩ := p12.2.2.1 c hc
  exact ⟨u, v, e1, e2, e3, e4, by omega, fun b hb => p12.2.2.2.2.2.2 b (by omega), sg, g1, g2⟩
end GAC
