/-! The class's Solver: its tables; which commands are left, which states are unknown. -/
section NBN
variable {G : mG} {d s g cn cc bc i k n c lo hi : Nat} {M M0 M' M1 M2 M3 : mM}
/-- the Solver's tables -/
def SoT (M : mM) (s g : Nat) : Prop := (mK M s = 8 ∧ g + 22 < s) ∧ (mR M s 0 = s + 1 ∧ mR M s 1 = s + 29 ∧ mR M s 2 = s + 30 ∧ mR M s 3 = g ∧ mR M s 4 = s + 31 ∧ mR M s 5 = s + 122 ∧ mR M s 6 = s + 123 ∧ mR M s 7 = s + 124 ∧ mR M s 8 = s + 125 ∧ mR M s 9 = s + 126 ∧ mR M s 15 = s + 128 ∧ mR M s 16 = s + 129 ∧ mR M s 17 = s + 130) ∧ (mK M (s + 29) = 30 ∧ mK M (s + 30) = 30 ∧ mK M (s + 122) = 30 ∧ mK M (s + 123) = 30 ∧ mK M (s + 124) = 30 ∧ mK M (s + 125) = 30 ∧ mK M (s + 126) = 30 ∧ mK M (s + 128) = 31 ∧ mK M (s + 129) = 30) ∧ (mN M (s + 29) = 512 ∧ mN M (s + 30) = 512 ∧ mN M (s + 122) = 512 ∧ mN M (s + 123) = 512 ∧ mN M (s + 124) = 512 ∧ mN M (s + 125) = 40 ∧ mN M (s + 126) = 40 ∧ mN M (s + 128) = 4097 ∧ mN M (s + 129) = 512)
theorem SoT.fi {S : Nat → Prop} (h : SoT M s g) (f : FI S M M') : SoT M' s g := by
  unfold SoT at h ⊢
  rw [f.1, f.2.1, f.2.2.1]
  exact h
theorem GK9.fi {S : Nat → Prop} (h : GK9 M g) (f : FI S M M') : GK9 M' g := by
  unfold GK9 at h ⊢
  rw [f.1, f.2.1, f.2.2.1]
  exact h
/-- the Solver's and the game's tables -/
def SG (M : mM) (s g cn cc bc : Nat) : Prop := mOk M ∧ SoT M s g ∧ GK9 M g ∧ (mR M g 3 = g + 3 ∧ mN M (g + 3) = 512) ∧ GTT M g cn cc bc
theorem SG.fi {S : Nat → Prop} (h : SG M s g cn cc bc) (f : FI S M M') (o : mOk M') (hS : ∀ i, i ≤ 9 → ¬ S (g + i)) : SG M' s g cn cc bc := by
  obtain ⟨h1, h2, h3, h4, h5⟩ := h
  exact ⟨o, h2.fi f, h3.fi f, by rw [f.2.1, f.2.2.1]; exact h4, h5.same (fun i hi => f.2.2.2.2.2.2 _ (hS i hi))⟩
/-- each state's commands that are left -/
def LHs (M : mM) (s cn cc : Nat) : Prop := ∀ k, k < cn → ∃ lo hi : Nat, mI M (s + 122) k = ((lo : Nat) : Int) ∧ mI M (s + 123) k = ((hi : Nat) : Int) ∧ lo ≤ hi ∧ hi ≤ cc ∧ hi ≤ lo + 60
/-- the choices of a player that is kept -/
def Tld (M : mM) (g cn : Nat) (kp : Int) : Prop := kp ≠ 0 → ∀ k, k < cn → mI M (g + 2) k = kp → ∀ x y : Nat, mI M (g + 4) k = ((x : Nat) : Int) → mI M (g + 4) (k + 1) = ((y : Nat) : Int) → 0 ≤ mI M (g + 3) k ∧ mI M (g + 3) k < ((y : Nat) : Int) - ((x : Nat) : Int)
def LHx (M M' : mM) (s g n : Nat) : Prop := ∀ k, k < n → mI M' (s + 122) k = mI M (g + 4) k ∧ mI M' (s + 123) k = mI M (g + 4) (k + 1)
def S56 (s x : Nat) : Prop := x = s + 122 ∨ x = s + 123
theorem s_So_leaveCommands {kp : Int} (hkp : i32 kp) (h : SG M s g cn cc bc) (ht : Tld M g cn kp) : Cv G y_So_leaveCommands d [vr s, vi kp] M (fun M' => FI (S56 s) M M' ∧ SG M' s g cn cc bc ∧ LHs M' s cn cc ∧ (kp = 0 → LHx M M' s g cn)) := by
  refine k_So_leaveCommands h.1 hkp ?_
  have gs := h.2.1.1.2
  have nS : ∀ i, i ≤ 9 → ¬ S56 s (g + i) := fun i hi u => by unfold S56 at u; omega
  suffices HH : ∀ (t k : Nat) (M1 : mM), cn ≤ k + t → k ≤ cn → FI (S56 s) M M1 → SG M1 s g cn cc bc → LHs M1 s k cc → (kp = 0 → LHx M M1 s g k) → h_So_leaveCommands_2 G d s kp k M1 (fun M' => FI (S56 s) M M' ∧ SG M' s g cn cc bc ∧ LHs M' s cn cc ∧ (kp = 0 → LHx M M' s g cn)) from HH cn 0 M (by omega) (by omega) FI.refl h (fun k hk => absurd hk (by omega)) (fun _ k hk => absurd hk (by omega))
  intro t
  induction t with
  | zero =>
    intro k M1 h1 h2 F hg L X
    have ek : k = cn := by omega
    subst ek
    obtain ⟨o, ⟨⟨s0, -⟩, ⟨-, -, -, r3, -⟩, -⟩, hG, -, hT⟩ := id hg
    refine k_So_leaveCommands_2 o hkp ⟨by have := hT.1.1; omega, by have := hT.1.1; omega⟩ ?_
    rw [r3, hT.2.2.2]
    exact ⟨s0, hG.1, fun _ => ⟨F, hg, L, X⟩, fun u => absurd (Int.le_refl _) u⟩
  | succ t ih =>
    intro k M1 h1 h2 F hg L X
    by_cases ek : k = cn
    · exact ih k M1 (by omega) h2 F hg L X
    have hk : k < cn := by omega
    obtain ⟨o, ⟨⟨s0, -⟩, ⟨-, -, -, r3, -, r5, r6, -⟩, ⟨-, -, k5, k6, -⟩, ⟨-, -, n5, n6, -⟩⟩, ⟨g0, ⟨q2, q4, -⟩, gk, ⟨m2, m4, -⟩⟩, ⟨q3, m3⟩, hT⟩ := id hg
    obtain ⟨x, y, x1, y1, xy, yc⟩ := hT.2.2.1 k hk
    obtain ⟨hc1, hc2, hc3⟩ := hT.1
    have e2 : mI M1 (g + 2) = mI M (g + 2) := F.2.2.2.2.2.2 _ (nS 2 (by decide))
    have e3 : mI M1 (g + 3) = mI M (g + 3) := F.2.2.2.2.2.2 _ (nS 3 (by decide))
    have e4 : mI M1 (g + 4) = mI M (g + 4) := F.2.2.2.2.2.2 _ (nS 4 (by decide))
    refine k_So_leaveCommands_2 o hkp ⟨by omega, by omega⟩ ?_
    rw [r3, hT.2.2.2, q2, q4, q3, m2, m4, m3, r5, n5, Int.toNat_natCast, x1, show Int.toNat ((k : Int) + 1) = k + 1 by omega]
    refine ⟨s0, g0, fun u => absurd u (by omega), fun _ => ⟨fun _ => ⟨gk 2 (by decide) (by decide), ⟨by omega, by omega⟩⟩, fun v15 e15 => ⟨gk 4 (by decide) (by decide), ⟨by omega, by omega⟩, fun _ => ⟨gk 3 (by decide) (by decide), ⟨by omega, by omega⟩⟩, fun v25 e25 => ?_⟩⟩⟩
    have vb : (v15 = 0 ∧ v25 = 0) ∨ (v15 ≠ 0 ∧ 0 ≤ v25 ∧ v25 < ((y : Nat) : Int) - ((x : Nat) : Int)) := by
      by_cases c : (kp = 0) ∨ (¬ (mI M1 (g + 2) k = kp))
      · rw [if_pos c] at e15
        rw [e15, if_pos rfl] at e25
        exact Or.inl ⟨e15, e25⟩
      · rw [if_neg c] at e15
        rw [e15, if_neg (by decide)] at e25
        have k0 : kp ≠ 0 := fun u => c (Or.inl u)
        have k2 : mI M1 (g + 2) k = kp := Classical.byContradiction (fun u => c (Or.inr u))
        have := ht k0 k hk (by rw [← e2]; exact k2) x y (by rw [← e4]; exact x1) (by rw [← e4]; exact y1)
        rw [← e3, ← e25] at this
        exact Or.inr ⟨by rw [e15]; decide, this⟩
    obtain ⟨v, ev⟩ : ∃ v : Nat, v25 = ((v : Nat) : Int) := ⟨v25.toNat, by omega⟩
    subst ev
    refine ⟨k5, ⟨by omega, by omega⟩, ⟨by omega, by omega⟩, fun M31 e31 => ?_⟩
    have f31 : FI (fun z => z = s + 122) M1 M31 := by rw [e31]; exact FI.ui rfl
    have n4 : g + 4 ≠ s + 122 := by omega
    have l31 : mI M31 (s + 122) k = ((x + v : Nat) : Int) := by rw [mI_ui _ k e31, if_pos ⟨rfl, rfl⟩]; omega
    rw [f31.1, f31.2.1, f31.2.2.1, r3, r5, r6, q4, m4, n5, n6, l31, f31.2.2.2.2.2.2 (g + 4) n4, y1]
    refine ⟨⟨fun _ => ⟨g0, gk 4 (by decide) (by decide), ⟨by omega, by omega⟩⟩, fun _ => ⟨k5, ⟨by omega, by omega⟩⟩⟩, fun v39 e39 => ?_⟩
    obtain ⟨hi, eh, h1', h2'⟩ : ∃ hi : Nat, v39 = ((hi : Nat) : Int) ∧ x + v ≤ hi ∧ hi ≤ cc ∧ hi ≤ x + v + 60 := by
      rcases vb with ⟨c0, c1⟩ | ⟨c0, c1, c2⟩
      · rw [if_pos c0] at e39
        exact ⟨y, e39, by omega, by omega, by omega⟩
      · rw [if_neg c0] at e39
        exact ⟨x + v + 1, by rw [e39]; omega, by omega, by omega, by omega⟩
    refine ⟨k6, ⟨by omega, by omega⟩, ⟨by omega, by omega⟩, fun M45 e45 => ?_⟩
    have f45 : FI (fun z => z = s + 123) M31 M45 := by rw [e45]; exact FI.ui rfl
    have ff : FI (S56 s) M1 M45 := (f31.mono (fun _ u => Or.inl u)).trans (f45.mono (fun _ u => Or.inr u))
    have o45 : mOk M45 := by rw [e45]; exact mOk_UI (by rw [e31]; exact mOk_UI o ⟨by omega, by omega⟩) ⟨by omega, by omega⟩
    rw [show ((k : Int) + 1) = ((k + 1 : Nat) : Int) by omega]
    refine ih (k + 1) M45 (by omega) (by omega) (F.trans ff) (hg.fi ff o45 nS) (fun j hj => ?_) (fun k0 j hj => ?_)
    rotate_left
    · by_cases c : j = k
      · rw [c]
        rw [if_pos (Or.inl k0)] at e15
        have v0 : v = 0 := by
          rcases vb with y | y
          · omega
          · exact absurd e15 y.1
        rw [if_pos e15] at e39
        refine ⟨?_, ?_⟩
        · rw [f45.2.2.2.2.2.2 (s + 122) (show ¬ s + 122 = s + 123 by omega), l31, ← e4, x1, v0, Nat.add_zero]
        · rw [mI_ui _ k e45, if_pos ⟨rfl, rfl⟩, e39, ← e4, y1]
      · obtain ⟨a1, a2⟩ := X k0 j (by omega)
        exact ⟨by rw [f45.2.2.2.2.2.2 (s + 122) (show ¬ s + 122 = s + 123 by omega), mI_ui _ j e31, if_neg (fun u => c u.2)]; exact a1, by rw [mI_ui _ j e45, if_neg (fun u => c u.2), f31.2.2.2.2.2.2 (s + 123) (show ¬ s + 123 = s + 122 by omega)]; exact a2⟩
    by_cases c : j = k
    · rw [c]
      exact ⟨x + v, hi, by rw [f45.2.2.2.2.2.2 (s + 122) (show ¬ s + 122 = s + 123 by omega)]; exact l31, by rw [mI_ui _ k e45, if_pos ⟨rfl, rfl⟩]; exact eh, h1', h2'⟩
    · obtain ⟨l, h', a1, a2, a3⟩ := L j (by omega)
      exact ⟨l, h', by rw [f45.2.2.2.2.2.2 (s + 122) (show ¬ s + 122 = s + 123 by omega), mI_ui _ j e31, if_neg (fun u => c u.2)]; exact a1, by rw [mI_ui _ j e45, if_neg (fun u => c u.2), f31.2.2.2.2.2.2 (s + 123) (show ¬ s + 123 = s + 122 by omega)]; exact a2, a3⟩
/-- which unknown state a state is -/
def Slo (M : mM) (s un : Nat) : Prop := ∀ k, k < 512 → mI M (s + 124) k = -1 ∨ (0 ≤ mI M (s + 124) k ∧ mI M (s + 124) k < un)
end NBN
