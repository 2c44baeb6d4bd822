section
/-! The class's Solver: its tables; which commands are left, which states are unknown. -/
section NBN
variable {G : mG} {d s g cn cc bc i k n c lo hi : Nat} {M M0 M' M1 M2 M3 : mM}
/-- the Solver's tables -/
def SoT (M : mM) (s g : Nat) : Prop := (mK M s = 8 ∧ g + 22 < s) ∧ (mR M s 0 = s + 1 ∧ mR M s 1 = s + 29 ∧ mR M s 2 = s + 30 ∧ mR M s 3 = g ∧ mR M s 4 = s + 31 ∧ mR M s 5 = s + 122 ∧ mR M s 6 = s + 123 ∧ mR M s 7 = s + 124 ∧ mR M s 8 = s + 125 ∧ mR M s 9 = s + 126 ∧ mR M s 15 = s + 128 ∧ mR M s 16 = s + 129 ∧ mR M s 17 = s + 130) ∧ (mK M (s + 29) = 30 ∧ mK M (s + 30) = 30 ∧ mK M (s + 122) = 30 ∧ mK M (s + 123) = 30 ∧ mK M (s + 124) = 30 ∧ mK M (s + 125) = 30 ∧ mK M (s + 126) = 30 ∧ mK M (s + 128) = 31 ∧ mK M (s + 129) = 30) ∧ (mN M (s + 29) = 512 ∧ mN M (s + 30) = 512 ∧ mN M (s + 122) = 512 ∧ mN M (s + 123) = 512 ∧ mN M (s + 124) = 512 ∧ mN M (s + 125) = 40 ∧ mN M (s + 126) = 40 ∧ mN M (s + 128) = 4097 ∧ mN M (s + 129) = 512)
theorem SoT.fi {S : Nat → Prop} (h : SoT M s g) (f : FI S M M') : SoT M' s g := by
  unfold SoT at h ⊢
  rw [f.1, f.2.1, f.2.2.1]
  exact h
theorem GK9.fi {S : Nat → Prop} (h : GK9 M g) (f : FI S M M') : GK9 M' g := by
  unfold GK9 at h ⊢
  rw [f.1, f.2.1, f.2.2.1]
  exact h
/-- the Solver's and the game's tables -/
def SG (M : mM) (s g cn cc bc : Nat) : Prop := mOk M ∧ SoT M s g ∧ GK9 M g ∧ (mR M g 3 = g + 3 ∧ mN M (g + 3) = 512) ∧ GTT M g cn cc bc
theorem SG.fi {S : Nat → Prop} (h : SG M s g cn cc bc) (f : FI S M M') (o : mOk M') (hS : ∀ i, i ≤ 9 → ¬ S (g + i)) : SG M' s g cn cc bc := by
  obtain ⟨h1, h2, h3, h4, h5⟩ := h
  exact ⟨o, h2.fi f, h3.fi f, by rw [f.2.1, f.2.2.1]; exact h4, h5.same (fun i hi => f.2.2.2.2.2.2 _ (hS i hi))⟩
/-- each state's commands that are left -/
def LHs (M : mM) (s cn cc : Nat) : Prop := ∀ k, k < cn → ∃ lo hi : Nat, mI M (s + 122) k = ((lo : Nat) : Int) ∧ mI M (s + 123) k = ((hi : Nat) : Int) ∧ lo ≤ hi ∧ hi ≤ cc ∧ hi ≤ lo + 60
/-- the choices of a player that is kept -/
def Tld (M : mM) (g cn : Nat) (kp : Int) : Prop := kp ≠ 0 → ∀ k, k < cn → mI M (g + 2) k = kp → ∀ x y : Nat, mI M (g + 4) k = ((x : Nat) : Int) → mI M (g + 4) (k + 1) = ((y : Nat) : Int) → 0 ≤ mI M (g + 3) k ∧ mI M (g + 3) k < ((y : Nat) : Int) - ((x : Nat) : Int)
def LHx (M M' : mM) (s g n : Nat) : Prop := ∀ k, k < n → mI M' (s + 122) k = mI M (g + 4) k ∧ mI M' (s + 123) k = mI M (g + 4) (k + 1)
def S56 (s x : Nat) : Prop := x = s + 122 ∨ x = s + 123
theorem s_So_leaveCommands {kp : Int} (hkp : i32 kp) (h : SG M s g cn cc bc) (ht : Tld M g cn kp) : Cv G y_So_leaveCommands d [vr s, vi kp] M (fun M' => FI (S56 s) M M' ∧ SG M' s g cn cc bc ∧ LHs M' s cn cc ∧ (kp = 0 → LHx M M' s g cn)) := by
  refine k_So_leaveCommands h.1 hkp ?_
  have gs := h.2.1.1.2
  have nS : ∀ i, i ≤ 9 → ¬ S56 s (g + i) := fun i hi u => by unfold S56 at u; omega
  suffices HH : ∀ (t k : Nat) (M1 : mM), cn ≤ k + t → k ≤ cn → FI (S56 s) M M1 → SG M1 s g cn cc bc → LHs M1 s k cc → (kp = 0 → LHx M M1 s g k) → h_So_leaveCommands_2 G d s kp k M1 (fun M' => FI (S56 s) M M' ∧ SG M' s g cn cc bc ∧ LHs M' s cn cc ∧ (kp = 0 → LHx M M' s g cn)) from HH cn 0 M (by omega) (by omega) FI.refl h (fun k hk => absurd hk (by omega)) (fun _ k hk => absurd hk (by omega))
  intro t
  induction t with
  | zero =>
    intro k M1 h1 h2 F hg L X
    have ek : k = cn := by omega
    subst ek
    obtain ⟨o, ⟨⟨s0, -⟩, ⟨-, -, -, r3, -⟩, -⟩, hG, -, hT⟩ := id hg
    refine k_So_leaveCommands_2 o hkp ⟨by have := hT.1.1; omega, by have := hT.1.1; omega⟩ ?_
    rw [r3, hT.2.2.2]
    exact ⟨s0, hG.1, fun _ => ⟨F, hg, L, X⟩, fun u => absurd (Int.le_refl _) u⟩
  | succ t ih =>
    intro k M1 h1 h2 F hg L X
    by_cases ek : k = cn
    · exact ih k M1 (by omega) h2 F hg L X
    have hk : k < cn := by omega
    obtain ⟨o, ⟨⟨s0, -⟩, ⟨-, -, -, r3, -, r5, r6, -⟩, ⟨-, -, k5, k6, -⟩, ⟨-, -, n5, n6, -⟩⟩, ⟨g0, ⟨q2, q4, -⟩, gk, ⟨m2, m4, -⟩⟩, ⟨q3, m3⟩, hT⟩ := id hg
    obtain ⟨x, y, x1, y1, xy, yc⟩ := hT.2.2.1 k hk
    obtain ⟨hc1, hc2, hc3⟩ := hT.1
    have e2 : mI M1 (g + 2) = mI M (g + 2) := F.2.2.2.2.2.2 _ (nS 2 (by decide))
    have e3 : mI M1 (g + 3) = mI M (g + 3) := F.2.2.2.2.2.2 _ (nS 3 (by decide))
    have e4 : mI M1 (g + 4) = mI M (g + 4) := F.2.2.2.2.2.2 _ (nS 4 (by decide))
    refine k_So_leaveCommands_2 o hkp ⟨by omega, by omega⟩ ?_
    rw [r3, hT.2.2.2, q2, q4, q3, m2, m4, m3, r5, n5, Int.toNat_natCast, x1, show Int.toNat ((k : Int) + 1) = k + 1 by first | rfl | omega]
    refine ⟨s0, g0, fun u => absurd u (by omega), fun _ => ⟨fun _ => ⟨gk 2 (by decide) (by decide), ⟨by omega, by omega⟩⟩, fun v15 e15 => ⟨gk 4 (by decide) (by decide), ⟨by omega, by omega⟩, fun _ => ⟨gk 3 (by decide) (by decide), ⟨by omega, by omega⟩⟩, fun v25 e25 => ?_⟩⟩⟩
    have vb : (v15 = 0 ∧ v25 = 0) ∨ (v15 ≠ 0 ∧ 0 ≤ v25 ∧ v25 < ((y : Nat) : Int) - ((x : Nat) : Int)) := by
      by_cases c : (kp = 0) ∨ (¬ (mI M1 (g + 2) k = kp))
      · rw [if_pos c] at e15
        rw [e15, if_pos rfl] at e25
        exact Or.inl ⟨e15, e25⟩
      · rw [if_neg c] at e15
        rw [e15, if_neg (by decide)] at e25
        have k0 : kp ≠ 0 := fun u => c (Or.inl u)
        have k2 : mI M1 (g + 2) k = kp := Classical.byContradiction (fun u => c (Or.inr u))
        have := ht k0 k hk (by rw [← e2]; exact k2) x y (by rw [← e4]; exact x1) (by rw [← e4]; exact y1)
        rw [← e3, ← e25] at this
        exact Or.inr ⟨by rw [e15]; decide, this⟩
    obtain ⟨v, ev⟩ : ∃ v : Nat, v25 = ((v : Nat) : Int) := ⟨v25.toNat, by omega⟩
    subst ev
    refine ⟨k5, ⟨by omega, by omega⟩, ⟨by omega, by omega⟩, fun M31 e31 => ?_⟩
    have f31 : FI (fun z => z = s + 122) M1 M31 := by rw [e31]; exact FI.ui rfl
    have n4 : g + 4 ≠ s + 122 := by omega
    have l31 : mI M31 (s + 122) k = ((x + v : Nat) : Int) := by rw [mI_ui _ k e31, if_pos ⟨rfl, rfl⟩]; omega
    rw [f31.1, f31.2.1, f31.2.2.1, r3, r5, r6, q4, m4, n5, n6, l31, f31.2.2.2.2.2.2 (g + 4) n4, y1]
    refine ⟨⟨fun _ => ⟨g0, gk 4 (by decide) (by decide), ⟨by omega, by omega⟩⟩, fun _ => ⟨k5, ⟨by omega, by omega⟩⟩⟩, fun v39 e39 => ?_⟩
    obtain ⟨hi, eh, h1', h2'⟩ : ∃ hi : Nat, v39 = ((hi : Nat) : Int) ∧ x + v ≤ hi ∧ hi ≤ cc ∧ hi ≤ x + v + 60 := by
      rcases vb with ⟨c0, c1⟩ | ⟨c0, c1, c2⟩
      · rw [if_pos c0] at e39
        exact ⟨y, e39, by omega, by omega, by omega⟩
      · rw [if_neg c0] at e39
        exact ⟨x + v + 1, by rw [e39]; omega, by omega, by omega, by omega⟩
    refine ⟨k6, ⟨by omega, by omega⟩, ⟨by omega, by omega⟩, fun M45 e45 => ?_⟩
    have f45 : FI (fun z => z = s + 123) M31 M45 := by rw [e45]; exact FI.ui rfl
    have ff : FI (S56 s) M1 M45 := (f31.mono (fun _ u => Or.inl u)).trans (f45.mono (fun _ u => Or.inr u))
    have o45 : mOk M45 := by rw [e45]; exact mOk_UI (by rw [e31]; exact mOk_UI o ⟨by omega, by omega⟩) ⟨by omega, by omega⟩
    rw [show ((k : Int) + 1) = ((k + 1 : Nat) : Int) by first | rfl | omega]
    refine ih (k + 1) M45 (by omega) (by omega) (F.trans ff) (hg.fi ff o45 nS) (fun j hj => ?_) (fun k0 j hj => ?_)
    rotate_left
    · by_cases c : j = k
      · rw [c]
        rw [if_pos (Or.inl k0)] at e15
        have v0 : v = 0 := by
          rcases vb with y | y
          · omega
          · exact absurd e15 y.1
        rw [if_pos e15] at e39
        refine ⟨?_, ?_⟩
        · rw [f45.2.2.2.2.2.2 (s + 122) (show ¬ s + 122 = s + 123 by first | rfl | omega), l31, ← e4, x1, v0, Nat.add_zero]
        · rw [mI_ui _ k e45, if_pos ⟨rfl, rfl⟩, e39, ← e4, y1]
      · obtain ⟨a1, a2⟩ := X k0 j (by omega)
        exact ⟨by rw [f45.2.2.2.2.2.2 (s + 122) (show ¬ s + 122 = s + 123 by first | rfl | omega), mI_ui _ j e31, if_neg (fun u => c u.2)]; exact a1, by rw [mI_ui _ j e45, if_neg (fun u => c u.2), f31.2.2.2.2.2.2 (s + 123) (show ¬ s + 123 = s + 122 by first | rfl | omega)]; exact a2⟩
    by_cases c : j = k
    · rw [c]
      exact ⟨x + v, hi, by rw [f45.2.2.2.2.2.2 (s + 122) (show ¬ s + 122 = s + 123 by first | rfl | omega)]; exact l31, by rw [mI_ui _ k e45, if_pos ⟨rfl, rfl⟩]; exact eh, h1', h2'⟩
    · obtain ⟨l, h', a1, a2, a3⟩ := L j (by omega)
      exact ⟨l, h', by rw [f45.2.2.2.2.2.2 (s + 122) (show ¬ s + 122 = s + 123 by first | rfl | omega), mI_ui _ j e31, if_neg (fun u => c u.2)]; exact a1, by rw [mI_ui _ j e45, if_neg (fun u => c u.2), f31.2.2.2.2.2.2 (s + 123) (show ¬ s + 123 = s + 122 by first | rfl | omega)]; exact a2, a3⟩
/-- which unknown state a state is -/
def Slo (M : mM) (s un : Nat) : Prop := ∀ k, k < 512 → mI M (s + 124) k = -1 ∨ (0 ≤ mI M (s + 124) k ∧ mI M (s + 124) k < un)
end NBN
end
section
/-! The class's Solver: the unknown states, their weights. -/
section NBO
variable {G : mG} {d s g cn cc bc i k n c lo hi un : Nat} {M M0 M' M1 M2 M3 : mM}
/-- the unknown states -/
def Unk (M : mM) (s cn un : Nat) : Prop := mI M s 10 = ((un : Nat) : Int) ∧ un ≤ 40 ∧ Slo M s un ∧ ∀ i, i < un → ∃ k c lo hi : Nat, mI M (s + 125) i = ((k : Nat) : Int) ∧ k < cn ∧ mI M (s + 126) i = ((c : Nat) : Int) ∧ mI M (s + 122) k = ((lo : Nat) : Int) ∧ mI M (s + 123) k = ((hi : Nat) : Int) ∧ lo ≤ c ∧ c < hi
def Sun (s x : Nat) : Prop := x = s ∨ x = s + 124 ∨ x = s + 125 ∨ x = s + 126
theorem sun_g (h : SG M s g cn cc bc) : ∀ i, i ≤ 9 → ¬ Sun s (g + i) := fun i hi u => by
  have := h.2.1.1.2
  unfold Sun at u
  omega
end NBO
end
section
/-! The class's Solver: weights; numbers of ways. -/
section NBP
variable {G : mG} {d s g cn cc bc i k n c lo hi un : Nat} {M M0 M' M1 M2 M3 : mM}
def wsu (wt : Nat → Nat) : Nat → Nat
  | 0 => 0
  | n + 1 => wsu wt n + wt n
theorem wsu_cg {f h : Nat → Nat} : ∀ n, (∀ i, i < n → f i = h i) → wsu f n = wsu h n
  | 0, _ => rfl
  | n + 1, e => by
    show wsu f n + f n = wsu h n + h n
    rw [wsu_cg n (fun i hi => e i (by omega)), e n (by omega)]
theorem wsu_le {f h : Nat → Nat} : ∀ n, (∀ i, i < n → f i ≤ h i) → wsu f n ≤ wsu h n
  | 0, _ => Nat.le_refl _
  | n + 1, e => Nat.add_le_add (wsu_le n (fun i hi => e i (by omega))) (e n (by omega))
/-- every command that is left for the unknown state i has a multiple below 2^w -/
def wtO (M : mM) (s g i w : Nat) : Prop := ∀ k lo hi c : Nat, mI M (s + 125) i = ((k : Nat) : Int) → mI M (s + 122) k = ((lo : Nat) : Int) → mI M (s + 123) k = ((hi : Nat) : Int) → lo ≤ c → c < hi → mI M (g + 6) c < 2 ^ w
theorem s_nlz0 (hO : mOk M) : Ci G y_JI_nlz d [vi 0] M (fun r M' => M' = M ∧ r = 32) := k_JI_nlz hO ⟨by decide, by decide⟩ ⟨fun u => absurd u (by decide), fun _ v41 e41 => ⟨rfl, by rw [e41, if_pos rfl]⟩⟩
end NBP
end
section
/-! The class's Solver: comesOn and wayFrom exactly. -/
section NBX
variable {G : mG} {d s g cn cc bc i k n c lo hi un : Nat} {M M0 M' M1 M2 M3 : mM}
/-- a state is marked, or a target -/
def jmk (M : mM) (s g j : Nat) : Prop := mI M (s + 124) j ≠ -1 ∨ mI M (g + 2) j = 3
/-- a command has a branch to one -/
def ldC (M : mM) (s g c : Nat) : Prop := ∃ i : Nat, mI M (g + 7) c ≤ i ∧ (i : Int) < mI M (g + 7) (c + 1) ∧ jmk M s g (mI M (g + 8) i).toNat
theorem x_So_comesOn (h : SG M s g cn cc bc) (hc : c < cc) : Ci G y_So_comesOn d [vr s, vi c] M (fun r M' => M' = M ∧ (r = 0 ∨ r = 1) ∧ (r = 1 ↔ ldC M s g c)) := by
  obtain ⟨o, ⟨⟨s0, -⟩, ⟨-, -, -, r3, -, -, -, r7, -⟩, ⟨-, -, -, -, k7, -⟩, ⟨-, -, -, -, n7, -⟩⟩, ⟨g0, ⟨q2, -, -, q7, q8, -⟩, gk, ⟨m2, -, -, m7, m8, -⟩⟩, -, hT⟩ := id h
  obtain ⟨hc1, hc2, hc3⟩ := hT.1
  obtain ⟨x, y, mu, e1, e2, ⟨xy, -⟩, yb, br, -⟩ := hT.2.1 c hc
  have no : ∀ j : Nat, y ≤ j → (∀ i : Nat, x ≤ i → i < j → ¬ jmk M s g (mI M (g + 8) i).toNat) → ¬ ldC M s g c := fun j hj hn u => by
    obtain ⟨i, u1, u2, u3⟩ := u
    rw [e1] at u1
    rw [e2] at u2
    exact hn i (by omega) (by omega) u3
  refine k_So_comesOn o ⟨by omega, by omega⟩ ?_
  rw [r3, q7, m7, Int.toNat_natCast, e1]
  refine ⟨s0, g0, gk 7 (by decide) (by decide), ⟨by omega, by omega⟩, ?_⟩
  suffices HH : ∀ (t i : Nat), y ≤ i + t → x ≤ i → i ≤ y → (∀ i' : Nat, x ≤ i' → i' < i → ¬ jmk M s g (mI M (g + 8) i').toNat) → h_So_comesOn_10 G d s c i M (fun r M' => M' = M ∧ (r = 0 ∨ r = 1) ∧ (r = 1 ↔ ldC M s g c)) from HH (y - x) x (by omega) (Nat.le_refl _) (by omega) (fun i' a b => absurd b (by omega))
  intro t
  induction t with
  | zero =>
    intro i h1 h2 h3 hn
    refine k_So_comesOn_10 o ⟨by omega, by omega⟩ ⟨by omega, by omega⟩ ?_
    rw [r3, q7, m7, show Int.toNat ((c : Int) + 1) = c + 1 by first | rfl | omega, e2]
    exact ⟨s0, g0, gk 7 (by decide) (by decide), ⟨by omega, by omega⟩, fun _ => ⟨rfl, Or.inl rfl, fun z => absurd z (by decide), fun z => absurd z (no i (by omega) hn)⟩, fun u => absurd (by omega) u⟩
  | succ t ih =>
    intro i h1 h2 h3 hn
    refine k_So_comesOn_10 o ⟨by omega, by omega⟩ ⟨by omega, by omega⟩ ?_
    rw [r3, q7, m7, show Int.toNat ((c : Int) + 1) = c + 1 by first | rfl | omega, e2]
    refine ⟨s0, g0, gk 7 (by decide) (by decide), ⟨by omega, by omega⟩, fun z => ⟨rfl, Or.inl rfl, fun z => absurd z (by decide), fun w => absurd w (no i (by omega) hn)⟩, fun u => ?_⟩
    obtain ⟨b1, b2, b3⟩ := br i h2 (by omega)
    rw [q8, m8, r7, n7, q2, m2, Int.toNat_natCast, show ((i : Int) + 1) = ((i + 1 : Nat) : Int) by first | rfl | omega]
    refine ⟨gk 8 (by decide) (by decide), ⟨by omega, by omega⟩, k7, ⟨by omega, by omega⟩, fun _ => ⟨gk 2 (by decide) (by decide), ⟨by omega, by omega⟩⟩, fun z => ⟨rfl, Or.inr rfl, fun _ => ⟨i, by rw [e1]; omega, by rw [e2]; omega, z⟩, fun _ => rfl⟩, fun z => ih (i + 1) (by omega) (by omega) (by omega) (fun i' a b => ?_)⟩
    by_cases c9 : i' = i
    · rw [c9]
      exact z
    · exact hn i' a (by omega)
/-- whether a state comes on: its commands from lo to hi -/
def coC (M : mM) (s g k lo hi : Nat) : Prop := (mI M (g + 2) k = 1 ∧ ∃ c : Nat, lo ≤ c ∧ c < hi ∧ ldC M s g c) ∨ (mI M (g + 2) k ≠ 1 ∧ lo < hi ∧ ∀ c : Nat, lo ≤ c → c < hi → ldC M s g c)
def wayX (M : mM) (s g k : Nat) (x : Int) (M' : mM) : Prop := M' = M ∧ ∃ lo hi : Nat, (mI M (s + 122) k = ((lo : Nat) : Int) ∧ mI M (s + 123) k = ((hi : Nat) : Int)) ∧ ((x = -1 ∧ ¬ coC M s g k lo hi) ∨ (coC M s g k lo hi ∧ ∃ c : Nat, x = ((c : Nat) : Int) ∧ lo ≤ c ∧ c < hi))
theorem x_So_wayFrom (h : SG M s g cn cc bc) (hL : LHs M s cn cc) (hk : k < cn) : Ci G y_So_wayFrom (d + 1) [vr s, vi k] M (wayX M s g k) := by
  obtain ⟨o, ⟨⟨s0, -⟩, ⟨-, -, -, r3, -, r5, r6, -⟩, ⟨-, -, k5, k6, -⟩, ⟨-, -, n5, n6, -⟩⟩, ⟨g0, ⟨q2, -⟩, gk, ⟨m2, -⟩⟩, -, hT⟩ := id h
  obtain ⟨hc1, hc2, hc3⟩ := hT.1
  obtain ⟨lo, hi, e1, e2, lh, hb⟩ := hL k hk
  refine k_So_wayFrom o ⟨by omega, by omega⟩ ?_
  rw [r3, q2, m2, r5, n5, Int.toNat_natCast, e1]
  refine ⟨s0, g0, gk 2 (by decide) (by decide), ⟨by omega, by omega⟩, fun v6 e6 => ⟨k5, ⟨by omega, by omega⟩, ?_⟩⟩
  have v01 : (v6 = 1 ∧ mI M (g + 2) k = 1) ∨ (v6 = 0 ∧ mI M (g + 2) k ≠ 1) := by
    by_cases z : mI M (g + 2) k = 1
    · rw [if_pos z] at e6
      exact Or.inl ⟨e6, z⟩
    · rw [if_neg z] at e6
      exact Or.inr ⟨e6, z⟩
  have vb : v6 = 0 ∨ v6 = 1 := by omega
  clear e6
  suffices HH : ∀ (t c : Nat), hi ≤ c + t → lo ≤ c → c ≤ hi → (∀ c' : Nat, lo ≤ c' → c' < c → (v6 = 1 → ¬ ldC M s g c') ∧ (v6 = 0 → ldC M s g c')) → h_So_wayFrom_26 G d s k v6 c M (wayX M s g k) from HH (hi - lo) lo (by omega) (Nat.le_refl _) lh (fun c' a b => absurd b (by omega))
  have fin : ∀ c : Nat, hi ≤ c → (∀ c' : Nat, lo ≤ c' → c' < c → (v6 = 1 → ¬ ldC M s g c') ∧ (v6 = 0 → ldC M s g c')) → ∀ v31 : Int, v31 = (if ((¬ (v6 = 0)) ∨ ((lo : Int) = (hi : Int))) then (-1) else ((lo : Nat) : Int)) → wayX M s g k v31 M := fun c hc hn v31 e31 => by
    refine ⟨rfl, lo, hi, ⟨e1, e2⟩, ?_⟩
    rcases v01 with ⟨v1, z⟩ | ⟨v1, z⟩
    · rw [if_pos (Or.inl (by omega))] at e31
      refine Or.inl ⟨e31, fun u => ?_⟩
      rcases u with ⟨-, c', u1, u2, u3⟩ | ⟨u1, -⟩
      · exact (hn c' u1 (by omega)).1 v1 u3
      · exact u1 z
    · by_cases w : lo = hi
      · rw [if_pos (Or.inr (by omega))] at e31
        refine Or.inl ⟨e31, fun u => ?_⟩
        rcases u with ⟨u1, -⟩ | ⟨-, u1, -⟩
        · exact z u1
        · omega
      · rw [if_neg (by omega)] at e31
        exact Or.inr ⟨Or.inr ⟨z, by omega, fun c' a b => (hn c' a (by omega)).2 v1⟩, lo, e31, Nat.le_refl _, by omega⟩
  intro t
  induction t with
  | zero =>
    intro c h1 h2 h3 hn
    refine k_So_wayFrom_26 o ⟨by omega, by omega⟩ (m_b32 vb) ⟨by omega, by omega⟩ ?_
    rw [r6, n6, r5, n5, Int.toNat_natCast, e2, e1]
    exact ⟨s0, k6, ⟨by omega, by omega⟩, fun _ => ⟨fun _ => ⟨k5, ⟨by omega, by omega⟩, ⟨by omega, by omega⟩, fun _ => ⟨by omega, by omega⟩⟩, fin c (by omega) hn⟩, fun u => absurd (by omega) u⟩
  | succ t ih =>
    intro c h1 h2 h3 hn
    refine k_So_wayFrom_26 o ⟨by omega, by omega⟩ (m_b32 vb) ⟨by omega, by omega⟩ ?_
    rw [r6, n6, r5, n5, Int.toNat_natCast, e2, e1]
    refine ⟨s0, k6, ⟨by omega, by omega⟩, fun z => ⟨fun _ => ⟨k5, ⟨by omega, by omega⟩, ⟨by omega, by omega⟩, fun _ => ⟨by omega, by omega⟩⟩, fin c (by omega) hn⟩, fun u => (x_So_comesOn (d := d) h (show c < cc by omega)).mono (fun x M' q => ?_)⟩
    obtain ⟨e, x01, xi⟩ := q
    rw [e]
    refine ⟨m_b32 x01, o, fun xe v45 e45 => ⟨rfl, lo, hi, ⟨e1, e2⟩, ?_⟩, fun xe => ?_⟩
    · rcases v01 with ⟨v1, z⟩ | ⟨v1, z⟩
      · rw [if_neg (by omega)] at e45
        exact Or.inr ⟨Or.inl ⟨z, c, h2, by omega, xi.mp (by omega)⟩, c, e45, h2, by omega⟩
      · rw [if_pos v1] at e45
        refine Or.inl ⟨e45, fun w => ?_⟩
        rcases w with ⟨w1, -⟩ | ⟨-, -, w1⟩
        · exact z w1
        · have := xi.mpr (w1 c h2 (by omega))
          omega
    · rw [show ((c : Int) + 1) = ((c + 1 : Nat) : Int) by first | rfl | omega]
      refine ih (c + 1) (by omega) (by omega) (by omega) (fun c' a b => ?_)
      by_cases c9 : c' = c
      · rw [c9]
        refine ⟨fun v1 w => ?_, fun v1 => xi.mp (by omega)⟩
        have := xi.mpr w
        omega
      · exact hn c' a (by omega)
end NBX
end
section
/-! The class's Solver: the marks exactly. -/
section NBY
variable {G : mG} {d s g cn cc bc i k n c lo hi un : Nat} {M M0 M' M1 M2 M3 : mM}
theorem sm_up9 {h h' : Nat → Int} {k : Nat} {v : Int} (h0 : h k = 0) (h1 : h' k = v) (e : ∀ j, j ≠ k → h' j = h j) : ∀ n, k < n → sm h' n = sm h n + v
  | 0, u => absurd u (by omega)
  | n + 1, u => by
    show sm h' n + h' n = sm h n + h n + v
    by_cases c : k = n
    · rw [← c, h0, h1, sm_congr (f := h') (g := h) k (fun j hj => e j (by omega))]
      omega
    · rw [sm_up9 h0 h1 e n (by omega), e n (by omega)]
      omega
/-- marked with a slot below b, or a target -/
def jmb (M : mM) (s g : Nat) (b : Int) (j : Nat) : Prop := (mI M (s + 124) j ≠ -1 ∧ mI M (s + 124) j < b) ∨ mI M (g + 2) j = 3
def ldB (M : mM) (s g : Nat) (b : Int) (c : Nat) : Prop := ∃ i : Nat, mI M (g + 7) c ≤ i ∧ (i : Int) < mI M (g + 7) (c + 1) ∧ jmb M s g b (mI M (g + 8) i).toNat
def coB (M : mM) (s g : Nat) (b : Int) (k lo hi : Nat) : Prop := (mI M (g + 2) k = 1 ∧ ∃ c : Nat, lo ≤ c ∧ c < hi ∧ ldB M s g b c) ∨ (mI M (g + 2) k ≠ 1 ∧ lo < hi ∧ ∀ c : Nat, lo ≤ c → c < hi → ldB M s g b c)
/-- each marked state was marked when it came on by those before it -/
def mkB (M : mM) (s g cn : Nat) : Prop := ∀ k, k < cn → mI M (s + 124) k ≠ -1 → ∃ lo hi : Nat, (mI M (s + 122) k = ((lo : Nat) : Int) ∧ mI M (s + 123) k = ((hi : Nat) : Int)) ∧ coB M s g (mI M (s + 124) k) k lo hi
/-- sums over the unknown states -/
def smU (M : mM) (s cn un : Nat) : Prop := ∀ f : Nat → Int, sm (fun i => f (mI M (s + 125) i).toNat) un = sm (fun k => if mI M (s + 124) k = -1 then 0 else f k) cn
theorem coC.b {b : Int} (h : coC M s g k lo hi) (m : ∀ c, lo ≤ c → c < hi → ldC M s g c → ldB M' s g b c) (e : mI M' (g + 2) k = mI M (g + 2) k) : coB M' s g b k lo hi := by
  rcases h with ⟨h1, c, h2, h3, h4⟩ | ⟨h1, h2, h3⟩
  · exact Or.inl ⟨by rw [e]; exact h1, c, h2, h3, m c h2 h3 h4⟩
  · exact Or.inr ⟨by rw [e]; exact h1, h2, fun c a b => m c a b (h3 c a b)⟩
theorem coB.cg {b : Int} (h : coB M s g b k lo hi) (e2 : mI M' (g + 2) = mI M (g + 2)) (e7 : mI M' (g + 7) = mI M (g + 7)) (e8 : mI M' (g + 8) = mI M (g + 8)) (e : ∀ j, mI M (s + 124) j ≠ -1 → mI M' (s + 124) j = mI M (s + 124) j) : coB M' s g b k lo hi := by
  have m : ∀ c, ldB M s g b c → ldB M' s g b c := fun c u => by
    obtain ⟨i, u1, u2, u3⟩ := u
    refine ⟨i, by rw [e7]; exact u1, by rw [e7]; exact u2, ?_⟩
    rw [e8]
    rcases u3 with ⟨u3, u4⟩ | u3
    · exact Or.inl ⟨by rw [e _ u3]; exact u3, by rw [e _ u3]; exact u4⟩
    · exact Or.inr (by rw [e2]; exact u3)
  rcases h with ⟨h1, c, h2, h3, h4⟩ | ⟨h1, h2, h3⟩
  · exact Or.inl ⟨by rw [e2]; exact h1, c, h2, h3, m c h4⟩
  · exact Or.inr ⟨by rw [e2]; exact h1, h2, fun c a b => m c (h3 c a b)⟩
/-- a state is marked -/
theorem mk_step (hT : GTT M g cn cc bc) (hs : Slo M s un) (hb : mkB M s g cn) (hm : smU M s cn un) (hk : k < cn) (h0 : mI M (s + 124) k = -1) (hl : mI M (s + 122) k = ((lo : Nat) : Int) ∧ mI M (s + 123) k = ((hi : Nat) : Int)) (hh : hi ≤ cc) (hc : coC M s g k lo hi) (eg : ∀ i, i ≤ 9 → mI M' (g + i) = mI M (g + i)) (e122 : mI M' (s + 122) = mI M (s + 122)) (e123 : mI M' (s + 123) = mI M (s + 123)) (e124 : ∀ j, mI M' (s + 124) j = if j = k then ((un : Nat) : Int) else mI M (s + 124) j) (e125 : ∀ j, mI M' (s + 125) j = if j = un then ((k : Nat) : Int) else mI M (s + 125) j) : mkB M' s g cn ∧ smU M' s cn (un + 1) := by
  have e2 := eg 2 (by decide)
  have e7 := eg 7 (by decide)
  have e8 := eg 8 (by decide)
  have old : ∀ j, mI M (s + 124) j ≠ -1 → mI M' (s + 124) j = mI M (s + 124) j := fun j hj => by
    rw [e124, if_neg (fun u => hj (by rw [u]; exact h0))]
  refine ⟨fun j hj u => ?_, fun f => ?_⟩
  · rw [e122, e123]
    by_cases c9 : j = k
    · subst c9
      refine ⟨lo, hi, hl, ?_⟩
      rw [e124, if_pos rfl]
      refine hc.b (fun c a b w => ?_) (by rw [e2])
      obtain ⟨i, w1, w2, w3⟩ := w
      obtain ⟨x, y, mu, f1, f2, -, -, br, -⟩ := hT.2.1 c (by omega)
      rw [f1] at w1
      rw [f2] at w2
      have bb := br i (by omega) (by omega)
      have cn5 := hT.1.1
      refine ⟨i, by rw [e7, f1]; exact w1, by rw [e7, f2]; exact w2, ?_⟩
      rw [e8]
      rcases w3 with w3 | w3
      · refine Or.inl ⟨by rw [old _ w3]; exact w3, ?_⟩
        rw [old _ w3]
        rcases hs (mI M (g + 8) i).toNat (by omega) with z | z
        · exact absurd z w3
        · exact z.2
      · exact Or.inr (by rw [e2]; exact w3)
    · rw [e124, if_neg c9] at u
      obtain ⟨lo', hi', l1, l2⟩ := hb j hj u
      refine ⟨lo', hi', l1, ?_⟩
      rw [e124, if_neg c9]
      exact l2.cg e2 e7 e8 old
  · show sm (fun i => f (mI M' (s + 125) i).toNat) un + f (mI M' (s + 125) un).toNat = _
    rw [e125, if_pos rfl, Int.toNat_natCast, sm_congr (g := fun i => f (mI M (s + 125) i).toNat) un (fun j hj => by rw [e125, if_neg (by omega)]), hm f]
    refine (sm_up9 (h := fun k => if mI M (s + 124) k = -1 then 0 else f k) (k := k) ?_ ?_ (fun j hj => ?_) cn hk).symm
    · show (if mI M (s + 124) k = -1 then 0 else f k) = 0
      rw [if_pos h0]
    · show (if mI M' (s + 124) k = -1 then 0 else f k) = f k
      rw [e124, if_pos rfl, if_neg (by omega)]
    · show (if mI M' (s + 124) j = -1 then 0 else f j) = (if mI M (s + 124) j = -1 then 0 else f j)
      rw [e124, if_neg hj]
end NBY
end
section
/-! The class's Solver: the unknown states exactly. -/
section NBZ
variable {G : mG} {d s g cn cc bc i k n c lo hi un : Nat} {M M0 M' M1 M2 M3 : mM}
/-- nothing from k on comes on -/
def noM (M : mM) (s g cn k : Nat) : Prop := ∀ j, k ≤ j → j < cn → mI M (s + 124) j = -1 → ∀ lo hi : Nat, mI M (s + 122) j = ((lo : Nat) : Int) → mI M (s + 123) j = ((hi : Nat) : Int) → ¬ coC M s g j lo hi
def fuX (M0 : mM) (s g cn cc bc un : Nat) (M : mM) : Prop := FI (Sun s) M0 M ∧ SG M s g cn cc bc ∧ LHs M s cn cc ∧ Unk M s cn un ∧ mkB M s g cn ∧ smU M s cn un
/-- found all, or one too many -/
def fuR (M0 : mM) (s g cn cc bc : Nat) (x : Int) (M : mM) : Prop := ∃ un, fuX M0 s g cn cc bc un M ∧ ((x = 1 ∧ noM M s g cn 0) ∨ (x = 0 ∧ un = 40 ∧ ∃ k, k < cn ∧ mI M (s + 124) k = -1 ∧ ∃ lo hi : Nat, mI M (s + 122) k = ((lo : Nat) : Int) ∧ mI M (s + 123) k = ((hi : Nat) : Int) ∧ coC M s g k lo hi))
theorem x_fu63 {l1 l2 x : Int} (h1 : l1 = 0 ∨ l1 = 1) (h2 : 0 ≤ l2 ∧ l2 ≤ 512) (hk : k < cn) (hI : fuX M0 s g cn cc bc un M) (hx : x = -1 ∨ (mI M (s + 124) k = -1 ∧ ∃ lo hi c : Nat, (mI M (s + 122) k = ((lo : Nat) : Int) ∧ mI M (s + 123) k = ((hi : Nat) : Int)) ∧ coC M s g k lo hi ∧ x = ((c : Nat) : Int) ∧ lo ≤ c ∧ c < hi))
    (hQ0 : x = -1 → h_So_findUnknown_40 G d s l1 l2 ((k : Int) - 1) M (fuR M0 s g cn cc bc)) (hQ1 : ∀ M', fuX M0 s g cn cc bc (un + 1) M' → h_So_findUnknown_40 G d s 1 l2 ((k : Int) - 1) M' (fuR M0 s g cn cc bc)) : h_So_findUnknown_63 G d s l1 l2 k x M (fuR M0 s g cn cc bc) := by
  have hI0 := hI
  obtain ⟨F, hg, hL, ⟨u1, u2, u3, u4⟩, hb, hm⟩ := hI
  obtain ⟨o, ⟨⟨s0, gs⟩, ⟨-, -, -, -, -, -, -, r7, r8, r9, -⟩, ⟨-, -, -, -, k7, k8, k9, -⟩, ⟨-, -, -, -, n7, n8, n9, -⟩⟩, -, -, hT⟩ := id hg
  obtain ⟨hc1, hc2, hc3⟩ := hT.1
  have xi : i32 x := by
    rcases hx with e | ⟨-, lo, hi, c, ⟨e1, e2⟩, -, e3, e4, e5⟩
    · rw [e]; exact ⟨by decide, by decide⟩
    · obtain ⟨lo', hi', f1, f2, f3, f4⟩ := hL k hk
      exact ⟨by omega, by omega⟩
  refine k_So_findUnknown_63 o (m_b32 h1) ⟨by omega, by omega⟩ ⟨by omega, by omega⟩ xi ⟨fun z => by
    have := hQ0 z
    rw [show ((k : Int) - 1) = (k : Int) + (-1) by first | rfl | omega] at this
    exact this, fun xn => ?_⟩
  obtain ⟨k0, lo, hi, c, ⟨e1, e2⟩, hco, e3, e4, e5⟩ := hx.resolve_left xn
  obtain ⟨lo', hi', f1, f2, f3, f4⟩ := hL k hk
  rw [u1]
  refine ⟨s0, fun z => ⟨un, hI0, Or.inr ⟨rfl, by omega, k, hk, k0, lo, hi, e1, e2, hco⟩⟩, fun ne => ?_⟩
  rw [r7, n7, Int.toNat_natCast]
  refine ⟨k7, ⟨by omega, by omega⟩, fun M41 e41 => ?_⟩
  have f41 : FI (fun z => z = s + 124) M M41 := by rw [e41]; exact FI.ui rfl
  rw [f41.1, f41.2.1, f41.2.2.1, r8, n8, f41.2.2.2.2.2.2 s (show ¬ s = s + 124 by first | rfl | omega), u1, Int.toNat_natCast]
  refine ⟨k8, ⟨by omega, by omega⟩, fun M45 e45 => ?_⟩
  have f45 : FI (fun z => z = s + 125) M41 M45 := by rw [e45]; exact FI.ui rfl
  rw [f45.1, f45.2.1, f45.2.2.1, f41.1, f41.2.1, f41.2.2.1, r9, n9, f45.2.2.2.2.2.2 s (show ¬ s = s + 125 by first | rfl | omega), f41.2.2.2.2.2.2 s (show ¬ s = s + 124 by first | rfl | omega), u1, Int.toNat_natCast]
  refine ⟨k9, ⟨by omega, by omega⟩, fun M49 e49 => ?_⟩
  have f49 : FI (fun z => z = s + 126) M45 M49 := by rw [e49]; exact FI.ui rfl
  rw [f49.2.2.2.2.2.2 s (show ¬ s = s + 126 by first | rfl | omega), f45.2.2.2.2.2.2 s (show ¬ s = s + 125 by first | rfl | omega), f41.2.2.2.2.2.2 s (show ¬ s = s + 124 by first | rfl | omega), u1]
  refine ⟨⟨by omega, by omega⟩, fun M52 e52 => ?_⟩
  have f52 : FI (fun z => z = s) M49 M52 := by rw [e52]; exact FI.ui rfl
  have ff : FI (Sun s) M M52 := (((f41.mono (fun _ u => Or.inr (Or.inl u))).trans (f45.mono (fun _ u => Or.inr (Or.inr (Or.inl u))))).trans (f49.mono (fun _ u => Or.inr (Or.inr (Or.inr u))))).trans (f52.mono (fun _ u => Or.inl u))
  have o52 : mOk M52 := by rw [e52]; exact mOk_UI (by rw [e49]; exact mOk_UI (by rw [e45]; exact mOk_UI (by rw [e41]; exact mOk_UI o ⟨by omega, by omega⟩) ⟨by omega, by omega⟩) xi) ⟨by omega, by omega⟩
  have i122 : mI M52 (s + 122) = mI M (s + 122) := ff.2.2.2.2.2.2 _ (fun u => by unfold Sun at u; omega)
  have i123 : mI M52 (s + 123) = mI M (s + 123) := ff.2.2.2.2.2.2 _ (fun u => by unfold Sun at u; omega)
  have i124 : ∀ j, mI M52 (s + 124) j = if j = k then ((un : Nat) : Int) else mI M (s + 124) j := fun j => by
    rw [f52.2.2.2.2.2.2 _ (show ¬ s + 124 = s by first | rfl | omega), f49.2.2.2.2.2.2 _ (show ¬ s + 124 = s + 126 by first | rfl | omega), f45.2.2.2.2.2.2 _ (show ¬ s + 124 = s + 125 by first | rfl | omega), mI_ui _ j e41]
    by_cases cj : j = k
    · rw [if_pos ⟨rfl, cj⟩, if_pos cj]
    · rw [if_neg (fun u => cj u.2), if_neg cj]
  have i125 : ∀ j, mI M52 (s + 125) j = if j = un then ((k : Nat) : Int) else mI M (s + 125) j := fun j => by
    rw [f52.2.2.2.2.2.2 _ (show ¬ s + 125 = s by first | rfl | omega), f49.2.2.2.2.2.2 _ (show ¬ s + 125 = s + 126 by first | rfl | omega), mI_ui _ j e45]
    by_cases cj : j = un
    · rw [if_pos ⟨rfl, cj⟩, if_pos cj]
    · rw [if_neg (fun u => cj u.2), if_neg cj, f41.2.2.2.2.2.2 _ (show ¬ s + 125 = s + 124 by first | rfl | omega)]
  have i126 : ∀ j, mI M52 (s + 126) j = if j = un then x else mI M (s + 126) j := fun j => by
    rw [f52.2.2.2.2.2.2 _ (show ¬ s + 126 = s by first | rfl | omega), mI_ui _ j e49]
    by_cases cj : j = un
    · rw [if_pos ⟨rfl, cj⟩, if_pos cj]
    · rw [if_neg (fun u => cj u.2), if_neg cj, f45.2.2.2.2.2.2 _ (show ¬ s + 126 = s + 125 by first | rfl | omega), f41.2.2.2.2.2.2 _ (show ¬ s + 126 = s + 124 by first | rfl | omega)]
  obtain ⟨hb', hm'⟩ := mk_step (M' := M52) hT u3 hb hm hk k0 ⟨e1, e2⟩ (by omega) hco (fun i hi => ff.2.2.2.2.2.2 _ (sun_g hg i hi)) i122 i123 i124 i125
  have := hQ1 M52 ⟨F.trans ff, hg.fi ff o52 (sun_g hg), fun j hj => by rw [i122, i123]; exact hL j hj, ⟨by rw [mI_ui s 10 e52, if_pos ⟨rfl, rfl⟩]; omega, by omega, fun j hj => ?_, fun j hj => ?_⟩, hb', hm'⟩
  · rw [show ((k : Int) - 1) = (k : Int) + (-1) by first | rfl | omega] at this
    exact this
  · rw [i124]
    by_cases cj : j = k
    · rw [if_pos cj]; exact Or.inr ⟨by omega, by omega⟩
    · rw [if_neg cj]
      rcases u3 j hj with e | e
      · exact Or.inl e
      · exact Or.inr ⟨e.1, by omega⟩
  · rw [i125, i126, i122, i123]
    by_cases cj : j = un
    · rw [if_pos cj, if_pos cj]
      exact ⟨k, c, lo, hi, rfl, hk, e3, e1, e2, e4, e5⟩
    · rw [if_neg cj, if_neg cj]
      exact u4 j (by omega)
theorem x_fu40 {l2 : Int} {u0 : Nat} (h2 : 0 ≤ l2 ∧ l2 ≤ 512) (hQ : ∀ (l1' : Int) (un : Nat) (M' : mM), fuX M0 s g cn cc bc un M' → ((l1' = 0 ∧ noM M' s g cn 0) ∨ (l1' = 1 ∧ u0 < un)) → h_So_findUnknown_17 G (d + 1) s l1' (l2 + 1) M' (fuR M0 s g cn cc bc)) : ∀ (k : Nat) (l1 : Int) (un : Nat) (M : mM), k ≤ cn → u0 ≤ un → ((l1 = 0 ∧ noM M s g cn k) ∨ (l1 = 1 ∧ u0 < un)) → fuX M0 s g cn cc bc un M → h_So_findUnknown_40 G (d + 1) s l1 l2 ((k : Int) - 1) M (fuR M0 s g cn cc bc) := by
  intro k
  induction k with
  | zero =>
    intro l1 un M hk hu h1 hI
    exact k_So_findUnknown_40 hI.2.1.1 (m_b32 (by omega)) ⟨by omega, by omega⟩ ⟨by omega, by omega⟩ ⟨fun _ => hQ l1 un M hI h1, fun u => absurd (by omega) u⟩
  | succ k ih =>
    intro l1 un M hk hu h1 hI
    obtain ⟨F, hg, hL, ⟨u1, u2, u3, u4⟩, hb, hm⟩ := id hI
    obtain ⟨o, ⟨⟨s0, gs⟩, ⟨-, -, -, -, -, -, -, r7, -⟩, ⟨-, -, -, -, k7, -⟩, ⟨-, -, -, -, n7, -⟩⟩, -, -, hT⟩ := id hg
    obtain ⟨hc1, hc2, hc3⟩ := hT.1
    have hl : l1 = 0 ∨ l1 = 1 := by omega
    rw [show ((k + 1 : Nat) : Int) - 1 = ((k : Nat) : Int) by first | rfl | omega]
    refine k_So_findUnknown_40 o (m_b32 hl) ⟨by omega, by omega⟩ ⟨by omega, by omega⟩ ⟨fun u => absurd u (by omega), fun _ => ?_⟩
    have ext : (mI M (s + 124) k = -1 → ∀ lo hi : Nat, mI M (s + 122) k = ((lo : Nat) : Int) → mI M (s + 123) k = ((hi : Nat) : Int) → ¬ coC M s g k lo hi) → ((l1 = 0 ∧ noM M s g cn k) ∨ (l1 = 1 ∧ u0 < un)) := fun z => by
      rcases h1 with ⟨a1, a2⟩ | a1
      · refine Or.inl ⟨a1, fun j j1 j2 j3 lo hi j4 j5 => ?_⟩
        by_cases c9 : j = k
        · subst c9
          exact z j3 lo hi j4 j5
        · exact a2 j (by omega) j2 j3 lo hi j4 j5
      · exact Or.inr a1
    rw [r7, n7, Int.toNat_natCast]
    refine ⟨s0, k7, ⟨by omega, by omega⟩, fun z => (x_So_wayFrom (d := d) hg hL (show k < cn by omega)).mono (fun x M' q => ?_), fun z => x_fu63 hl h2 (by omega) hI (Or.inl rfl) (fun _ => ih l1 un M (by omega) hu (ext (fun w => absurd w z)) hI) (fun M' hI' => ih 1 (un + 1) M' (by omega) (by omega) (Or.inr ⟨rfl, by omega⟩) hI')⟩
    obtain ⟨e, lo, hi, ⟨e1, e2⟩, hx⟩ := q
    rw [e]
    obtain ⟨lo', hi', f1, f2, f3, f4⟩ := hL k (by omega)
    have xi : i32 x := by
      rcases hx with ⟨e, -⟩ | ⟨-, c, e3, e4, e5⟩
      · rw [e]; exact ⟨by decide, by decide⟩
      · exact ⟨by omega, by omega⟩
    refine ⟨xi, o, x_fu63 hl h2 (by omega) hI ?_ (fun xe => ih l1 un M (by omega) hu (ext (fun _ lo2 hi2 a1 a2 => ?_)) hI) (fun M' hI' => ih 1 (un + 1) M' (by omega) (by omega) (Or.inr ⟨rfl, by omega⟩) hI')⟩
    · rcases hx with ⟨y, -⟩ | ⟨y, c, e3, e4, e5⟩
      · exact Or.inl y
      · exact Or.inr ⟨z, lo, hi, c, ⟨e1, e2⟩, y, e3, e4, e5⟩
    · have el : lo2 = lo := by rw [e1] at a1; omega
      have eh : hi2 = hi := by rw [e2] at a2; omega
      subst el
      subst eh
      rcases hx with ⟨-, y⟩ | ⟨-, c, e3, -⟩
      · exact y
      · omega
theorem x_So_findUnknown (h : SG M s g cn cc bc) (hL : LHs M s cn cc) : Ci G y_So_findUnknown (d + 2) [vr s] M (fuR M s g cn cc bc) := by
  obtain ⟨o, ⟨⟨s0, gs⟩, ⟨-, -, -, -, -, -, -, r7, -⟩, ⟨-, -, -, -, k7, -⟩, ⟨-, -, -, -, n7, -⟩⟩, -, -, hT⟩ := id h
  refine k_So_findUnknown o ⟨s0, fun M2 e2 => ?_⟩
  have f2 : FI (fun z => z = s) M M2 := by rw [e2]; exact FI.ui rfl
  have o2 : mOk M2 := by rw [e2]; exact mOk_UI o ⟨by decide, by decide⟩
  rw [f2.2.2.1, r7]
  refine (s_JA_fill (d := d + 1) o2 (by rw [f2.1]; exact k7) (by rw [f2.2.1, n7]; decide) ⟨by decide, by decide⟩).mono (fun M4 q => ?_)
  obtain ⟨o4, f4, i4⟩ := q
  rw [f2.2.1, n7] at i4
  have ff : FI (Sun s) M M4 := (f2.mono (fun _ u => Or.inl u)).trans (f4.mono (fun _ u => Or.inr (Or.inl u)))
  have z9 : ∀ (f : Nat → Int) (n : Nat), n ≤ 512 → sm (fun k => if mI M4 (s + 124) k = -1 then 0 else f k) n = 0 := fun f n => by
    induction n with
    | zero => exact fun _ => rfl
    | succ n ih =>
      intro hn
      show sm (fun k => if mI M4 (s + 124) k = -1 then 0 else f k) n + (if mI M4 (s + 124) n = -1 then 0 else f n) = 0
      rw [ih (by omega), if_pos (i4 n (by omega))]
      all_goals rfl
  have cn5 := hT.1.1
  have I4 : fuX M s g cn cc bc 0 M4 := ⟨ff, h.fi ff o4 (sun_g h), fun j hj => by rw [ff.2.2.2.2.2.2 (s + 122) (fun u => by unfold Sun at u; omega), ff.2.2.2.2.2.2 (s + 123) (fun u => by unfold Sun at u; omega)]; exact hL j hj, ⟨by rw [f4.2.2.2.2.2.2 s (show ¬ s = s + 124 by first | rfl | omega), mI_ui s 10 e2, if_pos ⟨rfl, rfl⟩]; rfl, by decide, fun k hk => Or.inl (i4 k hk), fun i hi => absurd hi (by omega)⟩, fun k hk u => absurd (i4 k (by omega)) u, fun f => (z9 f cn cn5).symm⟩
  refine ⟨o4, ?_⟩
  suffices HH : ∀ (t sw : Nat) (l1 : Int) (un : Nat) (M1 : mM), 513 ≤ sw + t → sw ≤ 513 → ((l1 = 0 ∧ noM M1 s g cn 0) ∨ (l1 = 1 ∧ sw ≤ un)) → fuX M s g cn cc bc un M1 → h_So_findUnknown_17 G (d + 1) s l1 sw M1 (fuR M s g cn cc bc) from HH 513 0 1 0 M4 (by omega) (by omega) (Or.inr ⟨rfl, Nat.le_refl _⟩) I4
  intro t
  induction t with
  | zero =>
    intro sw l1 un M1 h1 h2 hl hI
    have u40 := hI.2.2.2.1.2.1
    have lb : l1 = 0 ∨ l1 = 1 := by omega
    have fin : (512 : Int) < sw ∨ l1 = 0 → fuR M s g cn cc bc 1 M1 := fun u => ⟨un, hI, Or.inl ⟨rfl, by
      rcases hl with hl | hl
      · exact hl.2
      · exfalso
        omega⟩⟩
    exact k_So_findUnknown_17 hI.2.1.1 (m_b32 lb) ⟨by omega, by omega⟩ ⟨fin, fun u => absurd (Or.inl (by omega)) u⟩
  | succ t ih =>
    intro sw l1 un M1 h1 h2 hl hI
    have u40 := hI.2.2.2.1.2.1
    have lb : l1 = 0 ∨ l1 = 1 := by omega
    have fin : (512 : Int) < sw ∨ l1 = 0 → fuR M s g cn cc bc 1 M1 := fun u => ⟨un, hI, Or.inl ⟨rfl, by
      rcases hl with hl | hl
      · exact hl.2
      · exfalso
        omega⟩⟩
    refine k_So_findUnknown_17 hI.2.1.1 (m_b32 lb) ⟨by omega, by omega⟩ ⟨fin, fun u => ?_⟩
    obtain ⟨-, ⟨⟨s0', -⟩, ⟨-, -, -, r3, -⟩, -⟩, ⟨g0, -⟩, -, hT'⟩ := id hI.2.1
    rw [r3, hT'.2.2.2]
    have sl : sw ≤ 512 := by
      by_cases c : (512 : Int) < sw
      · exact absurd (Or.inl c) u
      · omega
    refine ⟨s0', g0, x_fu40 (u0 := un) ⟨by omega, by omega⟩ (fun l1' un' M' hI' h1' => ?_) cn 0 un M1 (Nat.le_refl _) (Nat.le_refl _) (Or.inl ⟨rfl, fun j j1 j2 => absurd j2 (by omega)⟩) hI⟩
    rw [show ((sw : Int) + 1) = ((sw + 1 : Nat) : Int) by first | rfl | omega]
    refine ih (sw + 1) l1' un' M' (by omega) (by omega) ?_ hI'
    rcases h1' with y | ⟨y1, y2⟩
    · exact Or.inl y
    · refine Or.inr ⟨y1, ?_⟩
      have : l1 = 1 := by
        rcases lb with z | z
        · exact absurd (Or.inr z) u
        · exact z
      omega
end NBZ
end
section
/-! The class's Solver: the weights exactly. -/
section NBW
variable {G : mG} {d s g cn cc bc i k n c lo hi un : Nat} {M M0 M' M1 M2 M3 : mM}
theorem p2m9 : ∀ (w v : Nat), v ≤ w → (2 : Int) ^ v ≤ 2 ^ w ∧ (0 : Int) < 2 ^ w
  | 0, v, h => by
    have e : v = 0 := by omega
    rw [e]
    exact ⟨Int.le_refl _, by decide⟩
  | w + 1, v, h => by
    have e : (2 : Int) ^ (w + 1) = 2 ^ w * 2 := Int.pow_succ 2 w
    have p := (p2m9 w 0 (by omega)).2
    by_cases c : v = w + 1
    · rw [c]
      exact ⟨Int.le_refl _, by rw [e]; omega⟩
    · have q := (p2m9 w v (by omega)).1
      exact ⟨by rw [e]; omega, by rw [e]; omega⟩
theorem wt_1 : wtA9 1 1 := by
  refine ⟨by decide, fun v hv => ?_⟩
  have e : v = 0 := by omega
  rw [e]
  decide
/-- gr is the greatest multiple of the commands from lo to c, at least 1 -/
def gmC (M : mM) (g lo c : Nat) (gr : Int) : Prop := (∀ c', lo ≤ c' → c' < c → mI M (g + 6) c' ≤ gr) ∧ (gr = 1 ∨ ∃ c', lo ≤ c' ∧ c' < c ∧ mI M (g + 6) c' = gr)
theorem gmC.step {gr v mu : Int} (h : gmC M g lo c gr) (hc : lo ≤ c) (e : mI M (g + 6) c = mu) (hv : (v = gr ∧ mu ≤ gr) ∨ (v = mu ∧ gr ≤ mu)) : gmC M g lo (c + 1) v := by
  refine ⟨fun c' a b => ?_, ?_⟩
  · by_cases z : c' = c
    · rw [z, e]
      rcases hv with y | y
      · rw [y.1]; exact y.2
      · rw [y.1]; exact Int.le_refl _
    · have q := h.1 c' a (by omega)
      rcases hv with y | y
      · rw [y.1]; exact q
      · rw [y.1]; exact Int.le_trans q y.2
  · rcases hv with y | y
    · rw [y.1]
      rcases h.2 with z | ⟨c', a, b, z⟩
      · exact Or.inl z
      · exact Or.inr ⟨c', a, by omega, z⟩
    · exact Or.inr ⟨c, hc, by omega, by rw [y.1]; exact e⟩
/-- the weight of the i-th unknown state -/
def weC (M : mM) (s g i w : Nat) : Prop := ∃ (k lo hi : Nat) (gr : Int), mI M (s + 125) i = ((k : Nat) : Int) ∧ mI M (s + 122) k = ((lo : Nat) : Int) ∧ mI M (s + 123) k = ((hi : Nat) : Int) ∧ gmC M g lo hi gr ∧ 1 ≤ gr ∧ wtA9 gr w
def wesX (M : mM) (s g un : Nat) (x : Int) (M' : mM) : Prop := M' = M ∧ ∃ wt : Nat → Nat, x = ((wsu wt un : Nat) : Int) ∧ ∀ i, i < un → weC M s g i (wt i) ∧ wt i ≤ 33
theorem x_wgh27 {l1 : Int} {hi' : Nat} (hg : SG M s g cn cc bc) (hL : LHs M s cn cc) (hU : Unk M s cn un) (hi : i < un) (hl : 0 ≤ l1 ∧ l1 ≤ 100000) (e1 : mI M (s + 125) i = ((k : Nat) : Int)) (hk : k < cn) (e2 : mI M (s + 122) k = ((lo : Nat) : Int)) (e3 : mI M (s + 123) k = ((hi' : Nat) : Int)) (lh : lo ≤ hi' ∧ hi' ≤ cc)
    (hQ : ∀ w : Nat, w ≤ 33 → weC M s g i w → h_So_weights_4 G d s (l1 + ((w : Nat) : Int)) ((i + 1 : Nat) : Int) M (wesX M s g un)) : ∀ (t c : Nat) (gr : Int), hi' ≤ c + t → lo ≤ c → c ≤ hi' → 1 ≤ gr → gr < 1000000000 → gmC M g lo c gr → h_So_weights_27 G d s l1 i gr c M (wesX M s g un) := by
  obtain ⟨o, ⟨⟨s0, gs⟩, ⟨-, -, -, r3, -, r5, r6, -, r8, -⟩, ⟨-, -, k5, k6, -, k8, -⟩, ⟨-, -, n5, n6, -, n8, -⟩⟩, ⟨g0, ⟨-, -, q6, -⟩, gk, ⟨-, -, m6, -⟩⟩, -, hT⟩ := id hg
  obtain ⟨hc1, hc2, hc3⟩ := hT.1
  have u40 := hU.2.1
  have fin : ∀ (c : Nat) (gr : Int), c = hi' → 1 ≤ gr → gr < 1000000000 → gmC M g lo c gr → Ci G y_JI_nlz d [vi (gr - 1)] M (fun x23 M22 => i32 x23 ∧ mOk M22 ∧ (h_So_weights_4 G d s (l1 + (33 - x23)) ((i : Int) + 1) M22 (wesX M s g un))) := by
    intro c gr ec g1 g2 gm
    have wo : ∀ w : Nat, wtA9 gr w → weC M s g i w := fun w hw => ⟨k, lo, hi', gr, e1, e2, e3, by rw [← ec]; exact gm, g1, hw⟩
    rw [show ((i : Int) + 1) = ((i + 1 : Nat) : Int) by first | rfl | omega]
    by_cases z : gr = 1
    · rw [z, show (1 : Int) - 1 = 0 by decide]
      refine (s_nlz0 (d := d) o).mono (fun x M' q => ?_)
      rw [q.1, q.2]
      refine ⟨⟨by decide, by decide⟩, o, ?_⟩
      have := hQ 1 (by decide) (wo 1 (by rw [z]; exact wt_1))
      rw [show l1 + (33 - 32) = l1 + ((1 : Nat) : Int) by first | rfl | omega]
      exact this
    · refine (s_nlz (d := d) (show 0 < gr - 1 by omega) ⟨by omega, by omega⟩ o).mono (fun x M' q => ?_)
      obtain ⟨e, kk, ek, k31, q1, q2⟩ := q
      rw [e, ek]
      refine ⟨⟨by omega, by omega⟩, o, ?_⟩
      have p1 : (2 : Int) ^ (33 - kk) = 2 ^ (32 - kk) * 2 := by rw [show 33 - kk = (32 - kk) + 1 by first | rfl | omega, Int.pow_succ]
      have p2 : (2 : Int) ^ (32 - kk) = 2 ^ (31 - kk) * 2 := by rw [show 32 - kk = (31 - kk) + 1 by first | rfl | omega, Int.pow_succ]
      have w1 : wtA9 gr (33 - kk) := ⟨by rw [p1]; omega, fun v hv => by
        have := p2m9 (32 - kk) v (by omega)
        omega⟩
      have := hQ (33 - kk) (by omega) (wo _ w1)
      rw [show l1 + (33 - ((kk : Nat) : Int)) = l1 + ((33 - kk : Nat) : Int) by first | rfl | omega]
      exact this
  intro t
  induction t with
  | zero =>
    intro c gr h1 h2 h3 g1 g2 gm
    refine k_So_weights_27 o ⟨by omega, by omega⟩ ⟨by omega, by omega⟩ ⟨by omega, by omega⟩ ⟨by omega, by omega⟩ ?_
    rw [r8, n8, r6, n6, Int.toNat_natCast, e1, Int.toNat_natCast, e3]
    exact ⟨s0, k8, ⟨by omega, by omega⟩, k6, ⟨by omega, by omega⟩, fun _ => fin c gr (by omega) g1 g2 gm, fun u => absurd (by omega) u⟩
  | succ t ih =>
    intro c gr h1 h2 h3 g1 g2 gm
    refine k_So_weights_27 o ⟨by omega, by omega⟩ ⟨by omega, by omega⟩ ⟨by omega, by omega⟩ ⟨by omega, by omega⟩ ?_
    rw [r8, n8, r6, n6, Int.toNat_natCast, e1, Int.toNat_natCast, e3]
    refine ⟨s0, k8, ⟨by omega, by omega⟩, k6, ⟨by omega, by omega⟩, fun u => fin c gr (by omega) g1 g2 gm, fun u => ?_⟩
    obtain ⟨x, y, mu, -, -, -, -, -, e6, mu1, mu2, -⟩ := hT.2.1 c (by omega)
    rw [r3, q6, m6, Int.toNat_natCast, show ((c : Int) + 1) = ((c + 1 : Nat) : Int) by first | rfl | omega, e6]
    refine ⟨g0, gk 6 (by decide) (by decide), ⟨by omega, by omega⟩, ih (c + 1) _ (by omega) (by omega) (by omega) ?_ ?_ ?_⟩
    · split <;> omega
    · split <;> omega
    · refine gm.step h2 e6 ?_
      split <;> omega
theorem x_So_weights (hg : SG M s g cn cc bc) (hL : LHs M s cn cc) (hU : Unk M s cn un) : Ci G y_So_weights (d + 1) [vr s] M (wesX M s g un) := by
  obtain ⟨o, ⟨⟨s0, gs⟩, ⟨-, -, -, r3, -, r5, r6, -, r8, -⟩, ⟨-, -, k5, k6, -, k8, -⟩, ⟨-, -, n5, n6, -, n8, -⟩⟩, -, -, hT⟩ := id hg
  obtain ⟨hc1, hc2, hc3⟩ := hT.1
  obtain ⟨u1, u2, u3, u4⟩ := id hU
  refine k_So_weights o ?_
  suffices HH : ∀ (t i : Nat) (wt : Nat → Nat), un ≤ i + t → i ≤ un → (∀ j, j < i → weC M s g j (wt j) ∧ wt j ≤ 33) → wsu wt i ≤ 33 * i → h_So_weights_4 G d s ((wsu wt i : Nat) : Int) i M (wesX M s g un) from HH un 0 (fun _ => 0) (by omega) (by omega) (fun j hj => absurd hj (by omega)) (by decide)
  intro t
  induction t with
  | zero =>
    intro i wt h1 h2 hw hb
    have ei : i = un := by omega
    subst ei
    refine k_So_weights_4 o ⟨by omega, by omega⟩ ⟨by omega, by omega⟩ ?_
    rw [u1]
    exact ⟨s0, fun _ => ⟨rfl, wt, rfl, hw⟩, fun u => absurd (Int.le_refl _) u⟩
  | succ t ih =>
    intro i wt h1 h2 hw hb
    by_cases ei : i = un
    · exact ih i wt (by omega) h2 hw hb
    have hi : i < un := by omega
    obtain ⟨k, c, lo, hi', e1, hk, e4, e2, e3, l1, l2⟩ := u4 i hi
    obtain ⟨lo', hi2, f1, f2, f3, f4⟩ := hL k hk
    refine k_So_weights_4 o ⟨by omega, by omega⟩ ⟨by omega, by omega⟩ ?_
    rw [u1, r8, n8, r5, n5, Int.toNat_natCast, e1, Int.toNat_natCast, e2]
    refine ⟨s0, fun u => absurd u (by omega), fun _ => ⟨k8, ⟨by omega, by omega⟩, k5, ⟨by omega, by omega⟩, ?_⟩⟩
    refine x_wgh27 hg hL hU hi ⟨by omega, by omega⟩ e1 hk e2 e3 ⟨by omega, by omega⟩ (fun w w33 wo => ?_) (hi' - lo) lo 1 (by omega) (Nat.le_refl _) (by omega) (by decide) (by decide) ⟨fun c' h1 h2 => absurd h2 (by omega), Or.inl rfl⟩
    have cg : wsu (fun j => if j = i then w else wt j) i = wsu wt i := wsu_cg i (fun j hj => by rw [if_neg (by omega)])
    have sm : wsu (fun j => if j = i then w else wt j) (i + 1) = wsu wt i + w := by
      show wsu (fun j => if j = i then w else wt j) i + (if i = i then w else wt i) = _
      rw [cg, if_pos rfl]
    have := ih (i + 1) (fun j => if j = i then w else wt j) (by omega) (by omega) (fun j hj => by
      by_cases cj : j = i
      · show weC M s g j (if j = i then w else wt j) ∧ (if j = i then w else wt j) ≤ 33
        rw [if_pos cj, cj]; exact ⟨wo, w33⟩
      · show weC M s g j (if j = i then w else wt j) ∧ (if j = i then w else wt j) ≤ 33
        rw [if_neg cj]; exact hw j (by omega)) (by rw [sm]; omega)
    rw [sm] at this
    rw [show ((wsu wt i : Nat) : Int) + ((w : Nat) : Int) = ((wsu wt i + w : Nat) : Int) by first | rfl | omega]
    exact this
end NBW
end
section
/-! The class's unknown states are the least closed set. -/
section NCS
variable {T : xt9} {J J' : Nat → Prop} {x : Int × List sc9} {s g cn cc bc k lo hi un : Nat} {M M0 M' : mM} {r : Int}
/-- the game's tables, with the commands that are left, are T's -/
def ClT (M : mM) (s g cn : Nat) (T : xt9) : Prop := T.length = cn ∧ ∀ (k : Nat) (x : Int × List sc9), T[k]? = some x → mI M (g + 2) k = x.1 ∧ (x.1 = 1 ∨ x.1 = 2 ∨ x.2 = []) ∧ ∃ lo : Nat, mI M (s + 122) k = ((lo : Nat) : Int) ∧ mI M (s + 123) k = ((lo + x.2.length : Nat) : Int) ∧ ∀ (i : Nat) (c : sc9), x.2[i]? = some c → mI M (g + 6) (lo + i) = c.2.1 ∧ (∀ b, b ∈ c.2.2 → b.1 < cn) ∧ ∀ J : Nat → Prop, (∃ j : Nat, mI M (g + 7) (lo + i) ≤ j ∧ (j : Int) < mI M (g + 7) (lo + i + 1) ∧ J (mI M (g + 8) j).toNat) ↔ ldA9 J c
def coG (J : Nat → Prop) (M : mM) (g k lo hi : Nat) : Prop := (mI M (g + 2) k = 1 ∧ ∃ c : Nat, lo ≤ c ∧ c < hi ∧ ∃ j : Nat, mI M (g + 7) c ≤ j ∧ (j : Int) < mI M (g + 7) (c + 1) ∧ J (mI M (g + 8) j).toNat) ∨ (mI M (g + 2) k ≠ 1 ∧ lo < hi ∧ ∀ c : Nat, lo ≤ c → c < hi → ∃ j : Nat, mI M (g + 7) c ≤ j ∧ (j : Int) < mI M (g + 7) (c + 1) ∧ J (mI M (g + 8) j).toNat)
theorem coG_iff (h : ClT M s g cn T) (hx : T[k]? = some x) (h1 : mI M (s + 122) k = ((lo : Nat) : Int)) (h2 : mI M (s + 123) k = ((hi : Nat) : Int)) : coG J M g k lo hi ↔ coA9 J x := by
  obtain ⟨a1, a2, l, a3, a4, a5⟩ := h.2 k x hx
  have el : l = lo := by rw [h1] at a3; omega
  subst el
  have eh : hi = l + x.2.length := by rw [h2] at a4; omega
  subst eh
  unfold coG coA9
  rw [a1]
  constructor
  · intro u
    rcases u with ⟨u1, c, u2, u3, u4⟩ | ⟨u1, u2, u3⟩
    · have g9 := List.getElem?_eq_getElem (l := x.2) (i := c - l) (by omega)
      have e : l + (c - l) = c := by omega
      have q := (a5 (c - l) _ g9).2.2 J
      rw [e] at q
      exact Or.inl ⟨u1, _, List.mem_of_getElem? g9, q.mp u4⟩
    · refine Or.inr ⟨?_, fun e => by rw [e] at u2; exact absurd u2 (by simp), fun c hc => ?_⟩
      · rcases a2 with y | y | y
        · exact absurd y u1
        · exact y
        · rw [y] at u2
          exact absurd u2 (by simp)
      · obtain ⟨i, hi⟩ := List.getElem?_of_mem hc
        have lt := lt_some hi
        exact ((a5 i c hi).2.2 J).mp (u3 (l + i) (by omega) (by omega))
  · intro u
    rcases u with ⟨u1, c, hc, u2⟩ | ⟨u1, u2, u3⟩
    · obtain ⟨i, hi⟩ := List.getElem?_of_mem hc
      have lt := lt_some hi
      exact Or.inl ⟨u1, l + i, by omega, by omega, ((a5 i c hi).2.2 J).mpr u2⟩
    · have ne : x.2.length ≠ 0 := fun e => u2 (List.length_eq_zero_iff.mp e)
      refine Or.inr ⟨by rw [u1]; decide, by omega, fun c c1 c2 => ?_⟩
      have g9 := List.getElem?_eq_getElem (l := x.2) (i := c - l) (by omega)
      have e : l + (c - l) = c := by omega
      have q := (a5 (c - l) _ g9).2.2 J
      rw [e] at q
      exact q.mpr (u3 _ (List.mem_of_getElem? g9))
theorem coA9.mono2 (h : coA9 J x) (m : ∀ c, c ∈ x.2 → ∀ b, b ∈ c.2.2 → J b.1 → J' b.1) : coA9 J' x := by
  rcases h with ⟨h1, c, h2, b, h3, h4⟩ | ⟨h1, h2, h3⟩
  · exact Or.inl ⟨h1, c, h2, b, h3, m c h2 b h3 h4⟩
  · refine Or.inr ⟨h1, h2, fun c hc => ?_⟩
    obtain ⟨b, h4, h5⟩ := h3 c hc
    exact ⟨b, h4, m c hc b h4 h5⟩
/-- marked states lie in every closed set -/
theorem cl_inn (h : ClT M s g cn T) (hs : Slo M s un) (c5 : cn ≤ 512) (hb : mkB M s g cn) (hc : clA9 T J') : ∀ k, (k < cn ∧ jmk M s g k) → J' k := by
  refine rk_in (J := fun k => k < cn ∧ jmk M s g k) (fun k => if mI M (g + 2) k = 3 then 0 else (mI M (s + 124) k).toNat + 1) (fun k hJ => ?_) hc
  obtain ⟨lt, hj⟩ := hJ
  have hx := List.getElem?_eq_getElem (l := T) (i := k) (by rw [h.1]; exact lt)
  refine ⟨_, hx, ?_⟩
  obtain ⟨a1, a2, l, a3, a4, a5⟩ := h.2 k _ hx
  by_cases z : mI M (g + 2) k = 3
  · exact Or.inl (by rw [← a1]; exact z)
  · have sl : mI M (s + 124) k ≠ -1 := hj.resolve_right z
    obtain ⟨lo, hi, ⟨l1, l2⟩, l3⟩ := hb k lt sl
    have sk := (hs k (by omega)).resolve_left sl
    refine Or.inr (((coG_iff (J := jmb M s g (mI M (s + 124) k)) h hx l1 l2).mp l3).mono2 (fun c hc b hb9 w => ?_))
    obtain ⟨i, hi9⟩ := List.getElem?_of_mem hc
    have lb := (a5 i c hi9).2.1 b hb9
    refine ⟨⟨lb, ?_⟩, ?_⟩
    · rcases w with w | w
      · exact Or.inl w.1
      · exact Or.inr w
    · show (if mI M (g + 2) b.1 = 3 then 0 else (mI M (s + 124) b.1).toNat + 1) < (if mI M (g + 2) k = 3 then 0 else (mI M (s + 124) k).toNat + 1)
      rw [if_neg z]
      by_cases y : mI M (g + 2) b.1 = 3
      · rw [if_pos y]
        omega
      · rw [if_neg y]
        have w' := w.resolve_right y
        have sb := (hs b.1 (by omega)).resolve_left w'.1
        omega
/-- all are found: the marks and the targets are the least closed set -/
theorem cl_ls (h : ClT M s g cn T) (hs : Slo M s un) (c5 : cn ≤ 512) (hb : mkB M s g cn) (hn : noM M s g cn 0) : lsA9 T (fun k => k < cn ∧ jmk M s g k) := by
  refine ⟨fun k x hx u => ?_, fun J' hc => cl_inn h hs c5 hb hc⟩
  have lt : k < cn := by rw [← h.1]; exact lt_some hx
  obtain ⟨a1, a2, l, a3, a4, a5⟩ := h.2 k x hx
  refine ⟨lt, ?_⟩
  rcases u with u | u
  · exact Or.inr (by rw [a1]; exact u)
  · refine Or.inl (fun z => ?_)
    exact hn k (Nat.zero_le _) lt z l _ a3 a4 ((coG_iff (J := jmk M s g) h hx a3 a4).mpr (u.mono (fun j hj => hj.2)))
end NCS
end
section
/-! The class's answer is what the least closed set says. -/
section NCR
variable {T : xt9} {J J' : Nat → Prop} {x : Int × List sc9} {s g cn cc bc k lo hi un : Nat} {M M0 M' : mM} {r : Int}
theorem sm_one : ∀ n, sm (fun _ => 1) n = ((n : Nat) : Int)
  | 0 => rfl
  | n + 1 => by
    show sm (fun _ => 1) n + 1 = _
    rw [sm_one n]
    omega
theorem sm_pos {f : Nat → Int} : ∀ n, 0 < sm f n → ∃ i, i < n ∧ f i ≠ 0
  | 0, h => absurd (show (0 : Int) < 0 from h) (by decide)
  | n + 1, h => by
    by_cases c : f n = 0
    · have h' : 0 < sm f n := by
        have : 0 < sm f n + f n := h
        omega
      obtain ⟨i, a, b⟩ := sm_pos n h'
      exact ⟨i, by omega, b⟩
    · exact ⟨n, by omega, c⟩
theorem sm_ge {f : Nat → Int} {k : Nat} (h : ∀ j, 0 ≤ f j) : ∀ n, k < n → f k ≤ sm f n
  | 0, u => absurd u (by omega)
  | n + 1, u => by
    have p : 0 ≤ sm f n := by
      clear u
      induction n with
      | zero => exact Int.le_refl _
      | succ n ih =>
        show 0 ≤ sm f n + f n
        have := h n
        omega
    show f k ≤ sm f n + f n
    by_cases c : k = n
    · rw [c]
      omega
    · have := sm_ge (k := k) h n (by omega)
      have := h n
      omega
/-- the unknown states are just the marked ones -/
theorem un_of (hm : smU M s cn un) (hk : k < cn) (h : mI M (s + 124) k ≠ -1) : ∃ i, i < un ∧ (mI M (s + 125) i).toNat = k := by
  have e := hm (fun j => if j = k then 1 else 0)
  have p : 0 < sm (fun i => if (mI M (s + 125) i).toNat = k then (1 : Int) else 0) un := by
    rw [e]
    have q := sm_ge (f := fun j => if mI M (s + 124) j = -1 then 0 else if j = k then (1 : Int) else 0) (k := k) (fun j => by
      show 0 ≤ (if mI M (s + 124) j = -1 then 0 else if j = k then (1 : Int) else 0)
      split
      · omega
      · split <;> omega) cn hk
    have q2 : (if mI M (s + 124) k = -1 then 0 else if k = k then (1 : Int) else 0) ≤ sm (fun j => if mI M (s + 124) j = -1 then 0 else if j = k then (1 : Int) else 0) cn := q
    rw [if_neg h, if_pos rfl] at q2
    omega
  obtain ⟨i, a, b⟩ := sm_pos un p
  refine ⟨i, a, Classical.byContradiction (fun u => b (if_neg u))⟩
theorem mk_kd (h : ClT M s g cn T) (hb : mkB M s g cn) (hx : T[k]? = some x) (u : mI M (s + 124) k ≠ -1) : x.1 = 1 ∨ x.1 = 2 := by
  have lt : k < cn := by rw [← h.1]; exact lt_some hx
  obtain ⟨lo, hi, ⟨l1, l2⟩, l3⟩ := hb k lt u
  rcases (coG_iff (J := jmb M s g (mI M (s + 124) k)) h hx l1 l2).mp l3 with y | y
  · exact Or.inl y.1
  · exact Or.inr y.1
theorem cl_un (h : ClT M s g cn T) (hb : mkB M s g cn) : unA9 T (fun k => k < cn ∧ jmk M s g k) (fun k => if mI M (s + 124) k = -1 then 0 else 1) := fun k x hx => by
  have lt : k < cn := by rw [← h.1]; exact lt_some hx
  obtain ⟨a1, -⟩ := h.2 k x hx
  refine ⟨fun u => ?_, fun u => ?_⟩
  · show (if mI M (s + 124) k = -1 then (0 : Int) else 1) = 1
    rcases u.1.2 with y | y
    · rw [if_neg y]
    · exact absurd (a1.symm.trans y) u.2
  · show (if mI M (s + 124) k = -1 then (0 : Int) else 1) = 0
    by_cases z : mI M (s + 124) k = -1
    · rw [if_pos z]
    · refine absurd ⟨⟨lt, Or.inl z⟩, ?_⟩ u
      rcases mk_kd h hb hx z with y | y <;> rw [y] <;> decide
/-- a refusal: there are 40, and one more -/
theorem cl_many (h : ClT M s g cn T) (hs : Slo M s 40) (c5 : cn ≤ 512) (hb : mkB M s g cn) (hm : smU M s cn 40) (hk : k < cn) (k0 : mI M (s + 124) k = -1) (l1 : mI M (s + 122) k = ((lo : Nat) : Int)) (l2 : mI M (s + 123) k = ((hi : Nat) : Int)) (hc : coC M s g k lo hi) (inn : ∀ J', clA9 T J' → ∀ j, j < cn → jmk M s g j → J' j) : svA9 T 5 := by
  obtain ⟨e, he⟩ := un_ex (T := T) (fun k => ∀ J', clA9 T J' → J' k)
  refine ⟨_, e, ls_ex, he, Or.inl ⟨?_, rfl⟩⟩
  have o := hm (fun _ => 1)
  rw [sm_one] at o
  obtain ⟨xk, hx⟩ : ∃ y, T[k]? = some y := ⟨_, List.getElem?_eq_getElem (by rw [h.1]; exact hk)⟩
  have ck := (coG_iff (J := jmk M s g) h hx l1 l2).mp hc
  obtain ⟨a1, a2, l, a3, a4, a5⟩ := h.2 k _ hx
  have u := sm_up9 (h := fun k => if mI M (s + 124) k = -1 then (0 : Int) else 1) (h' := fun j => if j = k then 1 else if mI M (s + 124) j = -1 then 0 else 1) (k := k) (v := 1) (by show (if mI M (s + 124) k = -1 then (0 : Int) else 1) = 0; rw [if_pos k0]) (by show (if k = k then (1 : Int) else _) = 1; rw [if_pos rfl]) (fun j hj => by show (if j = k then (1 : Int) else if mI M (s + 124) j = -1 then 0 else 1) = _; rw [if_neg hj]) cn hk
  have le : sm (fun j => if j = k then (1 : Int) else if mI M (s + 124) j = -1 then 0 else 1) cn ≤ sm e cn := sm_le9 cn (fun j hj => by
    obtain ⟨y9, hy⟩ : ∃ y, T[j]? = some y := ⟨_, List.getElem?_eq_getElem (by rw [h.1]; exact hj)⟩
    have hj9 := he j _ hy
    have e0 : 0 ≤ e j := by
      by_cases z : (∀ J', clA9 T J' → J' j) ∧ y9.1 ≠ 3
      · rw [hj9.1 z]; decide
      · rw [hj9.2 z]; decide
    show (if j = k then (1 : Int) else if mI M (s + 124) j = -1 then 0 else 1) ≤ e j
    by_cases c9 : j = k
    · have ey : y9 = xk := by
        rw [c9] at hy
        exact Option.some.inj (hy.symm.trans hx)
      have u1 : (∀ J', clA9 T J' → J' j) ∧ y9.1 ≠ 3 := by
        refine ⟨fun J' hc9 => hc9 j y9 hy (Or.inr ?_), ?_⟩
        · rw [ey]
          refine ck.mono2 (fun c h1 b h2 h3 => ?_)
          obtain ⟨i, hi9⟩ := List.getElem?_of_mem h1
          exact inn J' hc9 b.1 ((a5 i c hi9).2.1 b h2) h3
        · rw [ey]
          rcases ck with y | y <;> rw [y.1] <;> decide
      rw [if_pos c9, hj9.1 u1]
      exact Int.le_refl _
    · rw [if_neg c9]
      by_cases z : mI M (s + 124) j = -1
      · rw [if_pos z]; exact e0
      · have u1 : (∀ J', clA9 T J' → J' j) ∧ y9.1 ≠ 3 := ⟨fun J' hc9 => inn J' hc9 j hj (Or.inl z), by rcases mk_kd h hb hy z with y | y <;> rw [y] <;> decide⟩
        rw [if_neg z, hj9.1 u1]
        exact Int.le_refl _)
  rw [h.1]
  omega
end NCR
end
section
/-! The class's answer where it is not refused for the number of unknown states. -/
section NCQ
variable {T : xt9} {x : Int × List sc9} {s g cn cc bc k lo hi un : Nat} {M : mM} {r : Int}
theorem gm_iff {gr : Int} (h : ClT M s g cn T) (hx : T[k]? = some x) (h1 : mI M (s + 122) k = ((lo : Nat) : Int)) (h2 : mI M (s + 123) k = ((hi : Nat) : Int)) (hg : gmC M g lo hi gr) (g1 : 1 ≤ gr) : gmA9 x.2 gr := by
  obtain ⟨-, -, l, a3, a4, a5⟩ := h.2 k x hx
  have el : l = lo := by rw [h1] at a3; omega
  subst el
  have eh : hi = l + x.2.length := by rw [h2] at a4; omega
  subst eh
  refine ⟨g1, fun c hc => ?_, ?_⟩
  · obtain ⟨i, hi9⟩ := List.getElem?_of_mem hc
    have lt := lt_some hi9
    rw [← (a5 i c hi9).1]
    exact hg.1 (l + i) (by omega) (by omega)
  · rcases hg.2 with y | ⟨c, c1, c2, c3⟩
    · exact Or.inl y
    · have g9 := List.getElem?_eq_getElem (l := x.2) (i := c - l) (by omega)
      have e : l + (c - l) = c := by omega
      have q := (a5 (c - l) _ g9).1
      rw [e] at q
      exact Or.inr ⟨_, List.mem_of_getElem? g9, q.symm.trans c3⟩
theorem wsu_sm {f : Nat → Nat} : ∀ n, ((wsu f n : Nat) : Int) = sm (fun i => ((f i : Nat) : Int)) n
  | 0 => rfl
  | n + 1 => by
    show ((wsu f n + f n : Nat) : Int) = sm (fun i => ((f i : Nat) : Int)) n + ((f n : Nat) : Int)
    rw [← wsu_sm n]
    omega
theorem cl_few {wt : Nat → Nat} (h : ClT M s g cn T) (hs : Slo M s un) (c5 : cn ≤ 512) (u40 : un ≤ 40) (hb : mkB M s g cn) (hm : smU M s cn un) (hn : noM M s g cn 0) (hk : ∀ i, i < un → ∃ k, mI M (s + 125) i = ((k : Nat) : Int) ∧ k < cn) (hw : ∀ i, i < un → weC M s g i (wt i)) (hr : (480 < ((wsu wt un : Nat) : Int) ∧ r = 6) ∨ (((wsu wt un : Nat) : Int) ≤ 480 ∧ r = 0)) : svA9 T r := by
  have ex : ∀ k : Nat, ∃ v : Int, (mI M (s + 124) k = -1 → v = 0) ∧ (mI M (s + 124) k ≠ -1 → ∀ x, T[k]? = some x → weA9 x v) := fun k => by
    by_cases z : mI M (s + 124) k = -1
    · exact ⟨0, fun _ => rfl, fun u => absurd z u⟩
    by_cases lt : k < cn
    · obtain ⟨i, i1, i2⟩ := un_of hm lt z
      obtain ⟨k', lo, hi, gr, w1, w2, w3, w4, w5, w6⟩ := hw i i1
      have ek : k' = k := by rw [w1, Int.toNat_natCast] at i2; exact i2
      subst ek
      exact ⟨((wt i : Nat) : Int), fun u => absurd u z, fun _ x hx => ⟨gr, wt i, gm_iff h hx w2 w3 w4 w5, w6, rfl⟩⟩
    · exact ⟨0, fun u => absurd u z, fun _ x hx => absurd (by rw [← h.1]; exact lt_some hx) lt⟩
  obtain ⟨w, hw9⟩ := Classical.axiomOfChoice ex
  have es : sm (fun k => if mI M (s + 124) k = -1 then (0 : Int) else 1) cn = ((un : Nat) : Int) := by rw [← hm (fun _ => 1), sm_one]
  have ws : sm w cn = ((wsu wt un : Nat) : Int) := by
    have a : sm (fun k => if mI M (s + 124) k = -1 then 0 else w k) cn = sm w cn := sm_congr cn (fun k _ => by
      show (if mI M (s + 124) k = -1 then 0 else w k) = w k
      by_cases z : mI M (s + 124) k = -1
      · rw [if_pos z, (hw9 k).1 z]
      · rw [if_neg z])
    rw [wsu_sm, ← a, ← hm w]
    refine sm_congr un (fun i hi => ?_)
    obtain ⟨k', lo, hi', gr, w1, w2, w3, w4, w5, w6⟩ := hw i hi
    obtain ⟨k2, q1, q2⟩ := hk i hi
    have e2 : k2 = k' := by rw [w1] at q1; omega
    subst e2
    show w (mI M (s + 125) i).toNat = ((wt i : Nat) : Int)
    rw [w1, Int.toNat_natCast]
    obtain ⟨x, hx⟩ : ∃ x, T[k2]? = some x := ⟨_, List.getElem?_eq_getElem (by rw [h.1]; exact q2)⟩
    have nz : mI M (s + 124) k2 ≠ -1 := fun z => by
      have e := hm (fun j => if j = k2 then 1 else 0)
      have p := sm_ge (f := fun i => if (mI M (s + 125) i).toNat = k2 then (1 : Int) else 0) (k := i) (fun j => by
        show 0 ≤ (if (mI M (s + 125) j).toNat = k2 then (1 : Int) else 0)
        split <;> omega) un hi
      have p2 : (if (mI M (s + 125) i).toNat = k2 then (1 : Int) else 0) ≤ sm (fun i => if (mI M (s + 125) i).toNat = k2 then (1 : Int) else 0) un := p
      rw [w1, Int.toNat_natCast, if_pos rfl, e] at p2
      obtain ⟨j, j1, j2⟩ := sm_pos cn (show 0 < sm (fun k => if mI M (s + 124) k = -1 then 0 else if k = k2 then (1 : Int) else 0) cn by first | rfl | omega)
      refine j2 ?_
      show (if mI M (s + 124) j = -1 then 0 else if j = k2 then (1 : Int) else 0) = 0
      by_cases c9 : j = k2
      · rw [c9, if_pos z]
      · rw [if_neg c9]
        split <;> rfl
    exact ((hw9 k2).2 nz x hx).same ⟨gr, wt i, gm_iff h hx w2 w3 w4 w5, w6, rfl⟩
  refine ⟨_, _, cl_ls h hs c5 hb hn, cl_un h hb, Or.inr ⟨by rw [h.1, es]; omega, w, fun k x hx => ⟨fun u => ?_, fun u => ?_⟩, by rw [h.1, ws]; exact hr⟩⟩
  · refine (hw9 k).2 (fun z => ?_) x hx
    have u' : (if mI M (s + 124) k = -1 then (0 : Int) else 1) = 1 := u
    rw [if_pos z] at u'
    exact absurd u' (by decide)
  · refine (hw9 k).1 (Classical.byContradiction (fun z => ?_))
    have u' : (if mI M (s + 124) k = -1 then (0 : Int) else 1) = 0 := u
    rw [if_neg z] at u'
    exact absurd u' (by decide)
end NCQ
end
section
/-! The class's tables, with all commands left, are those of what was explored. -/
section NCT
variable {T : xt9} {s g cn cc bc k i un : Nat} {M M' : mM}
theorem weC.wto {w : Nat} (h : weC M s g i w) : wtO M s g i w := by
  obtain ⟨k, lo, hi, gr, a1, a2, a3, a4, a5, a6⟩ := h
  intro k' lo' hi' c e1 e2 e3 c1 c2
  have ek : k' = k := by rw [a1] at e1; omega
  subst ek
  have el : lo' = lo := by rw [a2] at e2; omega
  have eh : hi' = hi := by rw [a3] at e3; omega
  subst el
  subst eh
  have b1 := a4.1 c c1 c2
  have b2 := a6.1
  omega
theorem clt_of (hT : GTT M g cn cc bc) (lx : ∀ k, k < cn → mI M' (s + 122) k = mI M (g + 4) k ∧ mI M' (s + 123) k = mI M (g + 4) (k + 1)) (e : ∀ i, i ≤ 9 → mI M' (g + i) = mI M (g + i)) (hk : kdT (xtm M g cn)) : ClT M' s g cn (xtm M g cn) := by
  refine ⟨by rw [xtm_map, List.length_map, List.length_range], fun k x hx => ?_⟩
  rw [xtm_map, rget] at hx
  by_cases hk9 : k < cn
  · rw [if_pos hk9] at hx
    have ex := Option.some.inj hx
    have kk := hk x (by rw [xtm_map]; exact List.mem_map.mpr ⟨k, List.mem_range.mpr hk9, ex⟩)
    obtain ⟨lo, hi, f1, f2, f3, f4⟩ := hT.2.2.1 k hk9
    have l2 : x.2 = cml M g lo (hi - lo) := by
      rw [← ex]
      unfold stm
      rw [f1, f2, Int.toNat_natCast, Int.toNat_natCast]
    have len : x.2.length = hi - lo := by rw [l2, cml_map, List.length_map, List.length_range]
    refine ⟨by rw [e 2 (by decide), ← ex]; rfl, kk, lo, by rw [(lx k hk9).1, f1], by rw [(lx k hk9).2, f2, len]; omega, fun i c hc => ?_⟩
    rw [l2, cml_map, rget] at hc
    by_cases hi9 : i < hi - lo
    · rw [if_pos hi9] at hc
      have ec := Option.some.inj hc
      obtain ⟨a, b, mu, c1, c2, c3, c4, c5, -⟩ := hT.2.1 (lo + i) (by omega)
      have bl : c.2.2 = (List.range (b - a)).map (fun t => ((mI M (g + 8) (a + t)).toNat, mI M (g + 9) (a + t))) := by
        rw [← ec]
        unfold cmm
        rw [c1, c2, Int.toNat_natCast, Int.toNat_natCast, brl_map]
      refine ⟨by rw [e 6 (by decide), ← ec]; rfl, fun y hy => ?_, fun J => ?_⟩
      · rw [bl] at hy
        obtain ⟨t, t1, t2⟩ := List.mem_map.mp hy
        have t3 := List.mem_range.mp t1
        have t4 := c5 (a + t) (by omega) (by omega)
        rw [← t2]
        show (mI M (g + 8) (a + t)).toNat < cn
        omega
      · rw [e 7 (by decide), e 8 (by decide), c1, c2]
        unfold ldA9
        rw [bl]
        constructor
        · rintro ⟨j, u1, u2, u3⟩
          refine ⟨_, List.mem_map.mpr ⟨j - a, List.mem_range.mpr (by omega), rfl⟩, ?_⟩
          show J (mI M (g + 8) (a + (j - a))).toNat
          rw [show a + (j - a) = j by first | rfl | omega]
          exact u3
        · rintro ⟨y, y1, y2⟩
          obtain ⟨t, t1, t2⟩ := List.mem_map.mp y1
          have t3 := List.mem_range.mp t1
          refine ⟨a + t, by omega, by omega, ?_⟩
          rw [← t2] at y2
          exact y2
    · rw [if_neg hi9] at hc
      cases hc
  · rw [if_neg hk9] at hx
    cases hx
end NCT
end
section
/-! The class's Solver: one frame for all its steps. -/
section NBQ
variable {G : mG} {d s g z e a R cn cc bc i k n c lo hi un x f : Nat} {M M0 M' M1 M2 M3 : mM} {L : List Nat} {W : Nat → Nat} {T T' I C C' S : Nat → Prop} {r r' : Prop}
/-- numbers of T, ints of the cells of C, the Scales' longs, and (where r) its own references -/
def NX (L : List Nat) (W : Nat → Nat) (T C : Nat → Prop) (r : Prop) (z : Nat) (M M' : mM) : Prop := (mOk M' ∧ NF L W M') ∧ ((∀ t, T t → t ∈ L) ∧ (∀ x, C x → Oc L M x) ∧ (z < mZ M ∧ mK M z = 9)) ∧ FD (fun x => nsS M T x ∨ C x) (fun x => T x ∨ (x = z ∧ r)) (fun x => x = z + 13 ∨ x + 1 = z) M M' ∧ (∀ t, T t → mR M' t 0 = mR M t 0 ∨ mZ M ≤ mR M' t 0) ∧ RmN L M M'
theorem NX.ok (h : NX L W T C r z M M') : mOk M' := h.1.1
theorem NX.nf (h : NX L W T C r z M M') : NF L W M' := h.1.2
theorem NX.kind (h : NX L W T C r z M M') (hx : x < mZ M) : mK M' x = mK M x := (h.2.2.1.2 x hx).1
theorem NX.num {b : Nat} (h : NX L W T C r z M M') (hF : NF L W M) (hb : b ∈ L) (hT : ¬ T b) : mR M' b = mR M b ∧ sz M' b = sz M b ∧ nv M' b = nv M b := by
  obtain ⟨-, ⟨h2, hC, hz⟩, h3, h4, -⟩ := h
  obtain ⟨z1, z2⟩ := hF.lt hb
  have n1 : ¬ (nsS M T b ∨ C b) := by
    rintro ((u | ⟨t, ht, u⟩) | u)
    · exact hT u
    · exact hF.na hb (h2 t ht) u
    · exact (hC b u).2.1 hb
  have n2 : ¬ (nsS M T (mR M b 0) ∨ C (mR M b 0)) := by
    rintro ((u | ⟨t, ht, u⟩) | u)
    · exact hF.na (h2 _ u) hb rfl
    · exact hT (by rw [hF.2.2 b t hb (h2 t ht) u]; exact ht)
    · exact (hC _ u).2.2 b hb rfl
  have a1 := (h3.2 b z1).2.2.2.1 (fun u => u.elim hT (fun u => (hF.nz hz.2 hb).1 u.1))
  have a2 := (h3.2 b z1).2.2.2.2 n1
  have a3 := (h3.2 _ z2).2.2.2.2 n2
  have a4 : sz M' b = sz M b := by unfold sz; rw [a2]
  exact ⟨a1, a4, by unfold nv; rw [a4, a1, a3]⟩
theorem NX.oc (h : NX L W T C r z M M') (hF : NF L W M) (hx : Oc L M x) : Oc L M' x := by
  refine ⟨Nat.lt_of_lt_of_le hx.1 h.2.2.1.1.1, hx.2.1, fun a ha u => ?_⟩
  by_cases c : T a
  · rcases h.2.2.2.1 a c with q | q
    · exact hx.2.2 a ha (by rw [← q]; exact u)
    · have := hx.1
      omega
  · rw [(h.num hF ha c).1] at u
    exact hx.2.2 a ha u
theorem NX.oth (h : NX L W T C r z M M') (hx : Oc L M x) (hz : x ≠ z) : mK M' x = mK M x ∧ mN M' x = mN M x ∧ mR M' x = mR M x ∧ (¬ C x → mI M' x = mI M x) := by
  obtain ⟨-, ⟨h2, -, -⟩, h3, -, -⟩ := h
  obtain ⟨a1, a2, a3, a4, a5⟩ := h3.2 x hx.1
  refine ⟨a1, a2, a4 (fun u => u.elim (fun u => hx.2.1 (h2 x u)) (fun u => hz u.1)), fun ni => a5 ?_⟩
  rintro ((u | ⟨t, ht, u⟩) | u)
  · exact hx.2.1 (h2 x u)
  · exact hx.2.2 t (h2 t ht) u.symm
  · exact ni u
theorem NX.trans (h : NX L W T C r z M M1) (k : NX L W T C r z M1 M2) : NX L W T C r z M M2 := by
  obtain ⟨-, h2, h3, h4, h5⟩ := h
  obtain ⟨k1, -, k3, k4, k5⟩ := k
  refine ⟨k1, h2, h3.trans2 k3 ?_ (fun _ _ y => y) (fun _ _ y => y), fun t ht => ?_, h5.trans k5⟩
  · intro x hx u
    rcases u with (u | ⟨t, ht, u⟩) | u
    · exact Or.inl (Or.inl u)
    · rcases h4 t ht with q | q
      · exact Or.inl (Or.inr ⟨t, ht, by rw [u, q]⟩)
      · omega
    · exact Or.inr u
  · rcases k4 t ht with q | q
    · rw [q]; exact h4 t ht
    · exact Or.inr (Nat.le_trans h3.1.1 q)
theorem NX.mono (h : NX L W T C r z M M1) (hr : NF L W M) (hT : ∀ t, T t → T' t) (hL : ∀ t, T' t → t ∈ L) (hC : ∀ x, C x → C' x) (hC' : ∀ x, C' x → Oc L M x) (rr : r → r') : NX L W T' C' r' z M M1 := by
  obtain ⟨h1, ⟨-, -, hz⟩, h3, h4, h5⟩ := h
  refine ⟨h1, ⟨hL, hC', hz⟩, h3.mono (fun x _ u => ?_) (fun x _ u => u.elim (fun u => Or.inl (hT x u)) (fun u => Or.inr ⟨u.1, rr u.2⟩)) (fun _ _ u => u), fun t ht => ?_, h5⟩
  · rcases u with (u | ⟨t, ht, u⟩) | u
    · exact Or.inl (Or.inl (hT x u))
    · exact Or.inl (Or.inr ⟨t, hT t ht, u⟩)
    · exact Or.inr (hC x u)
  · by_cases c : T t
    · exact h4 t c
    · refine Or.inl ?_
      rw [(h3.2 t (hr.lt (hL t ht)).1).2.2.2.1 (fun u => u.elim c (fun u => (hr.nz hz.2 (hL t ht)).1 u.1))]
theorem NX.refl (hO : mOk M) (h : NF L W M) (hT : ∀ t, T t → t ∈ L) (hC : ∀ x, C x → Oc L M x) (hz : z < mZ M ∧ mK M z = 9) : NX L W T C r z M M := ⟨⟨hO, h⟩, ⟨hT, hC, hz⟩, FD.refl, fun _ _ => Or.inl rfl, RmN.refl⟩
/-- a fraction's cell is another cell -/
theorem NF.ocf (hF : NF L W M) (hx : x < mZ M) (hk : mK M x = 11) : Oc L M x := ⟨hx, fun u => (hF.nI hk u).1 rfl, fun a ha => (hF.nI hk ha).2⟩
theorem NL.nx (h : NL L W T I r z M M') (hF : NF L W M) : NX L W T I r z M M' := by
  obtain ⟨h1, ⟨h2, hI, hz⟩, h3, h4, h5⟩ := h
  exact ⟨h1, ⟨h2, fun x u => hF.ocf (hI x u).1 (hI x u).2, hz⟩, h3.mono (fun _ _ u => u) (fun _ _ u => u) (fun _ _ u => Or.inl u), h4, h5⟩
theorem NR.nx (h : NR L W e M M') (hK : RsK L M e) (hz : z < mZ M ∧ mK M z = 9) : NX L W (Trs e) (S36 e) False z M M' := by
  obtain ⟨h1, h3, h4, h5⟩ := h
  exact ⟨h1, ⟨hK.tl, hK.s36, hz⟩, (h3.fd (D := fun x => x = z + 13 ∨ x + 1 = z)).mono (fun _ _ u => u) (fun _ _ u => Or.inl u) (fun _ _ u => u), h4, h5⟩
theorem NC.nx (h : NC L W T M M') (hC : ∀ x, C x → Oc L M x) (hz : z < mZ M ∧ mK M z = 9) : NX L W T C r z M M' := by
  obtain ⟨h1, h2, h3, h4, h5⟩ := h
  exact ⟨h1, ⟨h2, hC, hz⟩, (h3.fd (D := fun x => x = z + 13 ∨ x + 1 = z)).mono (fun _ _ u => Or.inl u) (fun _ _ u => Or.inl u) (fun _ _ u => u), h4, h5⟩
/-- ints of other cells change -/
theorem FI.nx (f : FI C M M') (o : mOk M') (hF : NF L W M) (hT : ∀ t, T t → t ∈ L) (hC : ∀ x, C x → Oc L M x) (hz : z < mZ M ∧ mK M z = 9) : NX L W T C r z M M' ∧ ∀ a, a ∈ L → nv M' a = nv M a := by
  have nt' : ∀ a, a ∈ L → Nt M' a (mR M a 0) (cp M a) (sz M a) := fun a ha => (hF.nt ha).fi f (fun u => (hC a u).2.1 ha) (fun u => (hC _ u).2.2 a ha rfl)
  have cc : ∀ a, cp M' a = cp M a := fun a => by unfold cp; rw [f.2.2.1, f.2.1]
  have nf : NF L W M' := ⟨hF.1, fun a ha => ⟨(nt' a ha).nn, by rw [cc]; exact (hF.2.1 a ha).2.1, (hF.2.1 a ha).2.2⟩, fun a b ha hb u => hF.2.2 a b ha hb (by rw [← f.2.2.1]; exact u)⟩
  refine ⟨⟨⟨o, nf⟩, ⟨hT, hC, hz⟩, ((f.fa (R := fun _ => False)).fd (D := fun x => x = z + 13 ∨ x + 1 = z)).mono (fun _ _ u => Or.inr u) (fun _ _ u => u.elim) (fun _ _ u => u), fun t _ => Or.inl (by rw [f.2.2.1]), ?_⟩, fun a ha => ?_⟩
  · unfold RmN
    rw [show cp M' = cp M from funext cc, f.2.2.2.2.1, f.2.2.2.2.2.1]
    exact ⟨Nat.le_refl _, Nat.le_refl _⟩
  · rw [(nt' a ha).nv]
    unfold nv
    rw [f.2.2.2.2.2.2 _ (fun u => (hC _ u).2.2 a ha rfl)]
/-- the Solver's own int tables -/
def Stb (s x : Nat) : Prop := x = s ∨ x = s + 29 ∨ x = s + 30 ∨ x = s + 122 ∨ x = s + 123 ∨ x = s + 124 ∨ x = s + 125 ∨ x = s + 126 ∨ x = s + 128 ∨ x = s + 129
/-- all that the Solver may change, with the rows of a table -/
def Tso (s : Nat) (M : mM) (R n x : Nat) : Prop := Tpk (s + 1) x ∨ Trs (s + 31) x ∨ T2 (s + 130) x ∨ Trw M R n x
def Cso (s : Nat) (M : mM) (R n x : Nat) : Prop := Ipk (s + 1) x ∨ Stb s x ∨ S36 (s + 31) x ∨ x = s + 32 ∨ x = s + 130 ∨ Irw M R n x
/-- the Solver with a table of k rows, a game of cn states -/
def Sva (L : List Nat) (W : Nat → Nat) (s g a R k cn cc bc : Nat) (M : mM) : Prop := SG M s g cn cc bc ∧ (NF L W M ∧ SK L M (s + 1) ∧ RsK L M (s + 31) ∧ FrL L M (s + 130)) ∧ (∀ x, Stb s x → Oc L M x) ∧ (∀ i, i ≤ 9 → Oc L M (g + i)) ∧ RwT L M a R k ∧ (∀ i, i < k → s + 134 < mR M R i) ∧ RwD M R k
theorem Sva.te (h : Sva L W s g a R k cn cc bc M) : Te L W (s + 1) g a R k M := by
  obtain ⟨h1, ⟨h2, h3, h4, h5⟩, h6, h7, h8, h9, h10⟩ := h
  refine ⟨⟨h1.1, h2, h3⟩, ⟨h1.2.2.1, h7⟩, h8, fun i hi => ?_, h10⟩
  have := h9 i hi
  unfold Rap Tpk T4 Tor T2
  omega
theorem Sva.tl (h : Sva L W s g a R k cn cc bc M) (hn : n ≤ k) : ∀ t, Tso s M R n t → t ∈ L := fun t ht => by
  rcases ht with u | u | u | u
  · exact h.2.1.2.1.tpk t u
  · exact h.2.1.2.2.1.tl t u
  · exact h.2.1.2.2.2.t2 t u
  · exact h.te.trw hn t u
theorem Sva.cl (h : Sva L W s g a R k cn cc bc M) (hn : n ≤ k) : ∀ x, Cso s M R n x → Oc L M x := fun x hx => by
  obtain ⟨-, ⟨h2, h3, h4, h5⟩, h6, -⟩ := id h
  rcases hx with u | u | u | u | u | u
  · exact h2.ocf (h3.ipk x u).1 (h3.ipk x u).2
  · exact h6 x u
  · exact h4.s36 x u
  · rw [u]; exact h4.2.1 1 (by decide)
  · rw [u]; exact h2.ocf h5.1.2.2 h5.1.1
  · exact h2.ocf (h.te.irw hn x u).1 (h.te.irw hn x u).2
theorem Sva.z9 (h : Sva L W s g a R k cn cc bc M) : s + 1 < mZ M ∧ mK M (s + 1) = 9 := h.2.1.2.1.z9
end NBQ
end
section
/-! The class's Solver: what its steps keep. -/
section NBR
variable {G : mG} {d s g z e a R cn cc bc i k n c lo hi un x f : Nat} {M M0 M' M1 M2 M3 : mM} {L : List Nat} {W : Nat → Nat} {T T' I C C' S : Nat → Prop} {r r' : Prop}
theorem NX.frl (h : NX L W T C r z M M') (hF : NF L W M) (hf : FrL L M f) : FrL L M' f ∧ (¬ C f → mI M' f = mI M f) := by
  obtain ⟨⟨k, p, l⟩, m1, m3⟩ := hf
  have z9 := h.2.1.2.2.2
  obtain ⟨a1, a2, a3, a4⟩ := h.oth (hF.ocf l k) (fun u => by rw [u, z9] at k; omega)
  exact ⟨⟨⟨by rw [a1]; exact k, by rw [a3]; exact p, Nat.lt_of_lt_of_le l h.2.2.1.1.1⟩, m1, m3⟩, a4⟩
theorem Sva.gC (h : Sva L W s g a R k cn cc bc M) (hn : n ≤ k) (hi : i ≤ 9) : ¬ Cso s M R n (g + i) := by
  have gs := h.1.2.1.1.2
  intro u
  unfold Cso Ipk Stb S36 Irw at u
  rcases u with u | u | u | u | u | ⟨j, hj, u⟩
  · omega
  · omega
  · omega
  · omega
  · omega
  · have := h.2.2.2.2.2.1 j (by omega)
    omega
theorem stb_n1 {s x : Nat} (hx : Stb s x) : x ≠ s + 1 := by unfold Stb at hx; omega
theorem s31_n1 (s i : Nat) : s + 31 + i ≠ s + 1 := by omega
theorem Sva.nxg (h : Sva L W s g a R k cn cc bc M) (q : NX L W T C r (s + 1) M M') (gC : ∀ i, i ≤ 9 → ¬ C (g + i)) (hS : SK L M' (s + 1)) : Sva L W s g a R k cn cc bc M' ∧ (∀ i, i ≤ 9 → mI M' (g + i) = mI M (g + i)) ∧ mR M' R = mR M R := by
  obtain ⟨⟨o, ⟨s0, sr, sk, sn⟩, hG, ⟨g3, n3⟩, hT⟩, ⟨hF, hSK, hR, hW⟩, hSt, hgo, ⟨t1, t2, t3, t4, ⟨t5, t6⟩, t7⟩, hrow, hD⟩ := id h
  have z9 := hSK.1.1
  have og : ∀ i, i ≤ 9 → _ := fun i hi => q.oth (hgo i hi) (fun e => (hG.kd hi).1 (by rw [e]; exact z9))
  have g0 := og 0 (by decide)
  rw [Nat.add_zero] at g0
  have os : ∀ x, Stb s x → mK M' x = mK M x ∧ mN M' x = mN M x ∧ mR M' x = mR M x := fun x hx => by
    have ne : x ≠ s + 1 := stb_n1 hx
    obtain ⟨a1, a2, a3, -⟩ := q.oth (hSt x hx) ne
    exact ⟨a1, a2, a3⟩
  have st : ∀ {x : Nat}, Stb s x → Stb s x := fun h => h
  have e0 := os s (Or.inl rfl)
  have e29 := os (s + 29) (Or.inr (Or.inl rfl))
  have e30 := os (s + 30) (Or.inr (Or.inr (Or.inl rfl)))
  have e122 := os (s + 122) (Or.inr (Or.inr (Or.inr (Or.inl rfl))))
  have e123 := os (s + 123) (Or.inr (Or.inr (Or.inr (Or.inr (Or.inl rfl)))))
  have e124 := os (s + 124) (Or.inr (Or.inr (Or.inr (Or.inr (Or.inr (Or.inl rfl))))))
  have e125 := os (s + 125) (Or.inr (Or.inr (Or.inr (Or.inr (Or.inr (Or.inr (Or.inl rfl)))))))
  have e126 := os (s + 126) (Or.inr (Or.inr (Or.inr (Or.inr (Or.inr (Or.inr (Or.inr (Or.inl rfl))))))))
  have e128 := os (s + 128) (Or.inr (Or.inr (Or.inr (Or.inr (Or.inr (Or.inr (Or.inr (Or.inr (Or.inl rfl)))))))))
  have e129 := os (s + 129) (Or.inr (Or.inr (Or.inr (Or.inr (Or.inr (Or.inr (Or.inr (Or.inr (Or.inr rfl)))))))))
  have ig : ∀ i, i ≤ 9 → mI M' (g + i) = mI M (g + i) := fun i hi => (og i hi).2.2.2 (gC i hi)
  have oe : ∀ i, i ≤ 6 → mK M' (s + 31 + i) = mK M (s + 31 + i) ∧ mN M' (s + 31 + i) = mN M (s + 31 + i) ∧ mR M' (s + 31 + i) = mR M (s + 31 + i) := fun i hi => by
    obtain ⟨a1, a2, a3, -⟩ := q.oth (hR.2.1 i hi) (s31_n1 s i)
    exact ⟨a1, a2, a3⟩
  have r0 := oe 0 (by decide)
  rw [Nat.add_zero] at r0
  have na : a ≠ s + 1 := fun u => by rw [u, z9] at t1; exact absurd t1 (by decide)
  have nR : R ≠ s + 1 := fun u => by rw [u, z9] at t3; exact absurd t3 (by decide)
  have oa := q.oth t5 na
  have oR := q.oth t6 nR
  have eR := oR.2.2.1
  refine ⟨⟨⟨q.ok, ⟨⟨by rw [e0.1]; exact s0.1, s0.2⟩, by rw [e0.2.2]; exact sr, by rw [e29.1, e30.1, e122.1, e123.1, e124.1, e125.1, e126.1, e128.1, e129.1]; exact sk, by rw [e29.2.1, e30.2.1, e122.2.1, e123.2.1, e124.2.1, e125.2.1, e126.2.1, e128.2.1, e129.2.1]; exact sn⟩, ⟨by rw [g0.1]; exact hG.1, by rw [g0.2.2.1]; exact hG.2.1, fun i hi hi' => by rw [(og i hi').1]; exact hG.2.2.1 i hi hi', by rw [(og 2 (by decide)).2.1, (og 4 (by decide)).2.1, (og 6 (by decide)).2.1, (og 7 (by decide)).2.1, (og 8 (by decide)).2.1, (og 9 (by decide)).2.1]; exact hG.2.2.2⟩, ⟨by rw [g0.2.2.1]; exact g3, by rw [(og 3 (by decide)).2.1]; exact n3⟩, hT.same ig⟩, ⟨q.nf, hS, ?_, (q.frl hF hW).1⟩, fun x hx => q.oc hF (hSt x hx), fun i hi => q.oc hF (hgo i hi), ⟨by rw [oa.1]; exact t1, by rw [oa.2.2.1]; exact t2, by rw [oR.1]; exact t3, by rw [oR.2.1]; exact t4, ⟨q.oc hF t5, q.oc hF t6⟩, fun i hi => by rw [eR]; exact (q.frl hF (t7 i hi)).1⟩, fun i hi => by rw [eR]; exact hrow i hi, fun i j hi hj ij => by rw [eR]; exact hD i j hi hj ij⟩, ig, eR⟩
  obtain ⟨⟨c0, c1, c2, c3⟩, c4, c5, c6⟩ := hR
  refine ⟨⟨by rw [r0.1]; exact c0, by rw [r0.2.2]; exact c1, by rw [(oe 1 (by decide)).1, (oe 2 (by decide)).1, (oe 3 (by decide)).1, (oe 4 (by decide)).1, (oe 5 (by decide)).1, (oe 6 (by decide)).1]; exact c2, by rw [(oe 1 (by decide)).2.1, (oe 2 (by decide)).2.1, (oe 3 (by decide)).2.1, (oe 4 (by decide)).2.1, (oe 5 (by decide)).2.1, (oe 6 (by decide)).2.1]; exact c3⟩, fun i hi => q.oc hF (c4 i hi), fun i hi => by rw [(oe 2 (by decide)).2.2]; exact c5 i hi, c6⟩
theorem Sva.nx (h : Sva L W s g a R k cn cc bc M) (hn : n ≤ k) (q : NX L W (Tso s M R n) (Cso s M R n) r (s + 1) M M') (hS : SK L M' (s + 1)) : Sva L W s g a R k cn cc bc M' ∧ (∀ i, i ≤ 9 → mI M' (g + i) = mI M (g + i)) ∧ mR M' R = mR M R := h.nxg q (fun i hi => h.gC hn hi) hS
/-- steps that leave the Scales' references -/
theorem NX.sk (h : NX L W T C False z M M') (hF : NF L W M) (hS : SK L M z) : SK L M' z := by
  obtain ⟨⟨k1, k2⟩, k3, k4, ⟨k5, k6, k7⟩, ⟨k8, k9⟩, k10, k11⟩ := hS
  have zz := h.2.2.1.1.1
  have rz : mR M' z = mR M z := (h.2.2.1.2 z k2).2.2.2.1 (fun u => u.elim (fun u => (hF.nz k1 (h.2.1.1 z u)).1 rfl) (fun u => u.2))
  have o13 : Oc L M (z + 13) := ⟨k7, fun u => by have := hF.kd u; rw [k5] at this; omega, fun a ha u => by have := hF.ka ha; rw [u, k5] at this; omega⟩
  obtain ⟨a1, a2, -⟩ := h.oth o13 (by omega)
  have f8 := (h.frl hF (f := z + 18) ⟨k8, k11.1, k11.2.1⟩).1
  have f9 := (h.frl hF (f := z + 23) ⟨k9, k11.2.2.1, k11.2.2.2⟩).1
  exact ⟨⟨by rw [h.kind k2]; exact k1, Nat.lt_of_lt_of_le k2 zz⟩, by rw [rz]; exact k3, by rw [rz]; exact k4, ⟨by rw [a1]; exact k5, by rw [a2]; exact k6, Nat.lt_of_lt_of_le k7 zz⟩, ⟨f8.1, f9.1⟩, k10, k11⟩
end NBR
end
section
/-! The class's Solver: equations are written. -/
section NBS
variable {G : mG} {d s g a cn cc bc i k n c un x y mu : Nat} {M M0 M' M1 M2 M3 : mM}
/-- a row while its branches are read: they sum up to w -/
def evR (M : mM) (s i : Nat) (mu w : Int) : Prop := (∀ j, j < 40 → -w ≤ mI M (s + 32) (i * 41 + j) ∧ mI M (s + 32) (i * 41 + j) ≤ mu) ∧ 0 ≤ mI M (s + 32) (i * 41 + 40) ∧ mI M (s + 32) (i * 41 + 40) ≤ w
theorem ev_up {j : Nat} {v w w' m : Int} (h : evR M s i m w) (e : M' = mUI M (s + 32) (i * 41 + j) v) (ww : w ≤ w') (hj : j ≤ 40) (hv : (j < 40 → -w' ≤ v ∧ v ≤ m) ∧ (j = 40 → 0 ≤ v ∧ v ≤ w')) : evR M' s i m w' := by
  obtain ⟨h1, h2, h3⟩ := h
  refine ⟨fun j' hj' => ?_, ?_⟩
  · rw [mI_ui _ _ e]
    by_cases c : j' = j
    · rw [if_pos ⟨rfl, by omega⟩]
      exact hv.1 (by omega)
    · rw [if_neg (fun u => c (by omega))]
      have := h1 j' hj'
      omega
  · rw [mI_ui _ _ e]
    by_cases c : j = 40
    · rw [if_pos ⟨rfl, by omega⟩]
      exact hv.2 c
    · rw [if_neg (fun u => c (by omega))]
      omega
theorem wsm_mono {m : Nat} : ∀ {q : Nat}, m ≤ q → (∀ j, x ≤ j → j < x + q → 1 ≤ mI M (g + 9) j) → wsm M g x m ≤ wsm M g x q
  | 0, h, _ => by rw [show m = 0 by first | rfl | omega]; exact Int.le_refl _
  | q + 1, h, hp => by
    by_cases c : m = q + 1
    · rw [c]; exact Int.le_refl _
    · have h1 := wsm_mono (m := m) (q := q) (by omega) (fun j a b => hp j a (by omega))
      have h2 := hp (x + q) (by omega) (by omega)
      have h3 : wsm M g x (q + 1) = wsm M g x q + mI M (g + 9) (x + q) := rfl
      omega
theorem s_ev86 {l2 : Int} {Q : mM → Prop} (hg : SG M s g cn cc bc) (hR : Rk M (s + 31)) (hS : Slo M s un) (u40 : un ≤ 40) (hi : i < 40) (hl2 : i32 l2) (hc : c < cc) (e7 : mI M (g + 7) (c + 1) = ((y : Nat) : Int)) (hxy : x ≤ y ∧ y ≤ bc) (hbr : ∀ j, x ≤ j → j < y → 0 ≤ mI M (g + 8) j ∧ mI M (g + 8) j < cn ∧ 1 ≤ mI M (g + 9) j) (hw : wsm M g x (y - x) = ((mu : Nat) : Int)) (hmu : mu < 1000000000)
    (hQ : ∀ M', mOk M' → FI (fun z => z = s + 32) M M' → (∀ j, (j < i * 41 ∨ i * 41 + 41 ≤ j) → mI M' (s + 32) j = mI M (s + 32) j) → evR M' s i mu mu → h_So_evaluate_15 G d s a l2 ((i : Int) + 1) M' Q) : ∀ (t b : Nat) (M1 : mM), y ≤ b + t → x ≤ b → b ≤ y → mOk M1 → FI (fun z => z = s + 32) M M1 → (∀ j, (j < i * 41 ∨ i * 41 + 41 ≤ j) → mI M1 (s + 32) j = mI M (s + 32) j) → evR M1 s i mu (wsm M g x (b - x)) → h_So_evaluate_86 G d s a l2 i ((i : Int) * 41) c b M1 Q := by
  have gs := hg.2.1.1.2
  intro t
  induction t with
  | zero =>
    intro b M1 h1 h2 h3 o F oth ev
    have eb : b = y := by omega
    subst eb
    rw [hw] at ev
    have nS : ∀ i, i ≤ 9 → ¬ (fun z => z = s + 32) (g + i) := fun i hi u => by have u' : g + i = s + 32 := u; omega
    obtain ⟨-, ⟨⟨s0, -⟩, ⟨-, -, -, r3, -⟩, -⟩, ⟨g0, ⟨-, -, -, q7, -⟩, gk, ⟨-, -, -, m7, -⟩⟩, -, hT⟩ := hg.fi F o nS
    obtain ⟨hc1, hc2, hc3⟩ := hT.1
    refine k_So_evaluate_86 o hl2 ⟨by omega, by omega⟩ ⟨by omega, by omega⟩ ⟨by omega, by omega⟩ ⟨by omega, by omega⟩ ?_
    rw [r3, q7, m7, show Int.toNat ((c : Int) + 1) = c + 1 by first | rfl | omega, F.2.2.2.2.2.2 (g + 7) (nS 7 (by decide)), e7]
    exact ⟨s0, g0, gk 7 (by decide) (by decide), ⟨by omega, by omega⟩, fun _ => hQ M1 o F oth ev, fun u => absurd (Int.le_refl _) u⟩
  | succ t ih =>
    intro b M1 h1 h2 h3 o F oth ev
    by_cases eb : b = y
    · exact ih b M1 (by omega) h2 h3 o F oth ev
    have nS : ∀ i, i ≤ 9 → ¬ (fun z => z = s + 32) (g + i) := fun i hi u => by have u' : g + i = s + 32 := u; omega
    obtain ⟨-, ⟨⟨s0, -⟩, ⟨-, -, -, r3, r4, -, -, r7, -⟩, ⟨-, -, -, -, k7, -⟩, ⟨-, -, -, -, n7, -⟩⟩, ⟨g0, ⟨q2, -, -, q7, q8, q9⟩, gk, ⟨m2, -, -, m7, m8, m9⟩⟩, -, hT⟩ := hg.fi F o nS
    obtain ⟨e0, ⟨re, -⟩, ⟨ke, -⟩, ⟨ne, -⟩⟩ := hR.fi F
    have re' : mR M1 (s + 31) 0 = s + 32 := re
    have ke' : mK M1 (s + 32) = 30 := ke
    have ne' : mN M1 (s + 32) = 1640 := ne
    obtain ⟨hc1, hc2, hc3⟩ := hT.1
    obtain ⟨b1, b2, b3⟩ := hbr b h2 (by omega)
    obtain ⟨to, eto⟩ : ∃ to : Nat, mI M (g + 8) b = ((to : Nat) : Int) := ⟨(mI M (g + 8) b).toNat, by omega⟩
    have i124 : mI M1 (s + 124) = mI M (s + 124) := F.2.2.2.2.2.2 _ (show ¬ s + 124 = s + 32 by first | rfl | omega)
    have sl := hS to (by omega)
    have wpos : ∀ j, x ≤ j → j < x + (y - x) → 1 ≤ mI M (g + 9) j := fun j p q => (hbr j p (by omega)).2.2
    have wb := wsm_le (M := M) (g := g) (x := x) (n := y - x) wpos (y - x) (Nat.le_refl _) b h2 (by omega)
    rw [hw] at wb
    have wb1 : wsm M g x (b + 1 - x) = wsm M g x (b - x) + mI M (g + 9) b := by
      rw [show b + 1 - x = (b - x) + 1 by first | rfl | omega]
      show wsm M g x (b - x) + mI M (g + 9) (x + (b - x)) = _
      rw [show x + (b - x) = b by first | rfl | omega]
    have w0 : 0 ≤ wsm M g x (b - x) := wg_ws (fun j p q => (hbr j p (by omega)).2.2)
    have wle : wsm M g x (b - x) + mI M (g + 9) b ≤ ((mu : Nat) : Int) := by
      rw [← wb1, ← hw]
      exact wsm_mono (by omega) wpos
    refine k_So_evaluate_86 o hl2 ⟨by omega, by omega⟩ ⟨by omega, by omega⟩ ⟨by omega, by omega⟩ ⟨by omega, by omega⟩ ?_
    rw [r3, q7, m7, show Int.toNat ((c : Int) + 1) = c + 1 by first | rfl | omega, F.2.2.2.2.2.2 (g + 7) (nS 7 (by decide)), e7, q8, m8, r7, n7, q2, m2, r4, re', ne', q9, m9, Int.toNat_natCast, F.2.2.2.2.2.2 (g + 8) (nS 8 (by decide)), eto, Int.toNat_natCast, F.2.2.2.2.2.2 (g + 2) (nS 2 (by decide)), F.2.2.2.2.2.2 (g + 9) (nS 9 (by decide)), i124, show ((i : Int) * 41 + 40) = ((i * 41 + 40 : Nat) : Int) by first | rfl | omega, Int.toNat_natCast, show ((b : Int) + 1) = ((b + 1 : Nat) : Int) by first | rfl | omega]
    have e40 := ev.2
    refine ⟨s0, g0, gk 7 (by decide) (by decide), ⟨by omega, by omega⟩, fun u => absurd u (by omega), fun _ => ⟨gk 8 (by decide) (by decide), ⟨by omega, by omega⟩, k7, ⟨by omega, by omega⟩, ⟨fun _ => ⟨gk 2 (by decide) (by decide), ⟨by omega, by omega⟩, fun _ => ⟨e0, ke', ⟨by omega, by omega⟩, gk 9 (by decide) (by decide), ⟨by omega, by omega⟩, ⟨by omega, by omega⟩, ⟨by omega, by omega⟩⟩⟩, fun ns => ?_⟩, fun M63 e63 => ?_⟩⟩
    · have sl' := sl.resolve_left ns
      obtain ⟨j, ej⟩ : ∃ j : Nat, mI M (s + 124) to = ((j : Nat) : Int) := ⟨(mI M (s + 124) to).toNat, by omega⟩
      rw [ej, show ((i : Int) * 41 + ((j : Nat) : Int)) = ((i * 41 + j : Nat) : Int) by first | rfl | omega, Int.toNat_natCast]
      have evj := ev.1 j (by omega)
      exact ⟨e0, ⟨by omega, by omega⟩, ke', ⟨by omega, by omega⟩, gk 9 (by decide) (by decide), ⟨by omega, by omega⟩, ⟨by omega, by omega⟩, ⟨by omega, by omega⟩⟩
    · by_cases c1 : mI M (s + 124) to = -1
      · rw [if_pos c1] at e63
        by_cases c2 : mI M (g + 2) to = 3
        · rw [if_pos c2] at e63
          have f63 : FI (fun z => z = s + 32) M1 M63 := by rw [e63]; exact FI.ui rfl
          have o63 : mOk M63 := by rw [e63]; exact mOk_UI o ⟨by omega, by omega⟩
          exact ⟨o63, ih (b + 1) M63 (by omega) (by omega) (by omega) o63 (F.trans f63) (fun j hj => by rw [mI_ui _ j e63, if_neg (fun u => by omega)]; exact oth j hj) (by rw [wb1]; exact ev_up ev e63 (by omega) (Nat.le_refl _) ⟨fun u => absurd u (by decide), fun _ => ⟨by omega, by omega⟩⟩)⟩
        · rw [if_neg c2] at e63
          rw [e63]
          refine ⟨o, ih (b + 1) M1 (by omega) (by omega) (by omega) o F oth ?_⟩
          rw [wb1]
          exact ⟨fun j hj => by have := ev.1 j hj; omega, by omega, by omega⟩
      · rw [if_neg c1] at e63
        have sl' := sl.resolve_left c1
        obtain ⟨j, ej⟩ : ∃ j : Nat, mI M (s + 124) to = ((j : Nat) : Int) := ⟨(mI M (s + 124) to).toNat, by omega⟩
        rw [ej, show ((i : Int) * 41 + ((j : Nat) : Int)) = ((i * 41 + j : Nat) : Int) by first | rfl | omega, Int.toNat_natCast] at e63
        have evj := ev.1 j (by omega)
        have f63 : FI (fun z => z = s + 32) M1 M63 := by rw [e63]; exact FI.ui rfl
        have o63 : mOk M63 := by rw [e63]; exact mOk_UI o ⟨by omega, by omega⟩
        exact ⟨o63, ih (b + 1) M63 (by omega) (by omega) (by omega) o63 (F.trans f63) (fun j' hj => by rw [mI_ui _ j' e63, if_neg (fun u => by omega)]; exact oth j' hj) (by rw [wb1]; exact ev_up ev e63 (by omega) (by omega) ⟨fun _ => ⟨by omega, by omega⟩, fun u => absurd u (by omega)⟩)⟩
/-- the equations, row by row -/
theorem s_ev15 {wt : Nat → Nat} {Q : mM → Prop} (hg : SG M s g cn cc bc) (hR : Rk M (s + 31)) (hL : LHs M s cn cc) (hU : Unk M s cn un) (hwt : ∀ i, i < un → wtO M s g i (wt i) ∧ wt i ≤ 33)
    (hQ : ∀ (M' : mM) (bits : Nat), mOk M' → FI (fun z => z = s + 32) M M' → Ent9 M' (s + 31) 1640 → bits ≤ wsu wt un → mK M' (mR M' s 4) = 12 ∧ Cv G y_Re_settle d [vr (mR M' s 4), vi (mI M' s 10), vi bits] M' (fun M10 => mOk M10 ∧ (h_So_evaluate_226 G d s a 0 M10 Q))) : ∀ (t i bits : Nat) (M1 : mM), un ≤ i + t → i ≤ un → mOk M1 → FI (fun z => z = s + 32) M M1 → Ent9 M1 (s + 31) 1640 → (∀ j, i * 41 ≤ j → j < 1640 → mI M1 (s + 32) j = 0) → bits ≤ wsu wt i → wsu wt i ≤ 33 * i → h_So_evaluate_15 G d s a bits i M1 Q := by
  have gs := hg.2.1.1.2
  have nS : ∀ i, i ≤ 9 → ¬ (fun z => z = s + 32) (g + i) := fun i hi u => by have u' : g + i = s + 32 := u; omega
  obtain ⟨u1, u2, u3, u4⟩ := id hU
  intro t
  induction t with
  | zero =>
    intro i bits M1 h1 h2 o F en z hb hb2
    have ei : i = un := by omega
    subst ei
    obtain ⟨-, ⟨⟨s0, -⟩, -⟩, -⟩ := hg.fi F o nS
    have i10 : mI M1 s 10 = ((i : Nat) : Int) := by rw [F.2.2.2.2.2.2 s (show ¬ s = s + 32 by first | rfl | omega)]; exact u1
    have q := hQ M1 bits o F en hb
    rw [i10] at q
    refine k_So_evaluate_15 o ⟨by omega, by omega⟩ ⟨by omega, by omega⟩ ?_
    rw [i10]
    exact ⟨s0, fun _ => q, fun u => absurd (Int.le_refl _) u⟩
  | succ t ih =>
    intro i bits M1 h1 h2 o F en z hb hb2
    by_cases ei : i = un
    · exact ih i bits M1 (by omega) h2 o F en z hb hb2
    have hi : i < un := by omega
    have hg1 := hg.fi F o nS
    obtain ⟨-, ⟨⟨s0, -⟩, ⟨-, -, -, r3, r4, -, -, -, -, r9, -⟩, ⟨-, -, -, -, -, -, k9, -⟩, ⟨-, -, -, -, -, -, n9, -⟩⟩, ⟨g0, ⟨-, -, q6, q7, -, -⟩, gk, ⟨-, -, m6, m7, -, -⟩⟩, -, hT⟩ := id hg1
    obtain ⟨hc1, hc2, hc3⟩ := hT.1
    have hR1 := hR.fi F
    obtain ⟨e0, ⟨re, -⟩, ⟨ke, -⟩, ⟨ne, -⟩⟩ := id hR1
    have re' : mR M1 (s + 31) 0 = s + 32 := re
    have ke' : mK M1 (s + 32) = 30 := ke
    have ne' : mN M1 (s + 32) = 1640 := ne
    obtain ⟨kst, c, lo, hi', e1, hk, e4, e2, e3, l1, l2⟩ := u4 i hi
    obtain ⟨lo', hi2, f1, f2, f3, f4⟩ := hL kst hk
    have cc' : c < cc := by omega
    obtain ⟨x, y, mu, v1, v2, ⟨v3, v3'⟩, v4, v5, v6, v7, v8, v9, -⟩ := hT.2.1 c cc'
    have i10 : mI M1 s 10 = ((un : Nat) : Int) := by rw [F.2.2.2.2.2.2 s (show ¬ s = s + 32 by first | rfl | omega)]; exact u1
    have i9 : mI M1 (s + 126) i = ((c : Nat) : Int) := by rw [F.2.2.2.2.2.2 (s + 126) (show ¬ s + 126 = s + 32 by first | rfl | omega)]; exact e4
    have mw : ((mu : Nat) : Int) < 2 ^ (wt i) := by
      have := (hwt i hi).1 kst lo hi' c e1 e2 e3 l1 l2
      rw [← F.2.2.2.2.2.2 (g + 6) (nS 6 (by decide)), v6] at this
      exact this
    refine k_So_evaluate_15 o ⟨by omega, by omega⟩ ⟨by omega, by omega⟩ ?_
    rw [i10, r9, n9, r3, q6, m6, r4, re', ne', Int.toNat_natCast, i9, Int.toNat_natCast, v6, show ((i : Int) * 41 + (i : Int)) = ((i * 41 + i : Nat) : Int) by first | rfl | omega, Int.toNat_natCast]
    refine ⟨s0, fun u => absurd u (by omega), fun _ => ⟨k9, ⟨by omega, by omega⟩, g0, gk 6 (by decide) (by decide), ⟨by omega, by omega⟩, e0, ke', ⟨by omega, by omega⟩, fun M21 e21 => ?_⟩⟩
    have f21 : FI (fun z => z = s + 32) M1 M21 := by rw [e21]; exact FI.ui rfl
    have o21 : mOk M21 := by rw [e21]; exact mOk_UI o ⟨by omega, by omega⟩
    have hg21 := hg1.fi f21 o21 nS
    refine (s_nlz (d := d) (show (0 : Int) < ((mu : Nat) : Int) by omega) ⟨by omega, by omega⟩ o21).mono (fun x24 M23 q => ?_)
    obtain ⟨e23, kk, ek, k31, p1, p2⟩ := q
    have w32 : 32 - kk ≤ wt i := by
      have : 31 - kk < wt i := p2l (Int.lt_of_le_of_lt p1 mw)
      omega
    have b7 : mI M21 (g + 7) c = ((x : Nat) : Int) := by rw [f21.2.2.2.2.2.2 (g + 7) (nS 7 (by decide))]; exact v1
    rw [e23, ek, f21.1, f21.2.1, f21.2.2.1, r3, q7, m7, b7]
    refine ⟨⟨by omega, by omega⟩, o21, s0, g0, gk 7 (by decide) (by decide), ⟨by omega, by omega⟩, ?_⟩
    rw [show ((bits : Nat) : Int) + (32 - ((kk : Nat) : Int)) = ((bits + (32 - kk) : Nat) : Int) by first | rfl | omega]
    have wt33 := (hwt i hi).2
    have g8 : mI M21 (g + 8) = mI M1 (g + 8) := f21.2.2.2.2.2.2 (g + 8) (nS 8 (by decide))
    have g9 : mI M21 (g + 9) = mI M1 (g + 9) := f21.2.2.2.2.2.2 (g + 9) (nS 9 (by decide))
    refine s_ev86 (M := M21) (mu := mu) (x := x) (y := y) (un := un) (a := a) hg21 (hR1.fi f21) (fun j hj => by rw [f21.2.2.2.2.2.2 (s + 124) (show ¬ s + 124 = s + 32 by first | rfl | omega), F.2.2.2.2.2.2 (s + 124) (show ¬ s + 124 = s + 32 by first | rfl | omega)]; exact u3 j hj) u2 (by omega) ⟨by omega, by omega⟩ cc' (by rw [f21.2.2.2.2.2.2 (g + 7) (nS 7 (by decide))]; exact v2) ⟨by omega, v4⟩ (fun j p q => by rw [g8, g9]; exact v5 j p q) (by rw [wsm_cg (M := M1) _ (fun j _ _ => by rw [g9])]; exact v9) v8 (fun M' o' F' oth ev => ?_) (y - x) x M21 (by omega) (Nat.le_refl _) (by omega) o21 FI.refl (fun _ _ => rfl) ?_
    · rw [show ((i : Int) + 1) = ((i + 1 : Nat) : Int) by first | rfl | omega]
      refine ih (i + 1) (bits + (32 - kk)) M' (by omega) (by omega) o' ((F.trans f21).trans F') (fun j hj => ?_) (fun j hj1 hj2 => ?_) ?_ ?_
      · by_cases cj : j < i * 41 ∨ i * 41 + 41 ≤ j
        · show -1000000000 ≤ mI M' (s + 32) j ∧ mI M' (s + 32) j ≤ 1000000000
          rw [oth j cj, mI_ui _ j e21, if_neg (fun u => by omega)]
          exact en j hj
        · obtain ⟨j', ej⟩ : ∃ j', j = i * 41 + j' ∧ j' ≤ 40 := ⟨j - i * 41, by omega, by omega⟩
          show -1000000000 ≤ mI M' (s + 32) j ∧ mI M' (s + 32) j ≤ 1000000000
          rw [ej.1]
          by_cases c40 : j' = 40
          · rw [c40]; have := ev.2; omega
          · have := ev.1 j' (by omega); omega
      · rw [oth j (Or.inr (by omega)), mI_ui _ j e21, if_neg (fun u => by omega)]
        exact z j (by omega) hj2
      · show bits + (32 - kk) ≤ wsu wt i + wt i
        omega
      · show wsu wt i + wt i ≤ 33 * (i + 1)
        omega
    · rw [Nat.sub_self]
      show evR M21 s i mu 0
      refine ⟨fun j hj => ?_, ?_⟩
      · rw [mI_ui _ _ e21]
        by_cases cj : j = i
        · rw [if_pos ⟨rfl, by omega⟩]; omega
        · rw [if_neg (fun u => by omega), z _ (by omega) (by omega)]; omega
      · rw [mI_ui _ _ e21, if_neg (fun u => by omega), z _ (by omega) (by omega)]
        omega
end NBS
end
section
/-! The class's Solver: the numbers of what is chosen. -/
section NBT
variable {G : mG} {d s g a R cn cc bc i k n c un x y mu : Nat} {M M0 M' M1 M2 M3 : mM} {L : List Nat} {W : Nat → Nat}
def Cev (s x : Nat) : Prop := S36 (s + 31) x ∨ x = s + 32
theorem Cev.so {R' : Nat} (h : Cev s x) : Cso s M R' n x := h.elim (fun u => Or.inr (Or.inr (Or.inl u))) (fun u => Or.inr (Or.inr (Or.inr (Or.inl u))))
theorem Cev.nst (h : Cev s x) : ¬ Stb s x := by
  unfold Cev S36 at h
  unfold Stb
  omega
/-- while numbers are worked out -/
def evI (L : List Nat) (W : Nat → Nat) (s g a R k cn cc bc : Nat) (M0 M : mM) : Prop := NX L W (Tso s M0 R cn) (Cev s) False (s + 1) M0 M ∧ Sva L W s g a R k cn cc bc M ∧ mR M R = mR M0 R ∧ (∀ x, Stb s x → mI M x = mI M0 x) ∧ Rsm M R cn 17 ∧ (∀ i, i < cn → mI M (mR M0 R i) = mI M0 (mR M0 R i)) ∧ ∀ i, i ≤ 9 → mI M (g + i) = mI M0 (g + i)
theorem ev_mk (h : Sva L W s g a R k cn cc bc M0) (hcn : cn ≤ k) (q : NX L W (Tso s M0 R cn) (Cev s) False (s + 1) M0 M) (hr : Rsm M R cn 17) : evI L W s g a R k cn cc bc M0 M := by
  have hF := h.2.1.1
  have q' : NX L W (Tso s M0 R cn) (Cso s M0 R cn) False (s + 1) M0 M := q.mono hF (fun _ u => u) (h.tl hcn) (fun x u => u.so) (h.cl hcn) (fun u => u)
  obtain ⟨e1, e2, e3⟩ := h.nx hcn q' (q.sk hF h.2.1.2.1)
  refine ⟨q, e1, e3, fun x hx => ?_, hr, fun i hi => ?_, e2⟩
  · have ne : x ≠ s + 1 := by unfold Stb at hx; omega
    exact (q.oth (h.2.2.1 x hx) ne).2.2.2 (fun u => u.nst hx)
  · have f := h.2.2.2.2.1.2.2.2.2.2 i (by omega)
    refine (q.frl hF f).2 (fun u => ?_)
    have := h.2.2.2.2.2.1 i (by omega)
    unfold Cev S36 at u
    omega
/-- one row's numbers -/
theorem s_ev226 (h0 : Sva L W s g a R k cn cc bc M0) (hcn : cn ≤ k) (hk : k ≤ 512) (hU0 : Unk M0 s cn un) (hWr : ∀ i, i < k → 17 ≤ W (mR M0 R i + 1) ∧ 17 ≤ W (mR M0 R i + 3)) : ∀ (t i : Nat) (M : mM), un ≤ i + t → i ≤ un → evI L W s g a R k cn cc bc M0 M → (∀ j, j ≤ un → nv M (s + 31 + 9 + 2 * j) < 2 ^ (30 * 17)) → h_So_evaluate_226 G (d + 1) s a i M (evI L W s g a R k cn cc bc M0) := by
  obtain ⟨u1, u2, u3, u4⟩ := id hU0
  intro t
  induction t with
  | zero =>
    intro i M h1 h2 hI hv
    have ei : i = un := by omega
    subst ei
    obtain ⟨-, ⟨⟨o, ⟨⟨s0, -⟩, -⟩, -⟩, -⟩, -, st, -⟩ := id hI
    refine k_So_evaluate_226 o ⟨by omega, by omega⟩ ?_
    rw [st s (Or.inl rfl), u1]
    exact ⟨s0, fun _ => hI, fun u => absurd (Int.le_refl _) u⟩
  | succ t ih =>
    intro i M h1 h2 hI hv
    by_cases ei : i = un
    · exact ih i M (by omega) h2 hI hv
    obtain ⟨hN, hS, eR, st, hr, hti, gi⟩ := id hI
    obtain ⟨⟨o, ⟨⟨s0, gs⟩, ⟨-, -, -, -, r4, -, -, -, r8, -⟩, ⟨-, -, -, -, -, k8, -⟩, ⟨-, -, -, -, -, n8, -⟩⟩, -⟩, ⟨hF, hSK, hRs, hfw⟩, -, -, ⟨t1, t2, t3, t4, -, t7⟩, hrow, hD⟩ := id hS
    obtain ⟨⟨e0, ⟨-, re, -⟩, ⟨-, ke, -⟩, ⟨-, ne, -⟩⟩, -, res, -⟩ := id hRs
    have re' : mR M (s + 31) 1 = s + 33 := re
    have ke' : mK M (s + 33) = 34 := ke
    have ne' : mN M (s + 33) = 41 := ne
    have resI := res i (by omega)
    have resU := res un (by omega)
    have res1 : mR M (s + 33) i = s + 31 + 9 + 2 * i := resI.1
    have res2 : ∀ {M'}, mR M' (s + 33) = mR M (s + 33) → mR M' (s + 33) un = s + 31 + 9 + 2 * un := fun e => by rw [e]; exact resU.1
    obtain ⟨kst, c, lo, hi', e1, hkc, -⟩ := u4 i (by omega)
    have e1' : mI M (s + 125) i = ((kst : Nat) : Int) := by rw [st (s + 125) (Or.inr (Or.inr (Or.inr (Or.inr (Or.inr (Or.inr (Or.inl rfl)))))))]; exact e1
    have f := t7 kst (by omega)
    have fb := hrow kst (by omega)
    have wr := hWr kst (by omega)
    rw [← eR] at wr
    have sI := hF.szv resI.2 (hv i (by omega))
    have sU := hF.szv resU.2 (hv un (Nat.le_refl _))
    refine k_So_evaluate_226 o ⟨by omega, by omega⟩ ?_
    rw [st s (Or.inl rfl), u1, r8, n8, t2, t4, r4, re', ne', Int.toNat_natCast, e1', Int.toNat_natCast, res1, f.1.2.1.1]
    refine ⟨s0, fun u => absurd u (by omega), fun _ => ⟨t1, k8, ⟨by omega, by omega⟩, t3, ⟨by omega, by omega⟩, f.1.1, e0, ke', ⟨by omega, by omega⟩, hF.kd f.2.1, (f_put1 (d := d) o hF f.2.1 resI.2 (by omega) (by omega)).mono (fun M83 q => ?_)⟩⟩
    obtain ⟨c1, v1⟩ := q
    have F1 := c1.nf
    have z9 := hS.z9
    have x1 : NX L W (Tso s M0 R cn) (Cev s) False (s + 1) M M83 := (c1.nx (C := Cev s) (r := False) (fun x u => hS.cl (n := cn) hcn x u.so) z9).mono hF (fun t ht => Or.inr (Or.inr (Or.inr ⟨kst, hkc, Or.inl (by rw [← eR]; exact ht)⟩))) hN.2.1.1 (fun _ u => u) (fun x u => hS.cl (n := cn) hcn x u.so) (fun u => u)
    have N1 := hN.trans x1
    have S1 := (ev_mk h0 hcn N1 (M := M83) (fun j hj => ?_)).2.1
    · obtain ⟨⟨o1, ⟨⟨s01, -⟩, ⟨-, -, -, -, r41, -⟩, -⟩, -⟩, ⟨-, -, hRs1, -⟩, -, -, ⟨-, -, -, -, -, t71⟩, -, -⟩ := id S1
      obtain ⟨⟨e01, ⟨-, re1, -⟩, ⟨-, ke1, -⟩, ⟨-, ne1, -⟩⟩, -, res1', -⟩ := id hRs1
      have re1' : mR M83 (s + 31) 1 = s + 33 := re1
      have ke1' : mK M83 (s + 33) = 34 := ke1
      have ne1' : mN M83 (s + 33) = 41 := ne1
      have rU1 : mR M83 (s + 33) un = s + 31 + 9 + 2 * un := (res1' un (by omega)).1
      have i10 : mI M83 s 10 = ((un : Nat) : Int) := by rw [(c1.oth (hS.2.2.1 s (Or.inl rfl))).2.2.2, st s (Or.inl rfl)]; exact u1
      have fr1 := (c1.nl (I := fun _ => False) (r := False) noI z9).frl hF f
      have sU1 : sz M83 (s + 31 + 9 + 2 * un) ≤ 17 := by rw [(c1.num hF resU.2 (show ¬ (s + 31 + 9 + 2 * un = mR M R kst + 1) by first | rfl | omega)).2.2.2.1]; exact sU
      rw [r41, re1', ne1', i10, Int.toNat_natCast, rU1, fr1.1.2.1.2]
      refine ⟨c1.ok, fr1.1.1, s01, e01, ke1', ⟨by omega, by omega⟩, F1.kd f.2.2, (f_put1 (d := d) c1.ok F1 f.2.2 resU.2 (by omega) (by omega)).mono (fun M92 q => ?_)⟩
      obtain ⟨c2, v2⟩ := q
      have x2 : NX L W (Tso s M0 R cn) (Cev s) False (s + 1) M83 M92 := (c2.nx (C := Cev s) (r := False) (fun x u => S1.cl (n := cn) hcn x u.so) S1.z9).mono F1 (fun t ht => Or.inr (Or.inr (Or.inr ⟨kst, hkc, Or.inr (by rw [← eR]; exact ht)⟩))) hN.2.1.1 (fun _ u => u) (fun x u => S1.cl (n := cn) hcn x u.so) (fun u => u)
      have eR2 : mR M92 R = mR M R := by
        rw [(c2.oth S1.2.2.2.2.1.2.2.2.2.1.2).2.2.1, (c1.oth hS.2.2.2.2.1.2.2.2.2.1.2).2.2.1]
      have keep : ∀ b, b ∈ L → b ≠ mR M R kst + 1 → b ≠ mR M R kst + 3 → nv M92 b = nv M b := fun b hb n1 n3 => (c2.v F1 hb n3).trans (c1.v hF hb n1)
      rw [show ((i : Int) + 1) = ((i + 1 : Nat) : Int) by first | rfl | omega]
      refine ⟨c2.ok, ih (i + 1) M92 (by omega) (by omega) (ev_mk h0 hcn (N1.trans x2) (fun j hj => ?_)) (fun j hj => by rw [keep _ (res j (by omega)).2 (by omega) (by omega)]; exact hv j hj)⟩
      rw [eR2]
      by_cases cj : j = kst
      · rw [cj, v2, c1.v hF resU.2 (by omega), c2.v F1 f.2.1 (by omega), v1]
        exact ⟨hF.nn0 resU.2, hv un (Nat.le_refl _), hv i (by omega)⟩
      · have dj := hD j kst (by omega) (by omega) cj
        have fj := t7 j (by omega)
        rw [keep _ fj.2.1 (fun u => dj.1 (by omega)) dj.2.1, keep _ fj.2.2 dj.2.2 (fun u => dj.1 (by omega))]
        exact hr j hj
    · rw [(c1.oth hS.2.2.2.2.1.2.2.2.2.1.2).2.2.1]
      by_cases cj : j = kst
      · rw [cj, v1, c1.v hF f.2.2 (by omega)]
        exact ⟨(hr kst hkc).1, (hr kst hkc).2.1, hv i (by omega)⟩
      · have dj := hD j kst (by omega) (by omega) cj
        have fj := t7 j (by omega)
        rw [c1.v hF fj.2.1 (fun u => dj.1 (by omega)), c1.v hF fj.2.2 dj.2.2]
        exact hr j hj
theorem s_So_evaluate {wt : Nat → Nat} (h : Sva L W s g a R k cn cc bc M) (hcn : cn ≤ k) (hk : k ≤ 512) (hL : LHs M s cn cc) (hU : Unk M s cn un) (hwt : ∀ i, i < un → wtO M s g i (wt i) ∧ wt i ≤ 33) (h480 : wsu wt un ≤ 480) (hr : Rsm M R cn 17) (hWr : ∀ i, i < k → 17 ≤ W (mR M R i + 1) ∧ 17 ≤ W (mR M R i + 3)) (hW : ∀ x, Trs (s + 31) x → 40 ≤ W x) : Cv G y_So_evaluate (d + 6) [vr s, vr a] M (evI L W s g a R k cn cc bc M) := by
  obtain ⟨hg, ⟨hF, hSK, hRs, hfw⟩, hSt, -⟩ := id h
  obtain ⟨o, ⟨⟨s0, gs⟩, ⟨-, -, -, -, r4, -⟩, -⟩, -⟩ := id hg
  obtain ⟨⟨e0, ⟨re, -⟩, ⟨ke, -⟩, ⟨ne, -⟩⟩, oe, -⟩ := id hRs
  have re' : mR M (s + 31) 0 = s + 32 := re
  have ke' : mK M (s + 32) = 30 := ke
  have ne' : mN M (s + 32) = 1640 := ne
  have nS : ∀ i, i ≤ 9 → ¬ (fun z => z = s + 32) (g + i) := fun i hi u => by have u' : g + i = s + 32 := u; omega
  have c32 : ∀ x, (fun z => z = s + 32) x → Oc L M x := fun x u => by rw [u]; exact oe 1 (by decide)
  refine k_So_evaluate o ?_
  rw [r4, re']
  refine ⟨s0, e0, (s_JA_fill (d := d + 5) o ke' (by rw [ne']; decide) ⟨by decide, by decide⟩).mono (fun M3 q => ?_)⟩
  obtain ⟨o3, f3, i3⟩ := q
  rw [ne'] at i3
  have keepF : ∀ {x : Nat}, x ≠ s + 32 → mI M3 x = mI M x := fun hx => f3.2.2.2.2.2.2 _ hx
  refine ⟨o3, s_ev15 (M := M3) (wt := wt) (un := un) (a := a) (hg.fi f3 o3 nS) (hRs.1.fi f3) (fun j hj => by rw [keepF (show s + 122 ≠ s + 32 by omega), keepF (show s + 123 ≠ s + 32 by omega)]; exact hL j hj) ?_ ?_ (fun M' bits o' F' en hb => ?_) un 0 0 M3 (by omega) (by omega) o3 FI.refl (fun j hj => by show -1000000000 ≤ mI M3 (s + 32) j ∧ mI M3 (s + 32) j ≤ 1000000000; rw [i3 j hj]; decide) (fun j _ hj => i3 j hj) (Nat.zero_le _) (Nat.zero_le _)⟩
  · unfold Unk Slo at hU ⊢
    rw [keepF (show s ≠ s + 32 by omega), keepF (show s + 124 ≠ s + 32 by omega), keepF (show s + 125 ≠ s + 32 by omega), keepF (show s + 126 ≠ s + 32 by omega), keepF (show s + 122 ≠ s + 32 by omega), keepF (show s + 123 ≠ s + 32 by omega)]
    exact hU
  · intro i hi
    have := hwt i hi
    unfold wtO at this ⊢
    rw [keepF (show s + 125 ≠ s + 32 by omega), keepF (show s + 122 ≠ s + 32 by omega), keepF (show s + 123 ≠ s + 32 by omega), keepF (fun u => nS 6 (by decide) u)]
    exact this
  · have FF := f3.trans F'
    have i10 : mI M' s 10 = ((un : Nat) : Int) := by rw [FF.2.2.2.2.2.2 s (show ¬ s = s + 32 by first | rfl | omega)]; exact hU.1
    obtain ⟨x0, v0⟩ := FF.nx (T := Tso s M R cn) (r := False) (z := s + 1) o' hF (h.tl hcn) c32 h.z9
    have xE : NX L W (Tso s M R cn) (Cev s) False (s + 1) M M' := x0.mono hF (fun _ u => u) (h.tl hcn) (fun x u => Or.inr u) (fun x u => h.cl (n := cn) hcn x u.so) (fun u => u)
    have E' := ev_mk h hcn xE (fun j hj => ?_)
    · obtain ⟨-, ⟨-, ⟨hF', -, hRs', -⟩, -⟩, -⟩ := id E'
      rw [FF.1, FF.2.2.1, r4, i10]
      refine ⟨e0, (s_Re_settle (d := d) (rows := un) (bits := bits) (L := L) (W := W) hU.2.1 (by omega) o' hF' hRs' (fun j hj => en j (by have := hU.2.1; omega)) hW).mono (fun M10 q => ?_)⟩
      obtain ⟨n10, k10, v10⟩ := q
      have S' := E'.2.1
      have x10 : NX L W (Tso s M R cn) (Cev s) False (s + 1) M' M10 := (n10.nx hRs' S'.z9).mono hF' (fun t ht => Or.inr (Or.inl ht)) xE.2.1.1 (fun x u => Or.inl u) (fun x u => S'.cl (n := cn) hcn x u.so) (fun u => u)
      have X10 := xE.trans x10
      refine ⟨n10.ok, s_ev226 (d := d + 4) h hcn hk hU hWr un 0 M10 (by omega) (by omega) (ev_mk h hcn X10 (fun j hj => ?_)) (fun j hj => Int.lt_of_lt_of_le (v10 j hj) (by rw [show 30 * 17 = 510 by decide]; exact p2m (by omega)))⟩
      have f := h.2.2.2.2.1.2.2.2.2.2 j (by omega)
      have hb' := h.2.2.2.2.2.1 j (by omega)
      have nT : ∀ y, s + 134 < y → ¬ Trs (s + 31) y := fun y hy u => by
        rcases u with u | ⟨i, hi, u⟩ <;> omega
      have eR10 : mR M10 R = mR M R := by
        have nR : R ≠ s + 1 := fun u => by have t3 := h.2.2.2.2.1.2.2.1; rw [u, h.z9.2] at t3; omega
        exact (X10.oth h.2.2.2.2.1.2.2.2.2.1.2 nR).2.2.1
      have kx : ∀ b, b ∈ L → s + 134 < b → nv M10 b = nv M b := fun b hb hb2 => by
        rw [((n10.nx hRs' S'.z9).num hF' hb (nT b hb2)).2.2, v0 b hb]
      rw [eR10, kx _ f.2.1 (by omega), kx _ f.2.2 (by omega)]
      exact hr j hj
    · have f := h.2.2.2.2.1.2.2.2.2.2 j (by omega)
      rw [FF.2.2.1, v0 _ f.2.1, v0 _ f.2.2]
      exact hr j hj
end NBT
end
section
/-! The class's Solver: choices are bettered. -/
section NBU
variable {G : mG} {d s g a R cn cc bc i k n c un x y mu B : Nat} {M M0 M' M1 M2 M3 : mM} {L : List Nat} {W : Nat → Nat}
def Cim (s x : Nat) : Prop := Ipk (s + 1) x ∨ x = s + 126
theorem Cim.so {R' : Nat} (h : Cim s x) : Cso s M R' n x := h.elim (fun u => Or.inl u) (fun u => Or.inr (Or.inl (Or.inr (Or.inr (Or.inr (Or.inr (Or.inr (Or.inr (Or.inr (Or.inl u))))))))))
/-- rows without small factors -/
def Rt1 (M : mM) (R n : Nat) : Prop := ∀ i, i < n → mI M (mR M R i) 2 = 1
/-- while choices are bettered -/
def imI (L : List Nat) (W : Nat → Nat) (s g a R k cn cc bc un : Nat) (M0 M : mM) : Prop := NX L W (Tpk (s + 1)) (Cim s) True (s + 1) M0 M ∧ Sva L W s g a R k cn cc bc M ∧ mR M R = mR M0 R ∧ (∀ x, Stb s x → x ≠ s + 126 → mI M x = mI M0 x) ∧ (Rsm M R cn 17 ∧ Rt1 M R cn) ∧ Unk M s cn un
theorem im_mk (h : Sva L W s g a R k cn cc bc M0) (hcn : cn ≤ k) (hr : Rsm M0 R cn 17 ∧ Rt1 M0 R cn) (q : NX L W (Tpk (s + 1)) (Cim s) True (s + 1) M0 M) (sk : SK L M (s + 1)) (hU : Unk M s cn un) : imI L W s g a R k cn cc bc un M0 M := by
  have hF := h.2.1.1
  have q' : NX L W (Tso s M0 R cn) (Cso s M0 R cn) True (s + 1) M0 M := q.mono hF (fun _ u => Or.inl u) (h.tl hcn) (fun x u => u.so) (h.cl hcn) (fun u => u)
  obtain ⟨e1, e2, e3⟩ := h.nx hcn q' sk
  have rv : ∀ i, i < cn → nv M (mR M0 R i + 1) = nv M0 (mR M0 R i + 1) ∧ nv M (mR M0 R i + 3) = nv M0 (mR M0 R i + 3) ∧ mI M (mR M0 R i) = mI M0 (mR M0 R i) := fun i hi => by
    have f := h.2.2.2.2.1.2.2.2.2.2 i (by omega)
    have ap := h.te.2.2.2.1 i (by omega)
    refine ⟨(q.num hF f.2.1 ap.1).2.2, (q.num hF f.2.2 ap.2.1).2.2, (q.frl hF f).2 (fun u => ?_)⟩
    have := h.2.2.2.2.2.1 i (by omega)
    unfold Cim Ipk at u
    omega
  refine ⟨q, e1, e3, fun x hx nx => ?_, ⟨fun i hi => ?_, fun i hi => ?_⟩, hU⟩
  · have ne : x ≠ s + 1 := by unfold Stb at hx; omega
    refine (q.oth (h.2.2.1 x hx) ne).2.2.2 (fun u => ?_)
    unfold Cim Ipk at u
    unfold Stb at hx
    omega
  · rw [e3, (rv i hi).1, (rv i hi).2.1]; exact hr.1 i hi
  · rw [e3, (rv i hi).2.2]; exact hr.2 i hi
theorem unk_same (h : Unk M s cn un) (e : ∀ x, Stb s x → x ≠ s + 126 → mI M' x = mI M x) (e6 : mI M' (s + 126) = mI M (s + 126)) : Unk M' s cn un := by
  unfold Unk Slo at h ⊢
  rw [e s (Or.inl rfl) (by omega), e (s + 124) (Or.inr (Or.inr (Or.inr (Or.inr (Or.inr (Or.inl rfl)))))) (by omega), e (s + 125) (Or.inr (Or.inr (Or.inr (Or.inr (Or.inr (Or.inr (Or.inl rfl))))))) (by omega), e (s + 122) (Or.inr (Or.inr (Or.inr (Or.inl rfl)))) (by omega), e (s + 123) (Or.inr (Or.inr (Or.inr (Or.inr (Or.inl rfl))))) (by omega), e6]
  exact h
theorem st122 : Stb s (s + 122) ∧ Stb s (s + 123) ∧ Stb s (s + 125) := ⟨Or.inr (Or.inr (Or.inr (Or.inl rfl))), Or.inr (Or.inr (Or.inr (Or.inr (Or.inl rfl)))), Or.inr (Or.inr (Or.inr (Or.inr (Or.inr (Or.inr (Or.inl rfl))))))⟩
theorem s_im5 {pl : Int} (hpl : i32 pl) (h0 : Sva L W s g a R k cn cc bc M0) (hcn : cn ≤ k) (hk : k ≤ 512) (hL : LHs M0 s cn cc) (hr : Rsm M0 R cn 17 ∧ Rt1 M0 R cn) (hW : ∀ x, Tpk (s + 1) x → B ≤ W x) (b1 : 300 ≤ B) (hB : B ≤ 16000) (u40 : un ≤ 40) : ∀ (t i : Nat) (bt : Int) (M : mM), un ≤ i + t → i ≤ un → (bt = 0 ∨ bt = 1) → imI L W s g a R k cn cc bc un M0 M → h_So_improve_5 G (d + 6) s pl a bt i M (fun x M' => (x = 0 ∨ x = 1) ∧ imI L W s g a R k cn cc bc un M0 M') := by
  intro t
  induction t with
  | zero =>
    intro i bt M h1 h2 hb hI
    have ei : i = un := by omega
    subst ei
    obtain ⟨-, ⟨⟨o, ⟨⟨s0, -⟩, -⟩, -⟩, -⟩, -, -, -, hU⟩ := id hI
    refine k_So_improve_5 o hpl (m_b32 hb) ⟨by omega, by omega⟩ ?_
    rw [hU.1]
    exact ⟨s0, fun _ => ⟨hb, hb, hI⟩, fun u => absurd (Int.le_refl _) u⟩
  | succ t ih =>
    intro i bt M h1 h2 hb hI
    by_cases ei : i = un
    · exact ih i bt M (by omega) h2 hb hI
    obtain ⟨hN, hS, eR, st, ⟨hrs, ht1⟩, hU⟩ := id hI
    obtain ⟨⟨o, ⟨⟨s0, gs⟩, ⟨r0, -, -, r3, -, r5, r6, -, r8, r9, -⟩, ⟨-, -, k5, k6, -, k8, k9, -⟩, ⟨-, -, n5, n6, -, n8, n9, -⟩⟩, ⟨g0, ⟨q2, -⟩, gk, ⟨m2, -⟩⟩, -, hT⟩, ⟨hF, hSK, hRs, hfw⟩, -, -, ⟨t1, t2, t3, t4, -, t7⟩, hrow, hD⟩ := id hS
    obtain ⟨hc1, hc2, hc3⟩ := hT.1
    obtain ⟨kst, c, lo, hi', e1, hkc, e4, e2, e3, l1, l2⟩ := hU.2.2.2 i (by omega)
    obtain ⟨lo', hi2, f1, f2, f3, f4⟩ := hL kst hkc
    rw [← st (s + 122) st122.1 (by omega)] at f1
    rw [← st (s + 123) st122.2.1 (by omega)] at f2
    have next : ∀ (bt' : Int) (M' : mM), (bt' = 0 ∨ bt' = 1) → imI L W s g a R k cn cc bc un M0 M' → h_So_improve_122 G (d + 6) s pl a bt' i M' (fun x M' => (x = 0 ∨ x = 1) ∧ imI L W s g a R k cn cc bc un M0 M') := fun bt' M' hb' hI' => by
      refine k_So_improve_122 hI'.2.1.1.1 hpl (m_b32 hb') ⟨by omega, by omega⟩ ?_
      rw [show ((i : Int) + 1) = ((i + 1 : Nat) : Int) by first | rfl | omega]
      exact ih (i + 1) bt' M' (by omega) (by omega) hb' hI'
    refine k_So_improve_5 o hpl (m_b32 hb) ⟨by omega, by omega⟩ ?_
    rw [hU.1, r8, n8, r3, q2, m2, r5, r6, n5, n6, r0, Int.toNat_natCast, e1, Int.toNat_natCast, e2, e3]
    refine ⟨s0, fun u => absurd u (by omega), fun _ => ⟨k8, ⟨by omega, by omega⟩, g0, gk 2 (by decide) (by decide), ⟨by omega, by omega⟩, fun _ => ⟨k6, ⟨by omega, by omega⟩, k5, ⟨by omega, by omega⟩, ⟨by omega, by omega⟩⟩, fun _ => next bt M hb hI, fun nn => ⟨k5, ⟨by omega, by omega⟩, k6, ⟨by omega, by omega⟩, fun v33 e33 => ⟨hSK.1.1, ?_⟩⟩⟩⟩
    have v01 : i32 v33 := by rw [e33]; split <;> exact ⟨by decide, by decide⟩
    refine (f_pick (d := d) (S := 17) (B := B) v01 (hS.te.pe hcn) hrs hW (by omega) hB (show lo < hi' by omega) (by omega) hc1 hc3 (fun c' _ hc' => hT.2.1 c' (by omega))).mono (fun x40 M39 q => ?_)
    obtain ⟨p1, p2, p3, p4, p5⟩ := q
    have x1 : NX L W (Tpk (s + 1)) (Cim s) True (s + 1) M M39 := (p1.nx hF).mono hF (fun _ u => u) hN.2.1.1 (fun x u => Or.inl u) (fun x u => hS.cl (n := cn) hcn x u.so) (fun u => u)
    have stb1 : ∀ x, Stb s x → mI M39 x = mI M x := fun x hx => by
      have ne : x ≠ s + 1 := by unfold Stb at hx; omega
      refine ((p1.nx hF).oth (hS.2.2.1 x hx) ne).2.2.2 (fun u => ?_)
      unfold Ipk at u
      unfold Stb at hx
      omega
    have N1 := hN.trans x1
    have U1 : Unk M39 s cn un := unk_same hU (fun x hx _ => stb1 x hx) (stb1 (s + 126) (Or.inr (Or.inr (Or.inr (Or.inr (Or.inr (Or.inr (Or.inr (Or.inl rfl)))))))))
    have I1 := im_mk h0 hcn hr N1 p2 U1
    obtain ⟨-, hS1, eR1, -, ⟨hrs1, ht11⟩, -⟩ := id I1
    obtain ⟨⟨o1, ⟨⟨s01, -⟩, ⟨r01, -⟩, -⟩, -⟩, ⟨hF1, -, -, -⟩, -, -, ⟨t11, t21, t31, t41, -, t71⟩, hrow1, -⟩ := id hS1
    have fr := t71 kst (by omega)
    have ap := hS1.te.2.2.2.1 kst (by omega)
    obtain ⟨i9, -, -⟩ := p2.bt
    have fw := p2.frl i9
    have ob : Osz M39 (mR M39 (s + 1) 9) 139 := ⟨hF1.szv fw.2.1 p3.2.1, hF1.szv fw.2.2 (Int.lt_of_lt_of_le p3.1.2 (p30m (by decide))), p3.2.2.1.1, by have := p3.2.2.1.2; omega⟩
    have orw : Osz M39 (mR M39 R kst) 139 := by
      have sm := hrs1 kst hkc
      have a1 := hF1.szv fr.2.1 sm.2.2
      have a2 := hF1.szv fr.2.2 sm.2.1
      have a3 := ht11 kst hkc
      exact ⟨by omega, by omega, by omega, by omega⟩
    rw [t21, t41, r01]
    refine ⟨⟨by omega, by omega⟩, o1, s01, t11, t31, ⟨by omega, by omega⟩, p2.1.1, (f_orderOfPicked (d := d) o1 hF1 p2 fr ob orw ⟨fun u => ap.1 (Or.inr (Or.inl u)), fun u => ap.2.1 (Or.inr (Or.inl u))⟩ (by have := hW _ (Or.inr (Or.inl (Or.inl rfl))); omega) (by have := hW _ (Or.inr (Or.inl (Or.inr rfl))); omega)).mono (fun x48 M47 q => ?_)⟩
    obtain ⟨n2, xx⟩ := q
    have x2 : NX L W (Tpk (s + 1)) (Cim s) True (s + 1) M39 M47 := (n2.nx hF1).mono hF1 (fun _ u => Or.inr (Or.inl u)) hN.2.1.1 (fun _ u => u.elim) (fun x u => hS1.cl (n := cn) hcn x u.so) (fun u => u.elim)
    have sk2 := n2.sk hF1 p2
    have stb2 : ∀ x, Stb s x → mI M47 x = mI M39 x := fun x hx => by
      have ne : x ≠ s + 1 := by unfold Stb at hx; omega
      exact ((n2.nx hF1).oth (hS1.2.2.1 x hx) ne).2.2.2 (fun u => u)
    have N2 := N1.trans x2
    have U2 : Unk M47 s cn un := unk_same U1 (fun x hx _ => stb2 x hx) (stb2 (s + 126) (Or.inr (Or.inr (Or.inr (Or.inr (Or.inr (Or.inr (Or.inr (Or.inl rfl)))))))))
    have I2 := im_mk h0 hcn hr N2 sk2 U2
    obtain ⟨-, hS2, -, st2, -, -⟩ := id I2
    obtain ⟨⟨o2, ⟨⟨s02, -⟩, ⟨-, -, -, -, -, -, -, -, -, r92, -⟩, ⟨-, -, -, -, -, -, k92, -⟩, ⟨-, -, -, -, -, -, n92, -⟩⟩, -⟩, ⟨hF2, -⟩, hSt2, -⟩ := id hS2
    rw [r92, n92]
    refine ⟨by rcases xx with e | e | e <;> rw [e] <;> exact ⟨by decide, by decide⟩, o2, fun _ => next bt M47 hb I2, fun _ => ⟨s02, k92, ⟨by omega, by omega⟩, fun M58 e58 => ?_⟩⟩
    have f58 : FI (fun z => z = s + 126) M47 M58 := by rw [e58]; exact FI.ui rfl
    have o58 : mOk M58 := by rw [e58]; exact mOk_UI o2 ⟨by omega, by omega⟩
    obtain ⟨x3, -⟩ := f58.nx (T := Tpk (s + 1)) (r := False) (z := s + 1) o58 hF2 hN.2.1.1 (fun x u => by rw [u]; exact hSt2 _ (Or.inr (Or.inr (Or.inr (Or.inr (Or.inr (Or.inr (Or.inr (Or.inl rfl))))))))) hS2.z9
    have x3' : NX L W (Tpk (s + 1)) (Cim s) True (s + 1) M47 M58 := x3.mono hF2 (fun _ u => u) hN.2.1.1 (fun _ u => Or.inr u) (fun x u => hS2.cl (n := cn) hcn x u.so) (fun u => u.elim)
    refine next 1 M58 (Or.inr rfl) (im_mk h0 hcn hr (N2.trans x3') (x3.sk hF2 sk2) ?_)
    have kp : ∀ {x : Nat}, x ≠ s + 126 → mI M58 x = mI M47 x := fun hx => f58.2.2.2.2.2.2 _ hx
    obtain ⟨w1, w2, w3, w4⟩ := U2
    refine ⟨by rw [kp (by omega)]; exact w1, w2, fun j hj => by rw [kp (show s + 124 ≠ s + 126 by omega)]; exact w3 j hj, fun j hj => ?_⟩
    rw [kp (show s + 125 ≠ s + 126 by omega), kp (show s + 122 ≠ s + 126 by omega), kp (show s + 123 ≠ s + 126 by omega), mI_ui _ j e58]
    by_cases cj : j = i
    · rw [if_pos ⟨rfl, cj⟩, cj]
      refine ⟨kst, x40.toNat, lo, hi', ?_, hkc, by omega, ?_, ?_, by omega, by omega⟩
      · rw [stb2 (s + 125) st122.2.2, stb1 (s + 125) st122.2.2]; exact e1
      · rw [stb2 (s + 122) st122.1, stb1 (s + 122) st122.1]; exact e2
      · rw [stb2 (s + 123) st122.2.1, stb1 (s + 123) st122.2.1]; exact e3
    · rw [if_neg (fun u => cj u.2)]
      exact w4 j hj
theorem s_So_improve {pl : Int} (hpl : i32 pl) (h0 : Sva L W s g a R k cn cc bc M) (hcn : cn ≤ k) (hk : k ≤ 512) (hL : LHs M s cn cc) (hU : Unk M s cn un) (hr : Rsm M R cn 17 ∧ Rt1 M R cn) (hW : ∀ x, Tpk (s + 1) x → B ≤ W x) (b1 : 300 ≤ B) (hB : B ≤ 16000) : Ci G y_So_improve (d + 7) [vr s, vi pl, vr a] M (fun x M' => (x = 0 ∨ x = 1) ∧ imI L W s g a R k cn cc bc un M M') := by
  have hF := h0.2.1.1
  refine k_So_improve h0.1.1 hpl ?_
  exact s_im5 hpl h0 hcn hk hL hr hW b1 hB hU.2.1 un 0 0 M (by omega) (by omega) (Or.inl rfl) (im_mk h0 hcn hr (NX.refl h0.1.1 hF h0.2.1.2.1.tpk (fun x u => h0.cl (n := cn) hcn x u.so) h0.z9) h0.2.1.2.1 hU)
end NBU
end
section
/-! The class's Solver: ranks. -/
section NBV
variable {G : mG} {d s g a R cn cc bc i k n c un x y fd : Nat} {M M0 M' M1 M2 M3 : mM} {L : List Nat} {W : Nat → Nat}
theorem s_So_leadsBelow {rd : Int} (hrd : i32 rd) (h : SG M s g cn cc bc) (hf : mK M fd = 30 ∧ mN M fd = 512) (hc : c < cc) : Ci G y_So_leadsBelow d [vr s, vi c, vi rd, vr fd] M (fun x M' => M' = M ∧ (x = 0 ∨ x = 1)) := by
  obtain ⟨o, ⟨⟨s0, -⟩, ⟨-, -, -, r3, -⟩, -⟩, ⟨g0, ⟨-, -, -, q7, q8, -⟩, gk, ⟨-, -, -, m7, m8, -⟩⟩, -, hT⟩ := id h
  obtain ⟨hc1, hc2, hc3⟩ := hT.1
  obtain ⟨x, y, mu, e1, e2, ⟨xy, -⟩, yb, br, -⟩ := hT.2.1 c hc
  refine k_So_leadsBelow o ⟨by omega, by omega⟩ hrd ?_
  rw [r3, q7, m7, Int.toNat_natCast, e1]
  refine ⟨s0, g0, gk 7 (by decide) (by decide), ⟨by omega, by omega⟩, ?_⟩
  suffices HH : ∀ (t i : Nat), y ≤ i + t → x ≤ i → i ≤ y → h_So_leadsBelow_11 G d s c rd fd i M (fun x M' => M' = M ∧ (x = 0 ∨ x = 1)) from HH (y - x) x (by omega) (Nat.le_refl _) (by omega)
  intro t
  induction t with
  | zero =>
    intro i h1 h2 h3
    refine k_So_leadsBelow_11 o ⟨by omega, by omega⟩ hrd ⟨by omega, by omega⟩ ?_
    rw [r3, q7, m7, show Int.toNat ((c : Int) + 1) = c + 1 by first | rfl | omega, e2]
    exact ⟨s0, g0, gk 7 (by decide) (by decide), ⟨by omega, by omega⟩, fun _ => ⟨rfl, Or.inl rfl⟩, fun u => absurd (by omega) u⟩
  | succ t ih =>
    intro i h1 h2 h3
    refine k_So_leadsBelow_11 o ⟨by omega, by omega⟩ hrd ⟨by omega, by omega⟩ ?_
    rw [r3, q7, m7, show Int.toNat ((c : Int) + 1) = c + 1 by first | rfl | omega, e2]
    refine ⟨s0, g0, gk 7 (by decide) (by decide), ⟨by omega, by omega⟩, fun _ => ⟨rfl, Or.inl rfl⟩, fun u => ?_⟩
    obtain ⟨b1, b2, b3⟩ := br i h2 (by omega)
    rw [q8, m8, hf.2, Int.toNat_natCast, show ((i : Int) + 1) = ((i + 1 : Nat) : Int) by first | rfl | omega]
    exact ⟨gk 8 (by decide) (by decide), ⟨by omega, by omega⟩, hf.1, ⟨by omega, by omega⟩, fun _ => ih (i + 1) (by omega) (by omega) (by omega), fun _ => ⟨rfl, Or.inr rfl⟩⟩
theorem s_So_earns {rd : Int} (hrd : i32 rd) (h : SG M s g cn cc bc) (hf : mK M fd = 30 ∧ mN M fd = 512) (hk : k < cn) : Ci G y_So_earns (d + 1) [vr s, vi k, vi rd, vr fd] M (fun x M' => M' = M ∧ (x = 0 ∨ x = 1)) := by
  obtain ⟨o, ⟨⟨s0, -⟩, ⟨-, -, -, r3, -, -, -, -, -, -, r11, -⟩, ⟨-, -, -, -, -, -, -, k11, -⟩, ⟨-, -, -, -, -, -, -, n11, -⟩⟩, ⟨g0, ⟨q2, q4, -⟩, gk, ⟨m2, m4, -⟩⟩, -, hT⟩ := id h
  obtain ⟨hc1, hc2, hc3⟩ := hT.1
  obtain ⟨x, y, e1, e2, xy, yc⟩ := hT.2.2.1 k hk
  refine k_So_earns o ⟨by omega, by omega⟩ hrd ?_
  rw [r3, q2, m2, q4, m4, Int.toNat_natCast, e1]
  refine ⟨s0, g0, gk 2 (by decide) (by decide), ⟨by omega, by omega⟩, fun v6 e6 => ⟨gk 4 (by decide) (by decide), ⟨by omega, by omega⟩, ?_⟩⟩
  have v01 : v6 = 0 ∨ v6 = 1 := by rw [e6]; split <;> omega
  suffices HH : ∀ (t c : Nat), y ≤ c + t → x ≤ c → c ≤ y → h_So_earns_31 G d s k rd fd v6 c M (fun x M' => M' = M ∧ (x = 0 ∨ x = 1)) from HH (y - x) x (by omega) (Nat.le_refl _) (by omega)
  have fin : ∀ v27 : Int, v27 = (if (v6 = 0) then 1 else 0) → M = M ∧ (v27 = 0 ∨ v27 = 1) := fun v27 e => ⟨rfl, by rw [e]; split <;> omega⟩
  intro t
  induction t with
  | zero =>
    intro c h1 h2 h3
    refine k_So_earns_31 o ⟨by omega, by omega⟩ hrd (m_b32 v01) ⟨by omega, by omega⟩ ?_
    rw [r3, q4, m4, show Int.toNat ((k : Int) + 1) = k + 1 by first | rfl | omega, e2]
    exact ⟨s0, g0, gk 4 (by decide) (by decide), ⟨by omega, by omega⟩, fun _ => fin, fun u => absurd (by omega) u⟩
  | succ t ih =>
    intro c h1 h2 h3
    refine k_So_earns_31 o ⟨by omega, by omega⟩ hrd (m_b32 v01) ⟨by omega, by omega⟩ ?_
    rw [r3, q4, m4, show Int.toNat ((k : Int) + 1) = k + 1 by first | rfl | omega, e2]
    refine ⟨s0, g0, gk 4 (by decide) (by decide), ⟨by omega, by omega⟩, fun _ => fin, fun u => ?_⟩
    rw [r11, n11, Int.toNat_natCast, show ((c : Int) + 1) = ((c + 1 : Nat) : Int) by first | rfl | omega]
    refine ⟨k11, ⟨by omega, by omega⟩, fun _ => ih (c + 1) (by omega) (by omega) (by omega), fun _ => (s_So_leadsBelow (d := d) hrd h hf (show c < cc by omega)).mono (fun x38 M37 q => ?_)⟩
    rw [q.1]
    exact ⟨m_b32 q.2, o, fun _ => ⟨v01, rfl, v01⟩, fun _ => ih (c + 1) (by omega) (by omega) (by omega)⟩
/-- ranks are filled in -/
def frI (L : List Nat) (W : Nat → Nat) (s g a R k cn cc bc fd : Nat) (M0 M : mM) : Prop := mOk M ∧ FI (fun z => z = fd) M0 M ∧ Sva L W s g a R k cn cc bc M
theorem fr_mk (h : Sva L W s g a R k cn cc bc M0) (hcn : cn ≤ k) (hfd : Stb s fd ∧ fd ≠ s) (o : mOk M) (f : FI (fun z => z = fd) M0 M) : frI L W s g a R k cn cc bc fd M0 M := by
  have hF := h.2.1.1
  obtain ⟨x, -⟩ := f.nx (T := Tso s M0 R cn) (r := False) (z := s + 1) o hF (h.tl hcn) (fun x u => by rw [u]; exact h.2.2.1 fd hfd.1) h.z9
  have x' : NX L W (Tso s M0 R cn) (Cso s M0 R cn) False (s + 1) M0 M := x.mono hF (fun _ u => u) (h.tl hcn) (fun x u => Or.inr (Or.inl (by rw [u]; exact hfd.1))) (h.cl hcn) (fun u => u)
  exact ⟨o, f, (h.nx hcn x' (x.sk hF h.2.1.2.1)).1⟩
theorem s_So_fillRanks (h : Sva L W s g a R k cn cc bc M) (hcn : cn ≤ k) (hk : k ≤ 512) (hfd : fd = s + 29 ∨ fd = s + 129) : Cv G y_So_fillRanks (d + 3) [vr s, vr a, vr fd] M (frI L W s g a R k cn cc bc fd M) := by
  have hSt : Stb s fd ∧ fd ≠ s := by
    unfold Stb
    omega
  have kf : ∀ {M1 : mM}, Sva L W s g a R k cn cc bc M1 → mK M1 fd = 30 ∧ mN M1 fd = 512 := fun h => by
    obtain ⟨⟨-, ⟨-, -, ⟨k1, -, -, -, -, -, -, -, k12⟩, ⟨n1, -, -, -, -, -, -, -, n12⟩⟩, -⟩, -⟩ := h
    rcases hfd with e | e <;> rw [e]
    · exact ⟨k1, n1⟩
    · exact ⟨k12, n12⟩
  have st : ∀ {M1 : mM} {j : Nat} {v : Int}, frI L W s g a R k cn cc bc fd M M1 → i32 v → ∀ M2, M2 = mUI M1 fd j v → frI L W s g a R k cn cc bc fd M M2 := fun hI hv M2 e => fr_mk h hcn hSt (by rw [e]; exact mOk_UI hI.1 hv) (hI.2.1.trans (by rw [e]; exact FI.ui rfl))
  refine k_So_fillRanks h.1.1 ?_
  -- the rounds
  have R45 : ∀ (t rn : Nat) (l3 : Int) (M1 : mM), 513 ≤ rn + t → 1 ≤ rn → rn ≤ 513 → (l3 = 0 ∨ l3 = 1) → frI L W s g a R k cn cc bc fd M M1 → h_So_fillRanks_45 G (d + 2) s a fd l3 rn M1 (frI L W s g a R k cn cc bc fd M) := by
    intro t
    induction t with
    | zero =>
      intro rn l3 M1 h1 h2 h3 hl hI
      exact k_So_fillRanks_45 hI.1 (m_b32 hl) ⟨by omega, by omega⟩ ⟨fun _ => hI, fun u => absurd (Or.inl (by omega)) u⟩
    | succ t ih =>
      intro rn l3 M1 h1 h2 h3 hl hI
      refine k_So_fillRanks_45 hI.1 (m_b32 hl) ⟨by omega, by omega⟩ ⟨fun _ => hI, fun u => ?_⟩
      have rl : rn ≤ 512 := by
        by_cases c : (512 : Int) < rn
        · exact absurd (Or.inl c) u
        · omega
      suffices HH : ∀ (t j : Nat) (l3 : Int) (M1 : mM), cn ≤ j + t → j ≤ cn → (l3 = 0 ∨ l3 = 1) → frI L W s g a R k cn cc bc fd M M1 → h_So_fillRanks_62 G (d + 2) s a fd l3 rn j M1 (frI L W s g a R k cn cc bc fd M) from HH cn 0 0 M1 (by omega) (by omega) (Or.inl rfl) hI
      intro t2
      induction t2 with
      | zero =>
        intro j l3 M1 h1' h2' hl' hI'
        obtain ⟨-, -, ⟨⟨o, ⟨⟨s0, -⟩, ⟨-, -, -, r3, -⟩, -⟩, ⟨g0, -⟩, -, hT⟩, -⟩⟩ := id hI'
        have hc1 := hT.1.1
        refine k_So_fillRanks_62 o (m_b32 hl') ⟨by omega, by omega⟩ ⟨by omega, by omega⟩ ?_
        rw [r3, hT.2.2.2, show ((rn : Int) + 1) = ((rn + 1 : Nat) : Int) by first | rfl | omega]
        exact ⟨s0, g0, fun _ => ih (rn + 1) l3 M1 (by omega) (by omega) (by omega) hl' hI', fun u => absurd (by omega) u⟩
      | succ t2 ih2 =>
        intro j l3 M1 h1' h2' hl' hI'
        by_cases ej : j = cn
        · exact ih2 j l3 M1 (by omega) h2' hl' hI'
        have hS1 := hI'.2.2
        obtain ⟨⟨o, ⟨⟨s0, -⟩, ⟨-, -, -, r3, -⟩, -⟩, ⟨g0, -⟩, -, hT⟩, ⟨hF, -⟩, -, -, ⟨t1, t2', t3, t4, -, t7⟩, -, -⟩ := id hS1
        have hc1 := hT.1.1
        obtain ⟨kd, nd⟩ := kf hS1
        have fr := t7 j (by omega)
        refine k_So_fillRanks_62 o (m_b32 hl') ⟨by omega, by omega⟩ ⟨by omega, by omega⟩ ?_
        rw [r3, hT.2.2.2, kd, nd, t2', t4, Int.toNat_natCast, fr.1.2.1.1, show ((j : Int) + 1) = ((j + 1 : Nat) : Int) by first | rfl | omega]
        refine ⟨s0, g0, fun u => absurd u (by omega), fun _ => ⟨rfl, ⟨by omega, by omega⟩, fun _ => ⟨t1, t3, ⟨by omega, by omega⟩, fr.1.1, hF.kd fr.2.1⟩, fun _ => ih2 (j + 1) l3 M1 (by omega) (by omega) hl' hI', fun _ => (s_So_earns (d := d + 1) (rd := ((rn : Nat) : Int)) ⟨by omega, by omega⟩ hS1.1 ⟨kd, nd⟩ (show j < cn by omega)).mono (fun x59 M58 q => ?_)⟩⟩
        rw [q.1, kd, nd]
        refine ⟨m_b32 q.2, o, fun _ => ⟨rfl, ⟨by omega, by omega⟩⟩, fun v64 e64 M65 e65 => ?_⟩
        by_cases cx : x59 = 0
        · rw [if_pos cx] at e64 e65
          rw [e64, e65]
          exact ⟨o, ih2 (j + 1) l3 M1 (by omega) (by omega) hl' hI'⟩
        · rw [if_neg cx] at e64 e65
          have I2 := st hI' (show i32 ((rn : Nat) : Int) from ⟨by omega, by omega⟩) M65 e65
          rw [e64]
          exact ⟨I2.1, ih2 (j + 1) 1 M65 (by omega) (by omega) (Or.inr rfl) I2⟩
  suffices HH : ∀ (t j : Nat) (M1 : mM), cn ≤ j + t → j ≤ cn → frI L W s g a R k cn cc bc fd M M1 → h_So_fillRanks_2 G (d + 2) s a fd j M1 (frI L W s g a R k cn cc bc fd M) from HH cn 0 M (by omega) (by omega) ⟨h.1.1, FI.refl, h⟩
  intro t
  induction t with
  | zero =>
    intro j M1 h1 h2 hI
    obtain ⟨-, -, ⟨⟨o, ⟨⟨s0, -⟩, ⟨-, -, -, r3, -⟩, -⟩, ⟨g0, -⟩, -, hT⟩, -⟩⟩ := id hI
    have hc1 := hT.1.1
    refine k_So_fillRanks_2 o ⟨by omega, by omega⟩ ?_
    rw [r3, hT.2.2.2]
    exact ⟨s0, g0, fun _ => R45 512 1 1 M1 (by omega) (by omega) (by omega) (Or.inr rfl) hI, fun u => absurd (by omega) u⟩
  | succ t ih =>
    intro j M1 h1 h2 hI
    obtain ⟨-, -, ⟨⟨o, ⟨⟨s0, -⟩, ⟨-, -, -, r3, -⟩, -⟩, ⟨g0, ⟨q2, -⟩, gk, ⟨m2, -⟩⟩, -, hT⟩, -⟩⟩ := id hI
    have hc1 := hT.1.1
    obtain ⟨kd, nd⟩ := kf hI.2.2
    refine k_So_fillRanks_2 o ⟨by omega, by omega⟩ ?_
    rw [r3, hT.2.2.2, q2, m2, kd, nd, Int.toNat_natCast, show ((j : Int) + 1) = ((j + 1 : Nat) : Int) by first | rfl | omega]
    refine ⟨s0, g0, fun _ => R45 512 1 1 M1 (by omega) (by omega) (by omega) (Or.inr rfl) hI, fun u => ⟨gk 2 (by decide) (by decide), ⟨by omega, by omega⟩, fun v10 e10 => ⟨rfl, ⟨by omega, by omega⟩, fun M16 e16 => ?_⟩⟩⟩
    have vi' : i32 v10 := by rw [e10]; split <;> exact ⟨by decide, by decide⟩
    exact ih (j + 1) M16 (by omega) (by omega) (st hI vi' M16 e16)
end NBV
end
section
/-! The class's Solver: commands that attain. -/
section NBW
variable {G : mG} {d s g a R cn cc bc i k n c un x y fd B : Nat} {M M0 M' M1 M2 M3 : mM} {L : List Nat} {W : Nat → Nat}
theorem and01 {x y : Int} (hx : x = 0 ∨ x = 1) (hy : y = 0 ∨ y = 1) : andI x y = 0 ∨ andI x y = 1 := by
  rcases hx with e | e <;> rcases hy with e' | e' <;> rw [e, e'] <;> decide
theorem or01 {x y : Int} (hx : x = 0 ∨ x = 1) (hy : y = 0 ∨ y = 1) : orI x y = 0 ∨ orI x y = 1 := by
  rcases hx with e | e <;> rcases hy with e' | e' <;> rw [e, e'] <;> decide
def Tat (s x : Nat) : Prop := Tpk (s + 1) x ∨ T2 (s + 130) x
def Cat (s x : Nat) : Prop := x = s + 130 ∨ x = s + 128
theorem Cat.so {R' : Nat} (h : Cat s x) : Cso s M R' n x := h.elim (fun u => Or.inr (Or.inr (Or.inr (Or.inr (Or.inl u))))) (fun u => Or.inr (Or.inl (Or.inr (Or.inr (Or.inr (Or.inr (Or.inr (Or.inr (Or.inr (Or.inr (Or.inl u)))))))))))
/-- while commands are marked -/
def atI (L : List Nat) (W : Nat → Nat) (s g a R k cn cc bc : Nat) (M0 M : mM) : Prop := NX L W (Tat s) (Cat s) False (s + 1) M0 M ∧ Sva L W s g a R k cn cc bc M ∧ mR M R = mR M0 R ∧ (∀ x, Stb s x → x ≠ s + 128 → mI M x = mI M0 x) ∧ (Rsm M R cn 17 ∧ Rt1 M R cn) ∧ ∀ i, i ≤ 9 → mI M (g + i) = mI M0 (g + i)
theorem at_mk (h : Sva L W s g a R k cn cc bc M0) (hcn : cn ≤ k) (hr : Rsm M0 R cn 17 ∧ Rt1 M0 R cn) (q : NX L W (Tat s) (Cat s) False (s + 1) M0 M) : atI L W s g a R k cn cc bc M0 M := by
  have hF := h.2.1.1
  have q' : NX L W (Tso s M0 R cn) (Cso s M0 R cn) False (s + 1) M0 M := q.mono hF (fun _ u => u.elim Or.inl (fun u => Or.inr (Or.inr (Or.inl u)))) (h.tl hcn) (fun x u => u.so) (h.cl hcn) (fun u => u)
  obtain ⟨e1, e2, e3⟩ := h.nx hcn q' (q.sk hF h.2.1.2.1)
  have rv : ∀ i, i < cn → nv M (mR M0 R i + 1) = nv M0 (mR M0 R i + 1) ∧ nv M (mR M0 R i + 3) = nv M0 (mR M0 R i + 3) ∧ mI M (mR M0 R i) = mI M0 (mR M0 R i) := fun i hi => by
    have f := h.2.2.2.2.1.2.2.2.2.2 i (by omega)
    have ap := h.te.2.2.2.1 i (by omega)
    have hb := h.2.2.2.2.2.1 i (by omega)
    refine ⟨(q.num hF f.2.1 (fun u => u.elim ap.1 (fun u => by unfold T2 at u; omega))).2.2, (q.num hF f.2.2 (fun u => u.elim ap.2.1 (fun u => by unfold T2 at u; omega))).2.2, (q.frl hF f).2 (fun u => ?_)⟩
    unfold Cat at u
    omega
  refine ⟨q, e1, e3, fun x hx nx => ?_, ⟨fun i hi => ?_, fun i hi => ?_⟩, e2⟩
  · have ne : x ≠ s + 1 := by unfold Stb at hx; omega
    refine (q.oth (h.2.2.1 x hx) ne).2.2.2 (fun u => ?_)
    unfold Cat at u
    unfold Stb at hx
    omega
  · rw [e3, (rv i hi).1, (rv i hi).2.1]; exact hr.1 i hi
  · rw [e3, (rv i hi).2.2]; exact hr.2 i hi
theorem Sva.we (h : Sva L W s g a R k cn cc bc M) (hcn : cn ≤ k) : We L W (s + 1) (s + 130) g a R cn M := by
  obtain ⟨⟨h1, h2, h3⟩, h4, h5, -⟩ := h.te
  refine ⟨⟨h1, h2, h3, h.2.1.2.2.2⟩, h4, h5.ws hcn, fun i hi => ?_⟩
  have := h.2.2.2.2.2.1 i (by omega)
  unfold Dwg Twg T4
  omega
theorem tw_at {z : Nat} (h : Twg (s + 1) (s + 130) z) : Tat s z := by
  rcases h with u | u | u | u | u | u
  · exact Or.inl (Or.inl u)
  · exact Or.inl (Or.inr (Or.inl (Or.inr u)))
  · exact Or.inl (Or.inr (Or.inr (Or.inl (Or.inl u))))
  · exact Or.inl (Or.inr (Or.inr (Or.inl (Or.inr u))))
  · exact Or.inr (Or.inl u)
  · exact Or.inr (Or.inr u)
theorem Sva.tat (h : Sva L W s g a R k cn cc bc M) : ∀ t, Tat s t → t ∈ L := fun t ht => ht.elim (h.2.1.2.1.tpk t) (h.2.1.2.2.2.t2 t)
theorem Sva.cat (h : Sva L W s g a R k cn cc bc M) (hcn : cn ≤ k) : ∀ x, Cat s x → Oc L M x := fun x u => h.cl (n := cn) hcn x u.so
/-- the worth against a row -/
theorem s_atOrder {Q : Int → mM → Prop} (h0 : Sva L W s g a R k cn cc bc M0) (hcn : cn ≤ k) (hr : Rsm M0 R cn 17 ∧ Rt1 M0 R cn) (hI : atI L W s g a R k cn cc bc M0 M) (hw : Osz M (s + 130) 139) (hi : i < cn) (hW : ∀ x, Tat s x → B ≤ W x) (b1 : 300 ≤ B)
    (hQ : ∀ x M', (x = -1 ∨ x = 0 ∨ x = 1) → atI L W s g a R k cn cc bc M0 M' → Q x M') : mK M s = 8 ∧ mK M (mR M s 0) = 9 ∧ Ci G y_Sc_order (d + 5) [vr (mR M s 0), vr (mR M s 17), vr (mR M0 R i)] M (fun x M' => i32 x ∧ mOk M' ∧ Q x M') := by
  obtain ⟨hN, hS, eR, st, ⟨hrs, ht1⟩, -⟩ := id hI
  obtain ⟨⟨o, ⟨⟨s0, -⟩, ⟨r0, -, -, -, -, -, -, -, -, -, -, -, r13⟩, -⟩, -⟩, ⟨hF, hSK, -, hfw⟩, -, -, ⟨-, -, -, -, -, t7⟩, hrow, -⟩ := id hS
  have fr := t7 i (by omega)
  have hb := hrow i (by omega)
  have ap := hS.te.2.2.2.1 i (by omega)
  have sm := hrs i hi
  have a1 := hF.szv fr.2.1 sm.2.2
  have a2 := hF.szv fr.2.2 sm.2.1
  have a3 := ht1 i hi
  rw [r0, r13, ← eR]
  refine ⟨s0, hSK.1.1, (f_Sc_order (d := d) (s := 139) ⟨o, hF, hSK, hfw, fr⟩ hw ⟨by omega, by omega, by omega, by omega⟩ (by unfold Tor; omega) ⟨fun u => ap.1 (Or.inr (Or.inl u)), fun u => ap.2.1 (Or.inr (Or.inl u))⟩ (by have := hW _ (Or.inl (Or.inr (Or.inl (Or.inl rfl)))); omega) (by have := hW _ (Or.inl (Or.inr (Or.inl (Or.inr rfl)))); omega)).mono (fun x M' q => ?_)⟩
  obtain ⟨n1, xx⟩ := q
  have x1 : NX L W (Tat s) (Cat s) False (s + 1) M M' := (n1.nx hF).mono hF (fun _ u => Or.inl (Or.inr (Or.inl u))) hS.tat (fun _ u => u.elim) (hS.cat hcn) (fun u => u)
  exact ⟨by rcases xx with e | e | e <;> rw [e] <;> exact ⟨by decide, by decide⟩, n1.ok, hQ x M' xx (at_mk h0 hcn hr (hN.trans x1))⟩
theorem s_at138 {v60 : Int} (h60 : v60 = 1 ∨ v60 = -1) (h0 : Sva L W s g a R k cn cc bc M0) (hcn : cn ≤ k) (hk : k ≤ 512) (hr : Rsm M0 R cn 17 ∧ Rt1 M0 R cn) (hi : i < cn) (ex : mI M0 (g + 4) i = ((x : Nat) : Int)) (ey : mI M0 (g + 4) (i + 1) = ((y : Nat) : Int)) (xy : x ≤ y ∧ y ≤ cc) (hW : ∀ x, Tat s x → B ≤ W x) (b1 : 300 ≤ B) (hB : B ≤ 16000)
    (hQ : ∀ (rt : Int) (M' : mM), (rt = 0 ∨ rt = 1) → atI L W s g a R k cn cc bc M0 M' → h_So_attain_4 G (d + 5) s a rt ((i : Int) + 1) M' (fun x M' => (x = 0 ∨ x = 1) ∧ atI L W s g a R k cn cc bc M0 M')) : ∀ (t c : Nat) (rt mt : Int) (M : mM), y ≤ c + t → x ≤ c → c ≤ y → (rt = 0 ∨ rt = 1) → (mt = 0 ∨ mt = 1) → atI L W s g a R k cn cc bc M0 M → h_So_attain_138 G (d + 5) s a rt i (mR M0 R i) mt v60 c M (fun x M' => (x = 0 ∨ x = 1) ∧ atI L W s g a R k cn cc bc M0 M') := by
  have i60 : i32 v60 := by rcases h60 with e | e <;> rw [e] <;> exact ⟨by decide, by decide⟩
  obtain ⟨hc1, hc2, hc3⟩ := h0.1.2.2.2.2.1
  intro t
  induction t with
  | zero =>
    intro c rt mt M h1 h2 h3 hrt hmt hI
    obtain ⟨-, ⟨⟨o, ⟨⟨s0, -⟩, ⟨-, -, -, r3, -⟩, -⟩, ⟨g0, ⟨-, q4, -⟩, gk, ⟨-, m4, -⟩⟩, -⟩, -⟩, -, -, -, gi⟩ := id hI
    refine k_So_attain_138 o (m_b32 hrt) ⟨by omega, by omega⟩ (m_b32 hmt) i60 ⟨by omega, by omega⟩ ?_
    rw [r3, q4, m4, show Int.toNat ((i : Int) + 1) = i + 1 by first | rfl | omega, gi 4 (by decide), ey]
    exact ⟨s0, g0, gk 4 (by decide) (by decide), ⟨by omega, by omega⟩, fun _ => hQ _ M (and01 hrt hmt) hI, fun u => absurd (by omega) u⟩
  | succ t ih =>
    intro c rt mt M h1 h2 h3 hrt hmt hI
    obtain ⟨hN, hS, eR, st, ⟨hrs, ht1⟩, gi⟩ := id hI
    obtain ⟨⟨o, ⟨⟨s0, -⟩, ⟨r0, -, -, r3, -, -, -, -, -, -, -, -, r13⟩, -⟩, ⟨g0, ⟨-, q4, -⟩, gk, ⟨-, m4, -⟩⟩, -, hT⟩, ⟨hF, hSK, -, hfw⟩, -⟩ := id hS
    refine k_So_attain_138 o (m_b32 hrt) ⟨by omega, by omega⟩ (m_b32 hmt) i60 ⟨by omega, by omega⟩ ?_
    rw [r3, q4, m4, show Int.toNat ((i : Int) + 1) = i + 1 by first | rfl | omega, gi 4 (by decide), ey, r0, r13]
    refine ⟨s0, g0, gk 4 (by decide) (by decide), ⟨by omega, by omega⟩, fun _ => hQ _ M (and01 hrt hmt) hI, fun u => ⟨hSK.1.1, ?_⟩⟩
    obtain ⟨mu, hm, kw⟩ := f_weigh (G := G) (d := d) (B := B) (S := 17) (hS.we hcn) hrs (fun z hz => hW z (tw_at hz)) (by omega) hB (show c < 4096 by omega) hc1 hc3 (hT.2.1 c (by omega))
    refine kw.mono (fun M74 q => ?_)
    obtain ⟨n1, u1, u2, u3, -⟩ := q
    have x1 : NX L W (Tat s) (Cat s) False (s + 1) M M74 := (n1.nx hF).mono hF (fun _ z => tw_at z) hS.tat (fun _ z => Or.inl z) (hS.cat hcn) (fun z => z)
    have I1 := at_mk h0 hcn hr (hN.trans x1)
    have F1 := n1.nf
    have ow : Osz M74 (s + 130) 139 := ⟨F1.szv hfw.2.1 u2, F1.szv hfw.2.2 (Int.lt_of_lt_of_le u1.2 (p30m (by decide))), by rw [u3]; omega, by rw [u3]; omega⟩
    have key : ∀ (x80 : Int) (M79 : mM), (x80 = -1 ∨ x80 = 0 ∨ x80 = 1) → atI L W s g a R k cn cc bc M0 M79 → (mK M79 s = 8 ∧ ∀ v84 : Int, v84 = (if (x80 = 0) then 1 else 0) → mK M79 (mR M79 s 15) = 31 ∧ ((0 : Int) ≤ (c : Int) ∧ (c : Int) < (mN M79 (mR M79 s 15) : Int)) ∧ ∀ M91, M91 = mUI M79 (mR M79 s 15) (Int.toNat c) v84 → ∀ v94 : Int, v94 = (if (x80 = 0) then 1 else 0) → ∀ v100 : Int, v100 = (if (x80 = v60) then 0 else 1) → h_So_attain_138 G (d + 5) s a (andI rt v100) i (mR M0 R i) (orI mt v94) v60 ((c : Int) + 1) M91 (fun x M' => (x = 0 ∨ x = 1) ∧ atI L W s g a R k cn cc bc M0 M')) := by
      intro x80 M79 xx I2
      obtain ⟨hN2, hS2, -, -, -, -⟩ := id I2
      obtain ⟨⟨o2, ⟨⟨s02, -⟩, ⟨-, -, -, -, -, -, -, -, -, -, r11, -⟩, ⟨-, -, -, -, -, -, -, k11, -⟩, ⟨-, -, -, -, -, -, -, n11, -⟩⟩, -⟩, ⟨hF2, -⟩, hSt2, -⟩ := id hS2
      rw [r11, n11, Int.toNat_natCast, show ((c : Int) + 1) = ((c + 1 : Nat) : Int) by first | rfl | omega]
      refine ⟨s02, fun v84 e84 => ⟨k11, ⟨by omega, by omega⟩, fun M91 e91 v94 e94 v100 e100 => ?_⟩⟩
      have b84 : v84 = 0 ∨ v84 = 1 := by rw [e84]; split <;> omega
      have b94 : v94 = 0 ∨ v94 = 1 := by rw [e94]; split <;> omega
      have b100 : v100 = 0 ∨ v100 = 1 := by rw [e100]; split <;> omega
      have f91 : FI (fun z => z = s + 128) M79 M91 := by rw [e91]; exact FI.ui rfl
      have o91 : mOk M91 := by rw [e91]; exact mOk_UI o2 (m_b32 b84)
      obtain ⟨x3, -⟩ := f91.nx (T := Tat s) (r := False) (z := s + 1) o91 hF2 hS2.tat (fun z hz => hS2.cat hcn z (Or.inr hz)) hS2.z9
      have x3' : NX L W (Tat s) (Cat s) False (s + 1) M79 M91 := x3.mono hF2 (fun _ z => z) hS2.tat (fun _ z => Or.inr z) (hS2.cat hcn) (fun z => z)
      exact ih (c + 1) _ _ M91 (by omega) (by omega) (by omega) (and01 hrt b100) (or01 hmt b94) (at_mk h0 hcn hr (hN2.trans x3'))
    obtain ⟨w1, w2, w3⟩ := s_atOrder (G := G) (d := d) (Q := fun x80 M79 => mK M79 s = 8 ∧ ∀ v84 : Int, v84 = (if (x80 = 0) then 1 else 0) → mK M79 (mR M79 s 15) = 31 ∧ ((0 : Int) ≤ (c : Int) ∧ (c : Int) < (mN M79 (mR M79 s 15) : Int)) ∧ ∀ M91, M91 = mUI M79 (mR M79 s 15) (Int.toNat c) v84 → ∀ v94 : Int, v94 = (if (x80 = 0) then 1 else 0) → ∀ v100 : Int, v100 = (if (x80 = v60) then 0 else 1) → h_So_attain_138 G (d + 5) s a (andI rt v100) i (mR M0 R i) (orI mt v94) v60 ((c : Int) + 1) M91 (fun x M' => (x = 0 ∨ x = 1) ∧ atI L W s g a R k cn cc bc M0 M')) h0 hcn hr I1 ow hi hW b1 key
    exact ⟨n1.ok, w1, w2, w3⟩
theorem s_So_attain (h0 : Sva L W s g a R k cn cc bc M) (hcn : cn ≤ k) (hk : k ≤ 512) (hr : Rsm M R cn 17 ∧ Rt1 M R cn) (hW : ∀ x, Tat s x → B ≤ W x) (b1 : 300 ≤ B) (hB : B ≤ 16000) : Ci G y_So_attain (d + 6) [vr s, vr a] M (fun x M' => (x = 0 ∨ x = 1) ∧ atI L W s g a R k cn cc bc M M') := by
  obtain ⟨hc1, hc2, hc3⟩ := h0.1.2.2.2.2.1
  refine k_So_attain h0.1.1 ?_
  suffices HH : ∀ (t i : Nat) (rt : Int) (M1 : mM), cn ≤ i + t → i ≤ cn → (rt = 0 ∨ rt = 1) → atI L W s g a R k cn cc bc M M1 → h_So_attain_4 G (d + 5) s a rt i M1 (fun x M' => (x = 0 ∨ x = 1) ∧ atI L W s g a R k cn cc bc M M') from
    HH cn 0 1 M (by omega) (by omega) (Or.inr rfl) (at_mk h0 hcn hr (NX.refl h0.1.1 h0.2.1.1 h0.tat (h0.cat hcn) h0.z9))
  intro t
  induction t with
  | zero =>
    intro i rt M1 h1 h2 hrt hI
    obtain ⟨-, ⟨⟨o, ⟨⟨s0, -⟩, ⟨-, -, -, r3, -⟩, -⟩, ⟨g0, -⟩, -, hT⟩, -⟩, -⟩ := id hI
    refine k_So_attain_4 o (m_b32 hrt) ⟨by omega, by omega⟩ ?_
    rw [r3, hT.2.2.2]
    exact ⟨s0, g0, fun _ => ⟨hrt, hrt, hI⟩, fun u => absurd (by omega) u⟩
  | succ t ih =>
    intro i rt M1 h1 h2 hrt hI
    by_cases ei : i = cn
    · exact ih i rt M1 (by omega) h2 hrt hI
    have hi : i < cn := by omega
    obtain ⟨hN, hS, eR, st, ⟨hrs, ht1⟩, gi⟩ := id hI
    obtain ⟨⟨o, ⟨⟨s0, -⟩, ⟨r0, -, -, r3, -, -, -, -, -, -, -, -, r13⟩, -⟩, ⟨g0, ⟨q2, q4, -⟩, gk, ⟨m2, m4, -⟩⟩, -, hT⟩, ⟨hF, hSK, -, hfw⟩, -, -, ⟨t1, t2, t3, t4, -, t7⟩, -, -⟩ := id hS
    obtain ⟨x, y, x1, y1, xy, yc⟩ := hT.2.2.1 i hi
    have x1' : mI M (g + 4) i = ((x : Nat) : Int) := by rw [← gi 4 (by decide)]; exact x1
    have y1' : mI M (g + 4) (i + 1) = ((y : Nat) : Int) := by rw [← gi 4 (by decide)]; exact y1
    have nxt : ∀ (rt : Int) (M' : mM), (rt = 0 ∨ rt = 1) → atI L W s g a R k cn cc bc M M' → h_So_attain_4 G (d + 5) s a rt ((i : Int) + 1) M' (fun x M' => (x = 0 ∨ x = 1) ∧ atI L W s g a R k cn cc bc M M') := fun rt' M' hrt' hI' => by
      rw [show ((i : Int) + 1) = ((i + 1 : Nat) : Int) by first | rfl | omega]
      exact ih (i + 1) rt' M' (by omega) (by omega) hrt' hI'
    have s107 : ∀ (rt mt : Int) (M2 : mM), (rt = 0 ∨ rt = 1) → (mt = 0 ∨ mt = 1) → atI L W s g a R k cn cc bc M M2 → h_So_attain_107 G (d + 5) s a rt i (mR M R i) mt M2 (fun x M' => (x = 0 ∨ x = 1) ∧ atI L W s g a R k cn cc bc M M') := fun rt mt M2 hrt' hmt' hI' => by
      obtain ⟨-, ⟨⟨o', ⟨⟨s0', -⟩, ⟨-, -, -, r3', -⟩, -⟩, ⟨g0', ⟨q2', q4', -⟩, gk', ⟨m2', m4', -⟩⟩, -, -⟩, -⟩, -, -, -, gi'⟩ := id hI'
      refine k_So_attain_107 o' (m_b32 hrt') ⟨by omega, by omega⟩ (m_b32 hmt') ?_
      rw [r3', q2', m2', q4', m4', Int.toNat_natCast, gi' 4 (by decide), x1']
      refine ⟨s0', g0', gk' 2 (by decide) (by decide), ⟨by omega, by omega⟩, fun v60 e60 => ⟨gk' 4 (by decide) (by decide), ⟨by omega, by omega⟩, ?_⟩⟩
      have h60 : v60 = 1 ∨ v60 = -1 := by rw [e60]; split <;> omega
      exact s_at138 (d := d) h60 h0 hcn hk hr hi x1' y1' ⟨xy, yc.1⟩ hW b1 hB nxt (y - x) x rt mt M2 (by omega) (Nat.le_refl _) (by omega) hrt' hmt' hI'
    refine k_So_attain_4 o (m_b32 hrt) ⟨by omega, by omega⟩ ?_
    rw [r3, hT.2.2.2, t2, t4, q4, m4, q2, m2, r13, Int.toNat_natCast, show Int.toNat ((i : Int) + 1) = i + 1 by first | rfl | omega, eR]
    refine ⟨s0, g0, fun u => absurd u (by omega), fun _ => ⟨t1, t3, ⟨by omega, by omega⟩, gk 4 (by decide) (by decide), ⟨by omega, by omega⟩, ⟨by omega, by omega⟩, fun v20 e20 => ?_⟩⟩
    have b20 : v20 = 0 ∨ v20 = 1 := by rw [e20]; split <;> omega
    refine ⟨fun _ => s107 rt v20 M1 hrt b20 hI, fun _ => ⟨gk 2 (by decide) (by decide), ⟨by omega, by omega⟩, fun v32 e32 => ⟨hfw.1.1, ?_⟩⟩⟩
    have b32 : 0 ≤ v32 ∧ v32 < 1073741824 := by rw [e32]; split <;> omega
    refine (f_Fr_put0 (d := d + 4) b32 o hF hfw hSK.z9).mono (fun M38 q => ?_)
    obtain ⟨n1, p1, p3, p2⟩ := q
    have x38 : NX L W (Tat s) (Cat s) False (s + 1) M1 M38 := (n1.nx hF).mono hF (fun _ z => Or.inr z) hS.tat (fun _ z => Or.inl z) (hS.cat hcn) (fun z => z)
    have I1 := at_mk h0 hcn hr (hN.trans x38)
    have F1 := n1.nf
    have ow : Osz M38 (s + 130) 139 := ⟨F1.szv hfw.2.1 (by rw [p1]; exact Int.lt_of_lt_of_le b32.2 (by rw [show (1073741824 : Int) = 2 ^ (30 * 1) by decide]; exact p30m (by decide))), F1.szv hfw.2.2 (by rw [p3]; exact Int.lt_of_lt_of_le (show (1 : Int) < 2 ^ (30 * 1) by decide) (p30m (by decide))), by rw [p2]; decide, by rw [p2]; decide⟩
    obtain ⟨w1, w2, w3⟩ := s_atOrder (G := G) (d := d) (Q := fun x44 M43 => ∀ v47 : Int, v47 = (if (x44 = 0) then 1 else 0) → h_So_attain_107 G (d + 5) s a (andI rt v47) i (mR M R i) v20 M43 (fun x M' => (x = 0 ∨ x = 1) ∧ atI L W s g a R k cn cc bc M M')) h0 hcn hr I1 ow hi hW b1 (fun x44 M43 xx I2 v47 e47 => s107 _ _ M43 (and01 hrt (by rw [e47]; split <;> omega)) b20 I2)
    exact ⟨n1.ok, w1, w2, w3⟩
end NBW
end
section
/-! The class's Solver: ranks and choices; whether told values hold. -/
section NBX
variable {G : mG} {d s g a R cn cc bc i k n c un x y fd B : Nat} {M M0 M' M1 M2 M3 : mM} {L : List Nat} {W : Nat → Nat}
/-- the choices stand among the commands -/
def Chs (M : mM) (s g n : Nat) : Prop := ∀ k, k < n → ∀ x y : Nat, mI M (g + 4) k = ((x : Nat) : Int) → mI M (g + 4) (k + 1) = ((y : Nat) : Int) → (x = y ∧ mI M (s + 30) k = -1) ∨ (x ≠ y ∧ 0 ≤ mI M (s + 30) k ∧ mI M (s + 30) k < ((y : Nat) : Int) - ((x : Nat) : Int))
/-- what the Solver leaves, its rows as they were -/
def svQ (L : List Nat) (W : Nat → Nat) (s g a R k cn cc bc : Nat) (M0 M : mM) : Prop := NX L W (Tso s M0 R cn) (Cso s M0 R cn) True (s + 1) M0 M ∧ Sva L W s g a R k cn cc bc M ∧ mR M R = mR M0 R ∧ (Rsm M R cn 17 ∧ Rt1 M R cn) ∧ ∀ i, i ≤ 9 → mI M (g + i) = mI M0 (g + i)
theorem atI.sv (hI : atI L W s g a R k cn cc bc M0 M) (h : Sva L W s g a R k cn cc bc M0) (hcn : cn ≤ k) : svQ L W s g a R k cn cc bc M0 M := by
  obtain ⟨q, h1, h2, -, h4, h5⟩ := hI
  exact ⟨q.mono h.2.1.1 (fun _ u => u.elim Or.inl (fun u => Or.inr (Or.inr (Or.inl u)))) (h.tl hcn) (fun x u => u.so) (h.cl hcn) (fun u => u.elim), h1, h2, h4, h5⟩
/-- a table of the Solver's is written -/
theorem svQ.fi {S : Nat → Prop} (hI : svQ L W s g a R k cn cc bc M0 M) (h : Sva L W s g a R k cn cc bc M0) (hcn : cn ≤ k) (f : FI S M M') (o : mOk M') (hS : ∀ x, S x → Stb s x) : svQ L W s g a R k cn cc bc M0 M' := by
  obtain ⟨q, h1, h2, ⟨h4, h4'⟩, h5⟩ := hI
  have hF := h1.2.1.1
  obtain ⟨x, v⟩ := f.nx (T := Tso s M R cn) (r := False) (z := s + 1) o hF (h1.tl hcn) (fun x u => h1.2.2.1 x (hS x u)) h1.z9
  have x' : NX L W (Tso s M R cn) (Cso s M R cn) False (s + 1) M M' := x.mono hF (fun _ u => u) (h1.tl hcn) (fun x u => Or.inr (Or.inl (hS x u))) (h1.cl hcn) (fun u => u)
  obtain ⟨e1, e2, e3⟩ := h1.nx hcn x' (x.sk hF h1.2.1.2.1)
  have x2 : NX L W (Tso s M0 R cn) (Cso s M0 R cn) True (s + 1) M M' := by
    have e : Tso s M R cn = Tso s M0 R cn := by
      funext z
      unfold Tso Trw
      rw [h2]
    have e' : Cso s M R cn = Cso s M0 R cn := by
      funext z
      unfold Cso Irw
      rw [h2]
    rw [e, e'] at x'
    exact x'.mono hF (fun _ u => u) q.2.1.1 (fun _ u => u) x'.2.1.2.1 (fun u => u.elim)
  have rows : ∀ i, i < cn → FrL L M (mR M R i) := fun i hi => h1.2.2.2.2.1.2.2.2.2.2 i (by omega)
  refine ⟨q.trans x2, e1, by rw [e3, h2], ⟨fun i hi => ?_, fun i hi => ?_⟩, fun i hi => by rw [e2 i hi, h5 i hi]⟩
  · rw [e3, v _ (rows i hi).2.1, v _ (rows i hi).2.2]; exact h4 i hi
  · rw [e3, f.2.2.2.2.2.2 _ (fun u => by
      have := hS _ u
      have hb := h1.2.2.2.2.2.1 i (by omega)
      unfold Stb at this
      omega)]
    exact h4' i hi
theorem s_rc119 {Q : mM → Prop} {b4 : Int} (h4 : b4 = 0 ∨ b4 = 1) (h0 : Sva L W s g a R k cn cc bc M0) (hcn : cn ≤ k) (hi : i < cn) (ex : mI M0 (g + 4) i = ((x : Nat) : Int)) (ey : mI M0 (g + 4) (i + 1) = ((y : Nat) : Int)) (xy : x ≤ y ∧ y ≤ cc)
    (hQ : ∀ M', svQ L W s g a R k cn cc bc M0 M' → Chs M' s g (i + 1) → h_So_rankAndChoose_17 G d s ((i : Int) + 1) M' Q) : ∀ (t c : Nat) (fo : Int) (M : mM), y ≤ c + t → x ≤ c → c ≤ y → (fo = 0 ∨ fo = 1) → svQ L W s g a R k cn cc bc M0 M → Chs M s g (i + 1) → h_So_rankAndChoose_119 G d s i x b4 fo c M Q := by
  obtain ⟨hc1, hc2, hc3⟩ := h0.1.2.2.2.2.1
  intro t
  induction t with
  | zero =>
    intro c fo M h1 h2 h3 hf hI hC
    obtain ⟨-, ⟨⟨o, ⟨⟨s0, -⟩, ⟨-, -, -, r3, -⟩, -⟩, ⟨g0, ⟨-, q4, -⟩, gk, ⟨-, m4, -⟩⟩, -, -⟩, -⟩, -, -, gi⟩ := id hI
    refine k_So_rankAndChoose_119 o ⟨by omega, by omega⟩ ⟨by omega, by omega⟩ (m_b32 h4) (m_b32 hf) ⟨by omega, by omega⟩ ?_
    rw [r3, q4, m4, show Int.toNat ((i : Int) + 1) = i + 1 by first | rfl | omega, gi 4 (by decide), ey]
    exact ⟨s0, g0, gk 4 (by decide) (by decide), ⟨by omega, by omega⟩, fun _ => hQ M hI hC, fun u => absurd (Or.inl (by omega)) u⟩
  | succ t ih =>
    intro c fo M h1 h2 h3 hf hI hC
    obtain ⟨-, hS, -, -, gi⟩ := id hI
    obtain ⟨⟨o, ⟨⟨s0, -⟩, ⟨-, r1, r2, r3, -, -, -, -, -, -, r11, -⟩, ⟨k1, k2, -, -, -, -, -, k11, -⟩, ⟨n1, n2, -, -, -, -, -, n11, -⟩⟩, ⟨g0, ⟨-, q4, -⟩, gk, ⟨-, m4, -⟩⟩, -, -⟩, -⟩ := id hS
    have e1 := gi 4 (by decide)
    refine k_So_rankAndChoose_119 o ⟨by omega, by omega⟩ ⟨by omega, by omega⟩ (m_b32 h4) (m_b32 hf) ⟨by omega, by omega⟩ ?_
    rw [r3, q4, m4, show Int.toNat ((i : Int) + 1) = i + 1 by first | rfl | omega, e1, ey, r11, n11, r1, n1, Int.toNat_natCast, Int.toNat_natCast]
    refine ⟨s0, g0, gk 4 (by decide) (by decide), ⟨by omega, by omega⟩, fun _ => hQ M hI hC, fun u => ?_⟩
    have cy : c < y := by
      by_cases cc' : ((y : Nat) : Int) ≤ c
      · exact absurd (Or.inl cc') u
      · omega
    have s179 : ∀ (k0 : Int), (k0 = 0 ∨ k0 = 1) → h_So_rankAndChoose_179 G d s i x b4 c k0 M Q := fun k0 hk0 => by
      refine k_So_rankAndChoose_179 o ⟨by omega, by omega⟩ ⟨by omega, by omega⟩ (m_b32 h4) ⟨by omega, by omega⟩ (m_b32 hk0) ?_
      rw [r2, n2, Int.toNat_natCast, show ((c : Int) + 1) = ((c + 1 : Nat) : Int) by first | rfl | omega]
      refine ⟨s0, k2, ⟨by omega, by omega⟩, ⟨by omega, by omega⟩, fun M91 e91 => ?_⟩
      have f91 : FI (fun z => z = s + 30) M M91 := by rw [e91]; exact FI.ui rfl
      have o91 : mOk M91 := by rw [e91]; exact mOk_UI o ⟨by omega, by omega⟩
      have I2 := hI.fi h0 hcn f91 o91 (fun z u => by rw [u]; exact Or.inr (Or.inr (Or.inl rfl)))
      refine ih (c + 1) k0 M91 (by omega) (by omega) (by omega) hk0 I2 (fun j hj x' y' f1 f2 => ?_)
      rw [I2.2.2.2.2 4 (by decide)] at f1 f2
      rw [mI_ui _ j e91]
      by_cases cj : j = i
      · rw [if_pos ⟨rfl, cj⟩]
        rw [cj] at f1 f2
        exact Or.inr ⟨by omega, by omega, by omega⟩
      · rw [if_neg (fun u => cj u.2)]
        exact hC j hj x' y' (by rw [e1]; exact f1) (by rw [e1]; exact f2)
    refine ⟨k11, ⟨by omega, by omega⟩, fun _ => s179 0 (Or.inl rfl), fun _ => ⟨fun _ => s179 1 (Or.inr rfl), fun _ => ⟨k1, ⟨by omega, by omega⟩, (s_So_leadsBelow (d := d) (o _ _).1 hS.1 ⟨k1, n1⟩ (show c < cc by omega)).mono (fun x81 M80 q => ?_)⟩⟩⟩
    rw [q.1]
    exact ⟨m_b32 q.2, o, fun _ => s179 0 (Or.inl rfl), fun _ => s179 1 (Or.inr rfl)⟩
theorem s_So_rankAndChoose (h0 : Sva L W s g a R k cn cc bc M) (hcn : cn ≤ k) (hk : k ≤ 512) (hr : Rsm M R cn 17 ∧ Rt1 M R cn) (hW : ∀ x, Tat s x → B ≤ W x) (b1 : 300 ≤ B) (hB : B ≤ 16000) : Cv G y_So_rankAndChoose (d + 7) [vr s, vr a] M (fun M' => svQ L W s g a R k cn cc bc M M' ∧ Chs M' s g cn) := by
  obtain ⟨hc1, hc2, hc3⟩ := h0.1.2.2.2.2.1
  refine k_So_rankAndChoose h0.1.1 ⟨h0.1.2.1.1.1, (s_So_attain (d := d) h0 hcn hk hr hW b1 hB).mono (fun x3 M2 q => ?_)⟩
  obtain ⟨x01, hI2⟩ := q
  have V2 := hI2.sv h0 hcn
  have S2 := hI2.2.1
  have r1 : mR M2 s 1 = s + 29 := S2.1.2.1.2.1.2.1
  rw [r1]
  refine ⟨m_b32 x01, S2.1.1, S2.1.2.1.1.1, (s_So_fillRanks (d := d + 3) S2 hcn hk (Or.inl rfl)).mono (fun M6 q => ?_)⟩
  obtain ⟨o6, f6, S6⟩ := q
  have V6 := V2.fi h0 hcn f6 o6 (fun z u => by rw [u]; exact Or.inr (Or.inl rfl))
  refine ⟨o6, ?_⟩
  suffices HH : ∀ (t i : Nat) (M1 : mM), cn ≤ i + t → i ≤ cn → svQ L W s g a R k cn cc bc M M1 → Chs M1 s g i → h_So_rankAndChoose_17 G (d + 6) s i M1 (fun M' => svQ L W s g a R k cn cc bc M M' ∧ Chs M' s g cn) from HH cn 0 M6 (by omega) (by omega) V6 (fun j hj => absurd hj (by omega))
  intro t
  induction t with
  | zero =>
    intro i M1 h1 h2 hI hC
    have ei : i = cn := by omega
    subst ei
    obtain ⟨-, ⟨⟨o, ⟨⟨s0, -⟩, ⟨-, -, -, r3, -⟩, -⟩, ⟨g0, -⟩, -, hT⟩, -⟩, -⟩ := id hI
    refine k_So_rankAndChoose_17 o ⟨by omega, by omega⟩ ?_
    rw [r3, hT.2.2.2]
    exact ⟨s0, g0, fun _ => ⟨hI, hC⟩, fun u => absurd (by omega) u⟩
  | succ t ih =>
    intro i M1 h1 h2 hI hC
    by_cases ei : i = cn
    · exact ih i M1 (by omega) h2 hI hC
    have hi : i < cn := by omega
    obtain ⟨-, hS, -, -, gi⟩ := id hI
    obtain ⟨⟨o, ⟨⟨s0, -⟩, ⟨-, r1, r2, r3, -⟩, ⟨k1, k2, -⟩, ⟨n1, n2, -⟩⟩, ⟨g0, ⟨q2, q4, -⟩, gk, ⟨m2, m4, -⟩⟩, -, hT⟩, -⟩ := id hS
    obtain ⟨x, y, x1, y1, xy, yc⟩ := hT.2.2.1 i hi
    have e4 := gi 4 (by decide)
    have x1' : mI M (g + 4) i = ((x : Nat) : Int) := by rw [← e4]; exact x1
    have y1' : mI M (g + 4) (i + 1) = ((y : Nat) : Int) := by rw [← e4]; exact y1
    refine k_So_rankAndChoose_17 o ⟨by omega, by omega⟩ ?_
    rw [r3, hT.2.2.2, q4, m4, r2, n2, Int.toNat_natCast, show Int.toNat ((i : Int) + 1) = i + 1 by first | rfl | omega, x1, y1]
    refine ⟨s0, g0, fun u => absurd u (by omega), fun _ => ⟨gk 4 (by decide) (by decide), ⟨by omega, by omega⟩, ⟨by omega, by omega⟩, fun v20 e20 => ⟨k2, ⟨by omega, by omega⟩, fun M26 e26 => ?_⟩⟩⟩
    have i20 : i32 v20 := by rw [e20]; split <;> exact ⟨by decide, by decide⟩
    have f26 : FI (fun z => z = s + 30) M1 M26 := by rw [e26]; exact FI.ui rfl
    have o26 : mOk M26 := by rw [e26]; exact mOk_UI o i20
    have I26 := hI.fi h0 hcn f26 o26 (fun z u => by rw [u]; exact Or.inr (Or.inr (Or.inl rfl)))
    rw [f26.1, f26.2.1, f26.2.2.1, r3, q2, m2, r2, n2, r1, n1]
    refine ⟨g0, gk 2 (by decide) (by decide), ⟨by omega, by omega⟩, fun v32 e32 => ⟨k2, ⟨by omega, by omega⟩, fun _ _ => ⟨k1, ⟨by omega, by omega⟩⟩, fun v44 e44 => ?_⟩⟩
    have b32 : v32 = 0 ∨ v32 = 1 := by rw [e32]; split <;> omega
    have b44 : v44 = 0 ∨ v44 = 1 := by rw [e44]; split <;> omega
    refine s_rc119 b32 h0 hcn hi x1' y1' ⟨xy, yc.1⟩ (fun M' hI' hC' => ?_) (y - x) x v44 M26 (by omega) (Nat.le_refl _) (by omega) b44 I26 (fun j hj x' y' f1 f2 => ?_)
    · rw [show ((i : Int) + 1) = ((i + 1 : Nat) : Int) by first | rfl | omega]
      exact ih (i + 1) M' (by omega) (by omega) hI' hC'
    · rw [I26.2.2.2.2 4 (by decide)] at f1 f2
      rw [mI_ui _ j e26]
      by_cases cj : j = i
      · rw [if_pos ⟨rfl, cj⟩]
        rw [cj] at f1 f2
        by_cases ce : x = y
        · rw [if_pos (by omega)] at e20
          exact Or.inl ⟨by omega, e20⟩
        · rw [if_neg (by omega)] at e20
          exact Or.inr ⟨by omega, by omega, by omega⟩
      · rw [if_neg (fun u => cj u.2)]
        exact hC j (by omega) x' y' (by rw [e4]; exact f1) (by rw [e4]; exact f2)
/-- whether values are what they must be -/
theorem s_So_holds (h0 : Sva L W s g a R k cn cc bc M) (hcn : cn ≤ k) (hk : k ≤ 512) (hr : Rsm M R cn 17 ∧ Rt1 M R cn) (hW : ∀ x, Tat s x → B ≤ W x) (b1 : 300 ≤ B) (hB : B ≤ 16000) : Ci G y_So_holds (d + 7) [vr s, vr a] M (fun x M' => (x = 0 ∨ x = 1) ∧ svQ L W s g a R k cn cc bc M M' ∧ mI M' (s + 30) = mI M (s + 30)) := by
  obtain ⟨hc1, hc2, hc3⟩ := h0.1.2.2.2.2.1
  refine k_So_holds h0.1.1 ⟨h0.1.2.1.1.1, (s_So_attain (d := d) h0 hcn hk hr hW b1 hB).mono (fun x3 M2 q => ?_)⟩
  obtain ⟨x01, hI2⟩ := q
  have V2 := hI2.sv h0 hcn
  have S2 := hI2.2.1
  have r12 : mR M2 s 16 = s + 129 := S2.1.2.1.2.1.2.2.2.2.2.2.2.2.2.2.2.1
  rw [r12]
  refine ⟨m_b32 x01, S2.1.1, S2.1.2.1.1.1, (s_So_fillRanks (d := d + 3) S2 hcn hk (Or.inr rfl)).mono (fun M6 q => ?_)⟩
  obtain ⟨o6, f6, S6⟩ := q
  have V6 := V2.fi h0 hcn f6 o6 (fun z u => by rw [u]; exact Or.inr (Or.inr (Or.inr (Or.inr (Or.inr (Or.inr (Or.inr (Or.inr (Or.inr rfl)))))))))
  refine ⟨o6, ?_⟩
  obtain ⟨⟨o, ⟨⟨s0, -⟩, ⟨-, r1, -, r3, -, -, -, -, -, -, -, r12', -⟩, ⟨k1, -, -, -, -, -, -, -, k12⟩, ⟨n1, -, -, -, -, -, -, -, n12⟩⟩, ⟨g0, -⟩, -, hT⟩, ⟨hF, -⟩, -, -, ⟨t1, t2, t3, t4, -, t7⟩, -, -⟩ := id V6.2.1
  have e30 : mI M6 (s + 30) = mI M (s + 30) := by rw [f6.2.2.2.2.2.2 (s + 30) (show ¬ s + 30 = s + 129 by first | rfl | omega), hI2.2.2.2.1 (s + 30) (Or.inr (Or.inr (Or.inl rfl))) (by omega)]
  suffices HH : ∀ (t i : Nat) (l2 : Int), cn ≤ i + t → i ≤ cn → (l2 = 0 ∨ l2 = 1) → h_So_holds_17 G (d + 6) s a l2 i M6 (fun x M' => (x = 0 ∨ x = 1) ∧ svQ L W s g a R k cn cc bc M M' ∧ mI M' (s + 30) = mI M (s + 30)) from HH cn 0 x3 (by omega) (by omega) x01
  intro t
  induction t with
  | zero =>
    intro i l2 h1 h2 hl
    refine k_So_holds_17 o (m_b32 hl) ⟨by omega, by omega⟩ ?_
    rw [r3, hT.2.2.2]
    exact ⟨s0, g0, fun _ => ⟨hl, hl, V6, e30⟩, fun u => absurd (by omega) u⟩
  | succ t ih =>
    intro i l2 h1 h2 hl
    by_cases ei : i = cn
    · exact ih i l2 (by omega) h2 hl
    have fr := t7 i (by omega)
    refine k_So_holds_17 o (m_b32 hl) ⟨by omega, by omega⟩ ?_
    rw [r3, hT.2.2.2, t2, t4, r12', n12, r1, n1, Int.toNat_natCast, fr.1.2.1.1, show ((i : Int) + 1) = ((i + 1 : Nat) : Int) by first | rfl | omega]
    refine ⟨s0, g0, fun u => absurd u (by omega), fun _ => ⟨t1, t3, ⟨by omega, by omega⟩, fr.1.1, hF.kd fr.2.1, fun _ => ⟨k12, ⟨by omega, by omega⟩⟩, fun v33 e33 => ⟨fun _ => ⟨k12, ⟨by omega, by omega⟩, k1, ⟨by omega, by omega⟩⟩, fun v44 e44 => ?_⟩⟩⟩
    exact ih (i + 1) _ (by omega) (by omega) (and01 hl (by rw [e44]; split <;> omega))
end NBX
end
section
/-! The class's Solver: small steps and growth keep it. -/
section NBY
variable {G : mG} {d s g a R R' cn cc bc i k k' n c un x y B : Nat} {M M0 M' M1 M2 M3 : mM} {L L' : List Nat} {W : Nat → Nat} {S : Nat → Prop}
theorem Oc.fi (h : Oc L M x) (f : FI S M M') : Oc L M' x := ⟨by rw [f.2.2.2.2.1]; exact h.1, h.2.1, fun a ha u => h.2.2 a ha (by rw [← f.2.2.1]; exact u)⟩
theorem FrL.fi (h : FrL L M x) (f : FI S M M') : FrL L M' x := by
  obtain ⟨⟨h1, h2, h3⟩, h4⟩ := h
  exact ⟨⟨by rw [f.1]; exact h1, by rw [f.2.2.1]; exact h2, by rw [f.2.2.2.2.1]; exact h3⟩, h4⟩
/-- tables and the mark of a table of fractions -/
def Sta (s a x : Nat) : Prop := x = a ∨ Stb s x
theorem Sva.sta (h : Sva L W s g a R k cn cc bc M) : ∀ x, Sta s a x → Oc L M x := fun x u => u.elim (fun u => by rw [u]; exact h.2.2.2.2.1.2.2.2.2.1.1) (h.2.2.1 x)
theorem Sva.gst (h : Sva L W s g a R k cn cc bc M) (hi : i ≤ 9) : ¬ Sta s a (g + i) := by
  have gs := h.1.2.1.1.2
  have ka := h.2.2.2.2.1.1
  intro u
  rcases u with u | u
  · have := h.1.2.2.1.kd hi
    by_cases e : i = 0
    · have g0 := h.1.2.2.1.1
      rw [e, Nat.add_zero] at u
      rw [u, ka] at g0
      omega
    · have g0 := h.1.2.2.1.2.2.1 i (by omega) hi
      rw [u, ka] at g0
      omega
  · unfold Stb at u
    omega
/-- ints of the Solver's own tables change -/
theorem Sva.fi (h : Sva L W s g a R k cn cc bc M) (f : FI (Sta s a) M M') (o : mOk M') : Sva L W s g a R k cn cc bc M' ∧ (∀ b, b ∈ L → nv M' b = nv M b) ∧ ∀ i, i < k → mI M' (mR M R i) = mI M (mR M R i) := by
  have gst : ∀ i, i ≤ 9 → ¬ Sta s a (g + i) := fun i hi => h.gst hi
  have sta := h.sta
  obtain ⟨hg, ⟨hF, hSK, hRs, hfw⟩, hSt, hgo, ⟨t1, t2, t3, t4, ⟨t5, t6⟩, t7⟩, hrow, hD⟩ := id h
  obtain ⟨xx, v⟩ := f.nx (T := Tat s) (r := False) (z := s + 1) o hF h.tat sta h.z9
  refine ⟨⟨hg.fi f o gst, ⟨xx.nf, xx.sk hF hSK, ?_, hfw.fi f⟩, fun x hx => (hSt x hx).fi f, fun i hi => (hgo i hi).fi f, ⟨by rw [f.1]; exact t1, by rw [f.2.2.1]; exact t2, by rw [f.1]; exact t3, by rw [f.2.1]; exact t4, ⟨t5.fi f, t6.fi f⟩, fun i hi => by rw [f.2.2.1]; exact (t7 i hi).fi f⟩, fun i hi => by rw [f.2.2.1]; exact hrow i hi, fun i j hi hj ij => by rw [f.2.2.1]; exact hD i j hi hj ij⟩, v, fun i hi => ?_⟩
  · obtain ⟨r1, r2, r3, r4⟩ := hRs
    exact ⟨r1.fi f, fun i hi => (r2 i hi).fi f, fun i hi => by rw [f.2.2.1]; exact r3 i hi, r4⟩
  · refine f.2.2.2.2.2.2 _ (fun u => ?_)
    have k11 := (t7 i hi).1.1
    have hb := hrow i hi
    rcases u with u | u
    · rw [u, t1] at k11; omega
    · unfold Stb at u; omega
/-- the table grows -/
theorem Sva.gw (h : Sva L W s g a R k cn cc bc M) (hg : Gw L W a M L' M') (hT : Te L' W (s + 1) g a R' k' M') (hrow : ∀ i, i < k' → s + 134 < mR M' R' i) : Sva L' W s g a R' k' cn cc bc M' ∧ (∀ x, Stb s x → mI M' x = mI M x) ∧ ∀ i, i ≤ 9 → mI M' (g + i) = mI M (g + i) := by
  obtain ⟨⟨o, ⟨s0, sr, sk, sn⟩, hG, ⟨g3, n3⟩, hGT⟩, ⟨hF, hSK, hRs, hfw⟩, hSt, hgo, ⟨t1, -⟩, -, -⟩ := id h
  have gg := hg
  obtain ⟨o', ⟨-, hF'⟩, l1, l2, f, na, ka⟩ := hg
  obtain ⟨-, ⟨hG', hgo'⟩, hRT, -, hD'⟩ := id hT
  have gi := (gg.gk ⟨hG, hgo⟩).2
  have ns : ∀ x, mK M x ≠ 13 → x ≠ a := fun x hx e => hx (by rw [e]; exact ka)
  obtain ⟨k1, k2, k3, k4, k5, k6, k7, k8, k9⟩ := id sk
  have os : ∀ x, Stb s x → mK M' x = mK M x ∧ mN M' x = mN M x ∧ (x ≠ a → mR M' x = mR M x) ∧ mI M' x = mI M x := fun x hx => by
    obtain ⟨a1, a2, a3, a4, a5⟩ := f.2 x (hSt x hx).1
    exact ⟨a1, a2, a4, a5 (fun u => u)⟩
  have e0 := os s (Or.inl rfl)
  have e29 := os (s + 29) (Or.inr (Or.inl rfl))
  have e30 := os (s + 30) (Or.inr (Or.inr (Or.inl rfl)))
  have e122 := os (s + 122) (Or.inr (Or.inr (Or.inr (Or.inl rfl))))
  have e123 := os (s + 123) (Or.inr (Or.inr (Or.inr (Or.inr (Or.inl rfl)))))
  have e124 := os (s + 124) (Or.inr (Or.inr (Or.inr (Or.inr (Or.inr (Or.inl rfl))))))
  have e125 := os (s + 125) (Or.inr (Or.inr (Or.inr (Or.inr (Or.inr (Or.inr (Or.inl rfl)))))))
  have e126 := os (s + 126) (Or.inr (Or.inr (Or.inr (Or.inr (Or.inr (Or.inr (Or.inr (Or.inl rfl))))))))
  have e128 := os (s + 128) (Or.inr (Or.inr (Or.inr (Or.inr (Or.inr (Or.inr (Or.inr (Or.inr (Or.inl rfl)))))))))
  have e129 := os (s + 129) (Or.inr (Or.inr (Or.inr (Or.inr (Or.inr (Or.inr (Or.inr (Or.inr (Or.inr rfl)))))))))
  have sa : s ≠ a := ns s (by rw [s0.1]; decide)
  have ga : g ≠ a := ns g (by rw [hG.1]; decide)
  have g0z := (hgo 0 (by decide)).1
  rw [Nat.add_zero] at g0z
  have gR : mR M' g = mR M g := (f.2 g g0z).2.2.2.1 ga
  have n3' : mN M' (g + 3) = mN M (g + 3) := (f.2 _ (hgo 3 (by decide)).1).2.1
  refine ⟨⟨⟨o', ⟨⟨by rw [e0.1]; exact s0.1, s0.2⟩, by rw [e0.2.2.1 sa]; exact sr, by rw [e29.1, e30.1, e122.1, e123.1, e124.1, e125.1, e126.1, e128.1, e129.1]; exact sk, by rw [e29.2.1, e30.2.1, e122.2.1, e123.2.1, e124.2.1, e125.2.1, e126.2.1, e128.2.1, e129.2.1]; exact sn⟩, hG', ⟨by rw [gR]; exact g3, by rw [n3']; exact n3⟩, hGT.same gi⟩, ⟨hF', gg.sk hSK, ?_, (gg.frl hfw).1⟩, fun x hx => gg.oc (hSt x hx), hgo', hRT, hrow, hD'⟩, fun x hx => (os x hx).2.2.2, gi⟩
  obtain ⟨⟨c0, c1, c2, c3⟩, c4, c5, c6⟩ := hRs
  have oe : ∀ i, i ≤ 6 → mK M' (s + 31 + i) = mK M (s + 31 + i) ∧ mN M' (s + 31 + i) = mN M (s + 31 + i) ∧ (s + 31 + i ≠ a → mR M' (s + 31 + i) = mR M (s + 31 + i)) := fun i hi => by
    obtain ⟨a1, a2, a3, a4, a5⟩ := f.2 _ (c4 i hi).1
    exact ⟨a1, a2, a4⟩
  have r0 := oe 0 (by decide)
  rw [Nat.add_zero] at r0
  exact ⟨⟨by rw [r0.1]; exact c0, by rw [r0.2.2 (ns _ (by rw [c0]; decide))]; exact c1, by rw [(oe 1 (by decide)).1, (oe 2 (by decide)).1, (oe 3 (by decide)).1, (oe 4 (by decide)).1, (oe 5 (by decide)).1, (oe 6 (by decide)).1]; exact c2, by rw [(oe 1 (by decide)).2.1, (oe 2 (by decide)).2.1, (oe 3 (by decide)).2.1, (oe 4 (by decide)).2.1, (oe 5 (by decide)).2.1, (oe 6 (by decide)).2.1]; exact c3⟩, fun i hi => gg.oc (c4 i hi), fun i hi => by rw [(oe 2 (by decide)).2.2 (ns _ (by rw [c2.2.1]; decide))]; exact ⟨(c5 i hi).1, l1 _ (c5 i hi).2⟩, l1 _ c6⟩
end NBY
end
section
/-! The class's Solver: commands that are not chosen, mixed. -/
section NBYA
variable {G : mG} {d s g a R cn cc bc i k n c un x y B O j : Nat} {M M0 M' M1 M2 M3 : mM} {L L' : List Nat} {W : Nat → Nat} {S S' T C : Nat → Prop} {r : Prop}
/-- ints of cells of S change, and the Solver's own long -/
def Fxo (S : Nat → Prop) (s : Nat) (M M' : mM) : Prop := mK M' = mK M ∧ mN M' = mN M ∧ mR M' = mR M ∧ (∀ x, x ≠ s → mL M' x = mL M x) ∧ mZ M' = mZ M ∧ mS M' = mS M ∧ ∀ x, ¬ S x → mI M' x = mI M x
theorem Fxo.refl : Fxo S s M M := ⟨rfl, rfl, rfl, fun _ _ => rfl, rfl, rfl, fun _ _ => rfl⟩
theorem Fxo.trans (h : Fxo S s M M1) (q : Fxo S s M1 M2) : Fxo S s M M2 := ⟨q.1.trans h.1, q.2.1.trans h.2.1, q.2.2.1.trans h.2.2.1, fun x hx => (q.2.2.2.1 x hx).trans (h.2.2.2.1 x hx), q.2.2.2.2.1.trans h.2.2.2.2.1, q.2.2.2.2.2.1.trans h.2.2.2.2.2.1, fun x hx => (q.2.2.2.2.2.2 x hx).trans (h.2.2.2.2.2.2 x hx)⟩
theorem Fxo.mono (h : Fxo S s M M1) (hs : ∀ x, S x → S' x) : Fxo S' s M M1 := ⟨h.1, h.2.1, h.2.2.1, h.2.2.2.1, h.2.2.2.2.1, h.2.2.2.2.2.1, fun x hx => h.2.2.2.2.2.2 x (fun u => hx (hs x u))⟩
theorem FI.fo (f : FI S M M1) : Fxo S s M M1 := ⟨f.1, f.2.1, f.2.2.1, fun x _ => by rw [f.2.2.2.1], f.2.2.2.2.1, f.2.2.2.2.2.1, f.2.2.2.2.2.2⟩
theorem Fxo.ul {v : Int} (e : M1 = mUL M s j v) : Fxo S s M M1 := by
  subst e
  refine ⟨rfl, rfl, rfl, fun x hx => ?_, rfl, rfl, fun _ _ => rfl⟩
  funext k
  rw [mL_UL, if_neg (fun u => hx u.1)]
/-- the same memory with the old longs -/
def noG (M M' : mM) : mM := (mK M', mN M', mI M', mL M, mR M', mZ M', mS M')
theorem Fxo.fi (f : Fxo S s M M') : FI S M (noG M M') := ⟨f.1, f.2.1, f.2.2.1, rfl, f.2.2.2.2.1, f.2.2.2.2.2.1, f.2.2.2.2.2.2⟩
theorem noG_ok (o : mOk M) (o' : mOk M') : mOk (noG M M') := fun b k => ⟨(o' b k).1, (o b k).2⟩
/-- as numbers' steps -/
theorem Fxo.nx (f : Fxo C s M M') (o : mOk M) (o' : mOk M') (hF : NF L W M) (hT : ∀ t, T t → t ∈ L) (hC : ∀ x, C x → Oc L M x) (hz : s + 1 < mZ M ∧ mK M (s + 1) = 9) : NX L W T C r (s + 1) M M' ∧ ∀ a, a ∈ L → nv M' a = nv M a := by
  obtain ⟨⟨⟨-, q1⟩, q2, q3, q4, q5⟩, v⟩ := f.fi.nx (T := T) (r := r) (noG_ok o o') hF hT hC hz
  refine ⟨⟨⟨o', q1⟩, q2, ⟨q3.1, fun x hx => ?_⟩, q4, q5⟩, v⟩
  obtain ⟨a1, a2, -, a4, a5⟩ := q3.2 x hx
  exact ⟨a1, a2, fun u => f.2.2.2.1 x (fun e => u (Or.inr (by omega))), a4, a5⟩
/-- an unsigned shift by 33 -/
theorem ush33 {x : Int} : 0 ≤ ushrL x 33 := by
  unfold ushrL
  have e : ((Int32.ofInt 33).toInt64.toUInt64 &&& Int64.toUInt64 63) = (33 : UInt64) := by decide +kernel
  rw [e]
  generalize (Int64.ofInt x).toUInt64 = w
  have h1 : (w >>> 33).toNat < 2 ^ 31 := by
    rw [UInt64.toNat_shiftRight]
    have h2 : w.toNat < 2 ^ 64 := w.toNat_lt
    have e3 : (33 : UInt64).toNat % 64 = 33 := by decide
    rw [e3, Nat.shiftRight_eq_div_pow]
    exact Nat.div_lt_of_lt_mul (by omega)
  have h4 : (w >>> 33).toInt64.toInt = ((w >>> 33).toNat : Int) := by
    show (w >>> 33).toInt64.toBitVec.toInt = _
    have e5 : (w >>> 33).toInt64.toBitVec = (w >>> 33).toBitVec := rfl
    rw [e5, BitVec.toInt_eq_toNat_of_lt]
    · rfl
    · show 2 * (w >>> 33).toNat < 2 ^ 64
      omega
  rw [h4]
  omega
/-- the commands that are not chosen are mixed: nothing but their places and the draw changes -/
def mxQ (s O n : Nat) (M M' : mM) : Prop := mOk M' ∧ Fxo (fun x => x = O) s M M' ∧ ∀ P : Int → Prop, (∀ j, j < n → P (mI M O j)) → ∀ j, j < n → P (mI M' O j)
theorem s_So_mix {l1 l2 : Nat} (o : mOk M) (hs : mK M s = 8) (hr : mR M s 11 = O) (hK : mK M O = 30) (hn : mN M O = 2400) (h2 : l2 ≤ n) (hn2 : n ≤ 2400) (h1 : l1 ≤ 2400) : Cv G y_So_mix d [vr s, vi l1, vi l2] M (mxQ s O n M) := by
  refine k_So_mix o ⟨by omega, by omega⟩ ⟨by omega, by omega⟩ ?_
  suffices H : ∀ (t : Nat) (l3 : Int) (M1 : mM), l3 ≤ l1 + t → l3 < n → -1 ≤ l3 → mxQ s O n M M1 → h_So_mix_4 G d s l1 l3 M1 (mxQ s O n M) from H 2400 ((l2 : Int) - 1) M (by omega) (by omega) (by omega) ⟨o, Fxo.refl, fun _ u => u⟩
  intro t
  induction t with
  | zero =>
    intro l3 M1 a1 a2 a3 hI
    exact k_So_mix_4 hI.1 ⟨by omega, by omega⟩ ⟨by omega, by omega⟩ ⟨fun _ => hI, fun u => absurd (by omega) u⟩
  | succ t ih =>
    intro l3 M1 a1 a2 a3 hI
    refine k_So_mix_4 hI.1 ⟨by omega, by omega⟩ ⟨by omega, by omega⟩ ⟨fun _ => hI, fun u => ?_⟩
    obtain ⟨o1, f1, p1⟩ := hI
    have s1 : mK M1 s = 8 := by rw [f1.1]; exact hs
    refine ⟨s1, fun M4 e4 => ?_⟩
    have f4 : Fxo (fun x => x = O) s M1 M4 := Fxo.ul e4
    have o4 : mOk M4 := by rw [e4]; exact mOk_UL o1 i64_w64
    have i4 : mI M4 = mI M1 := by rw [e4]; rfl
    have hlt := ush33 (x := mL M4 s 14)
    obtain ⟨q, eq⟩ : ∃ q : Nat, ((q : Nat) : Int) = Int.tmod (ushrL (mL M4 s 14) 33) ((l3 - l1) + 1) ∧ (q : Int) < (l3 - l1) + 1 := by
      have b1 := Int.tmod_nonneg ((l3 - l1) + 1) hlt
      have b2 := Int.tmod_lt_of_pos (ushrL (mL M4 s 14) 33) (show 0 < (l3 - l1) + 1 by omega)
      exact ⟨(Int.tmod (ushrL (mL M4 s 14) 33) ((l3 - l1) + 1)).toNat, by omega, by omega⟩
    rw [← eq.1, f4.2.2.1, f1.2.2.1, hr, f4.1, f1.1, f4.2.1, f1.2.1, hn, i4]
    obtain ⟨m, em⟩ : ∃ m : Nat, l3 = ((m : Nat) : Int) := ⟨l3.toNat, by omega⟩
    subst em
    have eq2 := eq.2
    clear eq hlt
    have e5 : Int.toNat (((l1 : Nat) : Int) + ((q : Nat) : Int)) = l1 + q := by omega
    rw [e5, Int.toNat_natCast]
    refine ⟨⟨by omega, by omega⟩, by omega, hK, ⟨by omega, by omega⟩, ⟨by omega, by omega⟩, ⟨by omega, by omega⟩, fun M12 e12 => ?_⟩
    have f12 : FI (fun x => x = O) M4 M12 := by rw [e12]; exact FI.ui rfl
    have o12 : mOk M12 := by rw [e12]; exact mOk_UI o4 (o1 O (l1 + q)).1
    rw [f12.1, f12.2.1, f12.2.2.1, f4.2.2.1, f1.2.2.1, hr, f4.1, f1.1, f4.2.1, f1.2.1, hn]
    refine ⟨hK, ⟨by omega, by omega⟩, fun M16 e16 => ?_⟩
    have f16 : FI (fun x => x = O) M12 M16 := by rw [e16]; exact FI.ui rfl
    have o16 : mOk M16 := by rw [e16]; exact mOk_UI o12 (o1 O m).1
    rw [show ((m : Nat) : Int) + (-1) = ((m : Nat) : Int) - 1 by first | rfl | omega]
    refine ih _ M16 (by omega) (by omega) (by omega) ⟨o16, f1.trans (f4.trans ((f12.trans f16).fo)), fun P hP j hj => ?_⟩
    have p2 := p1 P hP
    rw [mI_ui O j e16, mI_ui O j e12, i4]
    split
    · exact p2 m (by omega)
    · split
      · exact p2 (l1 + q) (by omega)
      · exact p2 j hj
end NBYA
end
section
/-! The class's Solver: cells that stay the same; the place of the list of other commands. -/
section NBYB
variable {G : mG} {d t g s b e f i j a n cn cc bc z w x Y Cy R k O : Nat} {M M0 M' M1 : mM} {L L' : List Nat} {W : Nat → Nat} {T C S Z : Nat → Prop} {r : Prop}
/-- a cell is the same (but for longs) -/
def Sm (M M' : mM) (x : Nat) : Prop := mK M' x = mK M x ∧ mN M' x = mN M x ∧ mR M' x = mR M x ∧ mI M' x = mI M x
theorem Nt.sm (h : Nt M a Y Cy n) (ha : Sm M M' a) (hY : Sm M M' Y) (hz : mZ M ≤ mZ M') : Nt M' a Y Cy n := by
  obtain ⟨⟨l0, p0, kX, nX, e, ne, y1, y2⟩, g1, g2, g3, g4⟩ := h
  exact ⟨⟨by rw [ha.1]; exact l0, by rw [ha.2.2.1]; exact p0, by rw [hY.1]; exact kX, by rw [hY.2.1]; exact nX, e, ne, by omega, by omega⟩, by rw [ha.2.2.2]; exact g1, g2, fun j hj => by rw [hY.2.2.2]; exact g3 j hj, by rw [hY.2.2.2]; exact g4⟩
theorem NF.sm (h : NF L W M) (hs : ∀ a, a ∈ L → Sm M M' a ∧ Sm M M' (mR M a 0)) (hz : mZ M ≤ mZ M') : NF L W M' ∧ ∀ a, a ∈ L → nv M' a = nv M a ∧ cp M' a = cp M a ∧ mR M' a = mR M a := by
  have cc : ∀ a, a ∈ L → cp M' a = cp M a := fun a ha => by
    unfold cp
    rw [(hs a ha).1.2.2.1, (hs a ha).2.2.1]
  have nt' : ∀ a, a ∈ L → Nt M' a (mR M a 0) (cp M a) (sz M a) := fun a ha => (h.nt ha).sm (hs a ha).1 (hs a ha).2 hz
  refine ⟨⟨h.1, fun a ha => ⟨(nt' a ha).nn, by rw [cc a ha]; exact (h.2.1 a ha).2.1, (h.2.1 a ha).2.2⟩, fun a b ha hb u => h.2.2 a b ha hb (by rw [← (hs a ha).1.2.2.1, ← (hs b hb).1.2.2.1]; exact u)⟩, fun a ha => ⟨?_, cc a ha, (hs a ha).1.2.2.1⟩⟩
  rw [(nt' a ha).nv, (h.nt ha).nv, (hs a ha).2.2.2.2]
theorem Oc.sm (h : Oc L M x) (hr : ∀ a, a ∈ L → mR M' a = mR M a) (hz : mZ M ≤ mZ M') : Oc L M' x := ⟨Nat.lt_of_lt_of_le h.1 hz, h.2.1, fun a ha u => h.2.2 a ha (by rw [← hr a ha]; exact u)⟩
theorem FrP.sm (h : FrP M f) (hs : Sm M M' f) (hz : mZ M ≤ mZ M') : FrP M' f := ⟨by rw [hs.1]; exact h.1, by rw [hs.2.2.1]; exact h.2.1, Nat.lt_of_lt_of_le h.2.2 hz⟩
theorem FrL.sm (h : FrL L M f) (hs : Sm M M' f) (hz : mZ M ≤ mZ M') : FrL L M' f := ⟨h.1.sm hs hz, h.2⟩
theorem SK.sm (h : SK L M z) (h0 : Sm M M' z) (h13 : Sm M M' (z + 13)) (h18 : Sm M M' (z + 18)) (h23 : Sm M M' (z + 23)) (hz : mZ M ≤ mZ M') : SK L M' z := by
  obtain ⟨⟨k1, k2⟩, k3, k4, ⟨k5, k6, k7⟩, ⟨k8, k9⟩, k10, k11⟩ := h
  exact ⟨⟨by rw [h0.1]; exact k1, by omega⟩, by rw [h0.2.2.1]; exact k3, by rw [h0.2.2.1]; exact k4, ⟨by rw [h13.1]; exact k5, by rw [h13.2.1]; exact k6, by omega⟩, ⟨k8.sm h18 hz, k9.sm h23 hz⟩, k10, k11⟩
theorem RsK.sm (h : RsK L M e) (hs : ∀ i, i ≤ 6 → Sm M M' (e + i)) (hr : ∀ a, a ∈ L → mR M' a = mR M a) (hz : mZ M ≤ mZ M') : RsK L M' e := by
  obtain ⟨⟨c0, c1, c2, c3⟩, c4, c5, c6⟩ := h
  have s0 := hs 0 (by decide)
  rw [Nat.add_zero] at s0
  have s1 := hs 1 (by decide)
  have s2 := hs 2 (by decide)
  have s3 := hs 3 (by decide)
  have s4 := hs 4 (by decide)
  have s5 := hs 5 (by decide)
  have s6 := hs 6 (by decide)
  refine ⟨⟨by rw [s0.1]; exact c0, by rw [s0.2.2.1]; exact c1, by rw [s1.1, s2.1, s3.1, s4.1, s5.1, s6.1]; exact c2, by rw [s1.2.1, s2.2.1, s3.2.1, s4.2.1, s5.2.1, s6.2.1]; exact c3⟩, fun i hi => (c4 i hi).sm hr hz, fun i hi => by rw [s2.2.2.1]; exact c5 i hi, c6⟩
theorem st126 : Stb s (s + 126) := Or.inr (Or.inr (Or.inr (Or.inr (Or.inr (Or.inr (Or.inr (Or.inl rfl)))))))
theorem st124 : Stb s (s + 124) := Or.inr (Or.inr (Or.inr (Or.inr (Or.inr (Or.inl rfl)))))
theorem st30 : Stb s (s + 30) := Or.inr (Or.inr (Or.inl rfl))
/-- where the list of the other commands lies, and its length -/
def Ot (L : List Nat) (M : mM) (s O n : Nat) : Prop := (mR M s 11 = O ∧ mK M O = 30 ∧ mN M O = n) ∧ Oc L M O ∧ ((O = s + 127 ∧ n = 0) ∨ (s + 134 < O ∧ n = 2400))
theorem Ot.ne (h : Ot L M s O n) : O ≠ s + 1 ∧ O ≠ s := by
  have := h.2.2
  constructor <;> omega
theorem Ot.nx (h : Ot L M s O n) (q : NX L W T C r (s + 1) M M') (hF : NF L W M) (hs : Oc L M s) : Ot L M' s O n := by
  obtain ⟨n1, n2⟩ := h.ne
  obtain ⟨⟨h1, h2, h3⟩, h4, h5⟩ := h
  obtain ⟨a1, a2, -⟩ := q.oth h4 n1
  obtain ⟨-, -, b3, -⟩ := q.oth hs (by omega)
  exact ⟨⟨by rw [b3]; exact h1, by rw [a1]; exact h2, by rw [a2]; exact h3⟩, q.oc hF h4, h5⟩
theorem Ot.fi (h : Ot L M s O n) (f : FI S M M') : Ot L M' s O n := ⟨⟨by rw [f.2.2.1]; exact h.1.1, by rw [f.1]; exact h.1.2.1, by rw [f.2.1]; exact h.1.2.2⟩, h.2.1.fi f, h.2.2⟩
theorem Ot.gw (h : Ot L M s O n) (q : Gw L W a M L' M') (sa : s ≠ a) (hs : s < mZ M) : Ot L' M' s O n := by
  obtain ⟨⟨h1, h2, h3⟩, h4, h5⟩ := h
  have f := q.2.2.2.2.1
  have fs := f.2 s hs
  have fo := f.2 O h4.1
  exact ⟨⟨by rw [fs.2.2.2.1 sa]; exact h1, by rw [fo.1]; exact h2, by rw [fo.2.1]; exact h3⟩, q.oc h4, h5⟩
/-- a new list for the other commands -/
def Gro (s : Nat) (M M' : mM) : Prop := M' = mUR (mNew M 30 2400 2400) s 11 (mZ M)
theorem Gro.sm (h : Gro s M M') (hx : x < mZ M) (hs : x ≠ s) : Sm M M' x := by
  unfold Gro at h
  subst h
  have nz : ¬ x = mZ M := by omega
  refine ⟨if_neg nz, if_neg nz, ?_, ?_⟩
  · funext j
    show (if x = s ∧ j = 11 then mZ M else (if x = mZ M then 0 else mR M x j)) = mR M x j
    rw [if_neg (fun u => hs u.1), if_neg nz]
  · funext j
    show (if x = mZ M then 0 else mI M x j) = mI M x j
    exact if_neg nz
theorem Gro.own (h : Gro s M M') (hs : s < mZ M) : mK M' s = mK M s ∧ mN M' s = mN M s ∧ mI M' s = mI M s ∧ mR M' s 11 = mZ M ∧ ∀ j, j ≠ 11 → mR M' s j = mR M s j := by
  unfold Gro at h
  subst h
  have nz : ¬ s = mZ M := by omega
  refine ⟨if_neg nz, if_neg nz, ?_, if_pos ⟨rfl, rfl⟩, fun j hj => ?_⟩
  · funext j
    show (if s = mZ M then 0 else mI M s j) = mI M s j
    exact if_neg nz
  · show (if s = s ∧ j = 11 then mZ M else (if s = mZ M then 0 else mR M s j)) = mR M s j
    rw [if_neg (fun u => hj u.2), if_neg nz]
theorem Gro.lng (h : Gro s M M') (hx : x < mZ M) : mL M' x = mL M x := by
  unfold Gro at h
  subst h
  funext j
  show (if x = mZ M then 0 else mL M x j) = mL M x j
  exact if_neg (by omega)
theorem Gro.new (h : Gro s M M') : mK M' (mZ M) = 30 ∧ mN M' (mZ M) = 2400 ∧ mZ M' = mZ M + 1 ∧ mS M' = mS M + 2400 ∧ (mOk M → mOk M') := by
  unfold Gro at h
  subst h
  exact ⟨if_pos rfl, if_pos rfl, rfl, rfl, fun o => mOk_UR (mOk_New o)⟩
/-- the Solver with a new list -/
theorem Sva.gro (h : Sva L W s g a R k cn cc bc M) (hz : s + 134 < mZ M) (q : Gro s M M') : Sva L W s g a R k cn cc bc M' ∧ Ot L M' s (mZ M) 2400 ∧ (∀ b, b ∈ L → nv M' b = nv M b ∧ cp M' b = cp M b ∧ mR M' b = mR M b) ∧ (∀ x, x < mZ M → mI M' x = mI M x) ∧ mR M' R = mR M R := by
  obtain ⟨⟨o, ⟨s0, sr, sk, sn⟩, hG, ⟨g3, n3⟩, hT⟩, ⟨hF, hSK, hRs, hfw⟩, hSt, hgo, ⟨t1, t2, t3, t4, ⟨t5, t6⟩, t7⟩, hrow, hD⟩ := id h
  have zs := hSt s (Or.inl rfl)
  obtain ⟨w1, w2, w3, w4, w5⟩ := q.own zs.1
  obtain ⟨z1, z2, z3, z4, z5⟩ := q.new
  have hzz : mZ M ≤ mZ M' := by omega
  have hI : ∀ x, x < mZ M → mI M' x = mI M x := fun x hx => by
    by_cases c : x = s
    · rw [c]; exact w3
    · exact (q.sm hx c).2.2.2
  have st : ∀ x, Stb s x → x ≠ s → Sm M M' x := fun x hx nx => q.sm (hSt x hx).1 nx
  have e29 := st (s + 29) (Or.inr (Or.inl rfl)) (by omega)
  have e30 := st (s + 30) (Or.inr (Or.inr (Or.inl rfl))) (by omega)
  have e122 := st (s + 122) (Or.inr (Or.inr (Or.inr (Or.inl rfl)))) (by omega)
  have e123 := st (s + 123) (Or.inr (Or.inr (Or.inr (Or.inr (Or.inl rfl))))) (by omega)
  have e124 := st (s + 124) (Or.inr (Or.inr (Or.inr (Or.inr (Or.inr (Or.inl rfl)))))) (by omega)
  have e125 := st (s + 125) (Or.inr (Or.inr (Or.inr (Or.inr (Or.inr (Or.inr (Or.inl rfl))))))) (by omega)
  have e126 := st (s + 126) (Or.inr (Or.inr (Or.inr (Or.inr (Or.inr (Or.inr (Or.inr (Or.inl rfl)))))))) (by omega)
  have e128 := st (s + 128) (Or.inr (Or.inr (Or.inr (Or.inr (Or.inr (Or.inr (Or.inr (Or.inr (Or.inl rfl))))))))) (by omega)
  have e129 := st (s + 129) (Or.inr (Or.inr (Or.inr (Or.inr (Or.inr (Or.inr (Or.inr (Or.inr (Or.inr rfl))))))))) (by omega)
  have gs := s0.2
  have og : ∀ i, i ≤ 9 → Sm M M' (g + i) := fun i hi => q.sm (hgo i hi).1 (by omega)
  have g0 := og 0 (by decide)
  rw [Nat.add_zero] at g0
  have ls : ∀ b, b ∈ L → Sm M M' b ∧ Sm M M' (mR M b 0) := fun b hb => ⟨q.sm (hF.lt hb).1 (fun u => zs.2.1 (by rw [← u]; exact hb)), q.sm (hF.lt hb).2 (zs.2.2 b hb)⟩
  obtain ⟨F', nvs⟩ := hF.sm ls hzz
  have hr : ∀ b, b ∈ L → mR M' b = mR M b := fun b hb => (nvs b hb).2.2
  have na : a ≠ s := fun u => by rw [u, s0.1] at t1; exact absurd t1 (by decide)
  have nR : R ≠ s := fun u => by rw [u, s0.1] at t3; exact absurd t3 (by decide)
  have sa := q.sm t5.1 na
  have sR := q.sm t6.1 nR
  have rw7 : ∀ i, i < k → Sm M M' (mR M R i) := fun i hi => q.sm (t7 i hi).1.2.2 (by have := hrow i hi; omega)
  have kz := hSK.1.2
  have k13 := hSK.2.2.2.1.2.2
  have k18 := hSK.2.2.2.2.1.1.2.2
  have k23 := hSK.2.2.2.2.1.2.2.2
  refine ⟨⟨⟨z5 o, ⟨⟨by rw [w1]; exact s0.1, s0.2⟩, by rw [w5 0 (by decide), w5 1 (by decide), w5 2 (by decide), w5 3 (by decide), w5 4 (by decide), w5 5 (by decide), w5 6 (by decide), w5 7 (by decide), w5 8 (by decide), w5 9 (by decide), w5 15 (by decide), w5 16 (by decide), w5 17 (by decide)]; exact sr, by rw [e29.1, e30.1, e122.1, e123.1, e124.1, e125.1, e126.1, e128.1, e129.1]; exact sk, by rw [e29.2.1, e30.2.1, e122.2.1, e123.2.1, e124.2.1, e125.2.1, e126.2.1, e128.2.1, e129.2.1]; exact sn⟩, ⟨by rw [g0.1]; exact hG.1, by rw [g0.2.2.1]; exact hG.2.1, fun i hi hi' => by rw [(og i hi').1]; exact hG.2.2.1 i hi hi', by rw [(og 2 (by decide)).2.1, (og 4 (by decide)).2.1, (og 6 (by decide)).2.1, (og 7 (by decide)).2.1, (og 8 (by decide)).2.1, (og 9 (by decide)).2.1]; exact hG.2.2.2⟩, ⟨by rw [g0.2.2.1]; exact g3, by rw [(og 3 (by decide)).2.1]; exact n3⟩, hT.same (fun i hi => (og i hi).2.2.2)⟩, ⟨F', hSK.sm (q.sm kz (by omega)) (q.sm k13 (by omega)) (q.sm k18 (by omega)) (q.sm k23 (by omega)) hzz, hRs.sm (fun i hi => q.sm (hRs.2.1 i hi).1 (by omega)) hr hzz, hfw.sm (q.sm hfw.1.2.2 (by omega)) hzz⟩, fun x hx => (hSt x hx).sm hr hzz, fun i hi => (hgo i hi).sm hr hzz, ⟨by rw [sa.1]; exact t1, by rw [sa.2.2.1]; exact t2, by rw [sR.1]; exact t3, by rw [sR.2.1]; exact t4, ⟨t5.sm hr hzz, t6.sm hr hzz⟩, fun i hi => by rw [sR.2.2.1]; exact (t7 i hi).sm (rw7 i hi) hzz⟩, fun i hi => by rw [sR.2.2.1]; exact hrow i hi, fun i j hi hj ij => by rw [sR.2.2.1]; exact hD i j hi hj ij⟩, ⟨⟨w4, z1, z2⟩, ⟨by omega, fun u => by have := (hF.lt u).1; omega, fun b hb u => ?_⟩, Or.inr ⟨hz, rfl⟩⟩, nvs, hI, sR.2.2.1⟩
  rw [hr b hb] at u
  have := (hF.lt hb).2
  omega
end NBYB
end
section
/-! The class's Solver: one better command. -/
section NBYC
variable {G : mG} {d s g a R cn cc bc i k n c un x y B O oc mo : Nat} {M M0 M' M1 M2 M3 : mM} {L : List Nat} {W : Nat → Nat} {v : Int}
/-- a command that is left for an unknown state, as it stands in the list -/
def ot1 (M : mM) (s un : Nat) (v : Int) : Prop := ∃ c i k lo hi : Nat, v = ((c * 40 + i : Nat) : Int) ∧ i < un ∧ mI M (s + 125) i = ((k : Nat) : Int) ∧ mI M (s + 122) k = ((lo : Nat) : Int) ∧ mI M (s + 123) k = ((hi : Nat) : Int) ∧ lo ≤ c ∧ c < hi
theorem ot1.cg (h : ot1 M s un v) (e2 : mI M' (s + 122) = mI M (s + 122)) (e3 : mI M' (s + 123) = mI M (s + 123)) (e5 : mI M' (s + 125) = mI M (s + 125)) : ot1 M' s un v := by
  unfold ot1 at h ⊢
  rw [e2, e3, e5]
  exact h
/-- the list of the other commands: oc of them, min's mo in front -/
def Oth (M : mM) (s un O oc mo : Nat) : Prop := (mR M s 11 = O ∧ mK M O = 30 ∧ mN M O = 2400) ∧ (mI M s 12 = ((oc : Nat) : Int) ∧ mI M s 13 = ((mo : Nat) : Int) ∧ mo ≤ oc ∧ oc ≤ 2400) ∧ ∀ j, j < oc → ot1 M s un (mI M O j)
theorem td40 {c i : Nat} (h : i < 40) : Int.tdiv (((c * 40 + i : Nat)) : Int) 40 = ((c : Nat) : Int) ∧ Int.tmod (((c * 40 + i : Nat)) : Int) 40 = ((i : Nat) : Int) := by
  rw [Int.tdiv_eq_ediv_of_nonneg (by omega), Int.tmod_eq_emod_of_nonneg (by omega)]
  constructor <;> omega
theorem unk_cg (h : Unk M s cn un) (e0 : mI M' s 10 = mI M s 10) (e2 : mI M' (s + 122) = mI M (s + 122)) (e3 : mI M' (s + 123) = mI M (s + 123)) (e4 : mI M' (s + 124) = mI M (s + 124)) (e5 : mI M' (s + 125) = mI M (s + 125)) (e6 : mI M' (s + 126) = mI M (s + 126)) : Unk M' s cn un := by
  unfold Unk Slo at h ⊢
  rw [e0, e2, e3, e4, e5, e6]
  exact h
/-- numbers' steps leave the list alone -/
theorem at_oth (h0 : Sva L W s g a R k cn cc bc M0) (hI : atI L W s g a R k cn cc bc M0 M) (oO : Oc L M0 O) (hO : s + 134 < O) (h : Oth M0 s un O oc mo) : Oth M s un O oc mo := by
  obtain ⟨hN, -, -, st, -, -⟩ := hI
  obtain ⟨a1, a2, -, a4⟩ := hN.oth oO (by omega)
  obtain ⟨-, -, b3, -⟩ := hN.oth (h0.2.2.1 s (Or.inl rfl)) (by omega)
  have eO := a4 (fun u => by unfold Cat at u; omega)
  obtain ⟨⟨h1, h2, h3⟩, ⟨h4, h5, h6⟩, h7⟩ := h
  have e0 := st s (Or.inl rfl) (by omega)
  refine ⟨⟨by rw [b3]; exact h1, by rw [a1]; exact h2, by rw [a2]; exact h3⟩, ⟨by rw [e0]; exact h4, by rw [e0]; exact h5, h6⟩, fun j hj => ?_⟩
  rw [eO]
  exact (h7 j hj).cg (st (s + 122) st122.1 (by omega)) (st (s + 123) st122.2.1 (by omega)) (st (s + 125) st122.2.2 (by omega))
theorem at_unk (hI : atI L W s g a R k cn cc bc M0 M) (h : Unk M0 s cn un) : Unk M s cn un := by
  have st := hI.2.2.2.1
  exact unk_cg h (by rw [st s (Or.inl rfl) (by omega)]) (st (s + 122) st122.1 (by omega)) (st (s + 123) st122.2.1 (by omega)) (st (s + 124) st124 (by omega)) (st (s + 125) st122.2.2 (by omega)) (st (s + 126) st126 (by omega))
def Co1 (s O x : Nat) : Prop := Cat s x ∨ x = s + 126 ∨ x = O
/-- what improveOne leaves behind -/
def i1I (L : List Nat) (W : Nat → Nat) (s g a R k cn cc bc un O oc mo : Nat) (M0 M : mM) : Prop := NX L W (Tat s) (Co1 s O) False (s + 1) M0 M ∧ Sva L W s g a R k cn cc bc M ∧ mR M R = mR M0 R ∧ (∀ x, Stb s x → x ≠ s + 128 → x ≠ s + 126 → mI M x = mI M0 x) ∧ (Rsm M R cn 17 ∧ Rt1 M R cn) ∧ Unk M s cn un ∧ Oth M s un O oc mo ∧ ∀ i, i ≤ 9 → mI M (g + i) = mI M0 (g + i)
theorem i1_mk (h : Sva L W s g a R k cn cc bc M0) (hcn : cn ≤ k) (hr : Rsm M0 R cn 17 ∧ Rt1 M0 R cn) (kO : mK M0 O = 30) (hO : s + 134 < O) (q : NX L W (Tat s) (Co1 s O) False (s + 1) M0 M) (hU : Unk M s cn un) (hH : Oth M s un O oc mo) : i1I L W s g a R k cn cc bc un O oc mo M0 M := by
  have hF := h.2.1.1
  have gs := h.1.2.1.1.2
  obtain ⟨e1, e2, e3⟩ := h.nxg q (fun i hi u => by unfold Co1 Cat at u; omega) (q.sk hF h.2.1.2.1)
  have rv : ∀ i, i < cn → nv M (mR M0 R i + 1) = nv M0 (mR M0 R i + 1) ∧ nv M (mR M0 R i + 3) = nv M0 (mR M0 R i + 3) ∧ mI M (mR M0 R i) = mI M0 (mR M0 R i) := fun i hi => by
    have f := h.2.2.2.2.1.2.2.2.2.2 i (by omega)
    have ap := h.te.2.2.2.1 i (by omega)
    have hb := h.2.2.2.2.2.1 i (by omega)
    have nO : mR M0 R i ≠ O := fun u => by
      have k11 := f.1.1
      rw [u, kO] at k11
      exact absurd k11 (by decide)
    refine ⟨(q.num hF f.2.1 (fun u => u.elim ap.1 (fun u => by unfold T2 at u; omega))).2.2, (q.num hF f.2.2 (fun u => u.elim ap.2.1 (fun u => by unfold T2 at u; omega))).2.2, (q.frl hF f).2 (fun u => ?_)⟩
    unfold Co1 Cat at u
    omega
  refine ⟨q, e1, e3, fun x hx nx nx' => ?_, ⟨fun i hi => ?_, fun i hi => ?_⟩, hU, hH, e2⟩
  · have ne : x ≠ s + 1 := by unfold Stb at hx; omega
    refine (q.oth (h.2.2.1 x hx) ne).2.2.2 (fun u => ?_)
    unfold Co1 Cat at u
    unfold Stb at hx
    omega
  · rw [e3, (rv i hi).1, (rv i hi).2.1]; exact hr.1 i hi
  · rw [e3, (rv i hi).2.2]; exact hr.2 i hi
theorem s_i12 (h0 : Sva L W s g a R k cn cc bc M0) (hcn : cn ≤ k) (hk : k ≤ 512) (hr : Rsm M0 R cn 17 ∧ Rt1 M0 R cn) (hL : LHs M0 s cn cc) (hU : Unk M0 s cn un) (hH : Oth M0 s un O oc mo) (oO : Oc L M0 O) (hO : s + 134 < O) (hW : ∀ x, Tat s x → B ≤ W x) (b1 : 300 ≤ B) (hB : B ≤ 16000) : ∀ (t i : Nat) (M : mM), oc ≤ i + t → i ≤ oc → atI L W s g a R k cn cc bc M0 M → h_So_improveOne_2 G (d + 5) s a i M (fun x M' => (x = 0 ∨ x = 1) ∧ i1I L W s g a R k cn cc bc un O oc mo M0 M') := by
  obtain ⟨hc1, hc2, hc3⟩ := h0.1.2.2.2.2.1
  have u40 := hU.2.1
  have oc24 := hH.2.1.2.2.2
  have kO := hH.1.2.1
  have hF0 := h0.2.1.1
  have c1o : ∀ x, Co1 s O x → Oc L M0 x := fun x u => by
    rcases u with u | u | u
    · exact h0.cat hcn x u
    · rw [u]; exact h0.2.2.1 _ st126
    · rw [u]; exact oO
  intro t
  induction t with
  | zero =>
    intro i M h1 h2 hI
    have ho := at_oth h0 hI oO hO hH
    have hu := at_unk hI hU
    obtain ⟨hN, ⟨⟨o, ⟨⟨s0, -⟩, -⟩, -⟩, -⟩, -⟩ := id hI
    refine k_So_improveOne_2 o ⟨by omega, by omega⟩ ?_
    rw [ho.2.1.1]
    exact ⟨s0, fun _ => ⟨Or.inl rfl, i1_mk h0 hcn hr kO hO (hN.mono hF0 (fun _ u => u) h0.tat (fun _ u => Or.inl u) c1o (fun u => u)) hu ho⟩, fun u => absurd (by omega) u⟩
  | succ t ih =>
    intro i M h1 h2 hI
    by_cases ei : i = oc
    · exact ih i M (by omega) h2 hI
    have ho := at_oth h0 hI oO hO hH
    have hu := at_unk hI hU
    obtain ⟨hN, hS, eR, st, ⟨hrs, ht1⟩, gi⟩ := id hI
    obtain ⟨⟨o, ⟨⟨s0, gs⟩, ⟨r0, -, -, r3, -, -, -, -, -, -, -, -, r17⟩, -⟩, -, -, hT⟩, ⟨hF, hSK, -, hfw⟩, -⟩ := id hS
    obtain ⟨⟨w1, w2, w3⟩, ⟨w4, w5, w6, w7⟩, w8⟩ := id ho
    obtain ⟨c, ii, kst, lo, hi', e1, e2, e3, e4, e5, l1, l2⟩ := w8 i (by omega)
    have kcn : kst < cn := by
      obtain ⟨k', c', lo', hi2, q1, q2, -⟩ := hu.2.2.2 ii e2
      omega
    have hcc : hi' ≤ cc := by
      obtain ⟨lo', hi2, f1, f2, f3, f4⟩ := hL kst kcn
      rw [← st (s + 123) st122.2.1 (by omega)] at f2
      omega
    obtain ⟨dv, md⟩ := td40 (c := c) (i := ii) (by omega)
    rw [← e1] at dv md
    refine k_So_improveOne_2 o ⟨by omega, by omega⟩ ?_
    rw [w4, w1, w3, r0, r3, r17, Int.toNat_natCast, dv, md]
    refine ⟨s0, fun u => absurd u (by omega), fun _ => ⟨w2, ⟨by omega, by omega⟩, ⟨by omega, by omega⟩, hSK.1.1, ?_⟩⟩
    obtain ⟨mu, hm, kw⟩ := f_weigh (G := G) (d := d) (B := B) (S := 17) (hS.we hcn) hrs (fun z hz => hW z (tw_at hz)) (by omega) hB (show c < 4096 by omega) hc1 hc3 (hT.2.1 c (by omega))
    refine kw.mono (fun M8 q => ?_)
    obtain ⟨n1, u1, u2, u3, -⟩ := q
    have x1 : NX L W (Tat s) (Cat s) False (s + 1) M M8 := (n1.nx hF).mono hF (fun _ z => tw_at z) hS.tat (fun _ z => Or.inl z) (hS.cat hcn) (fun z => z)
    have I1 := at_mk h0 hcn hr (hN.trans x1)
    have F1 := n1.nf
    have ow : Osz M8 (s + 130) 139 := ⟨F1.szv hfw.2.1 u2, F1.szv hfw.2.2 (Int.lt_of_lt_of_le u1.2 (p30m (by decide))), by rw [u3]; omega, by rw [u3]; omega⟩
    have pk := s_atOrder (G := G) (d := d) (i := kst) (Q := fun x M' => (x = -1 ∨ x = 0 ∨ x = 1) ∧ atI L W s g a R k cn cc bc M0 M') h0 hcn hr I1 ow kcn hW b1 (fun x M' p q => ⟨p, q⟩)
    obtain ⟨hN1, hS1, eR1, st1, -, -⟩ := id I1
    obtain ⟨⟨o1, ⟨⟨s01, -⟩, ⟨-, -, -, -, -, -, -, -, r81, -⟩, ⟨-, -, -, -, -, k81, -⟩, ⟨-, -, -, -, -, n81, -⟩⟩, -⟩, -, -, -, ⟨t11, t21, t31, t41, -, -⟩, -⟩ := id hS1
    have e31 : mI M8 (s + 125) ii = ((kst : Nat) : Int) := by
      rw [st1 (s + 125) st122.2.2 (by omega), ← st (s + 125) st122.2.2 (by omega)]
      exact e3
    rw [r81, t21, n81, t41, Int.toNat_natCast, e31, Int.toNat_natCast, eR1]
    refine ⟨n1.ok, s01, t11, k81, ⟨by omega, by omega⟩, t31, ⟨by omega, by omega⟩, pk.2.1, pk.2.2.mono (fun x19 M18 q => ?_)⟩
    obtain ⟨i19, o18, -, I2⟩ := q
    have ho2 := at_oth h0 I2 oO hO hH
    have hu2 := at_unk I2 hU
    obtain ⟨hN2, hS2, eR2, st2, ⟨hrs2, ht2⟩, gi2⟩ := id I2
    obtain ⟨⟨o2, ⟨⟨s02, -⟩, ⟨-, -, -, -, -, -, -, -, -, r92, -⟩, ⟨-, -, -, -, -, -, k92, -⟩, ⟨-, -, -, -, -, -, n92, -⟩⟩, -⟩, ⟨hF2, -⟩, hSt2, -⟩ := id hS2
    obtain ⟨⟨y1, y2, y3⟩, ⟨y4, y5, y6, y7⟩, y8⟩ := id ho2
    refine ⟨i19, o18, s02, fun v23 e23 => ⟨fun ex => ?_, fun nx => ?_⟩⟩
    rotate_left
    · rw [show ((i : Int) + 1) = ((i + 1 : Nat) : Int) by first | rfl | omega]
      exact ih (i + 1) M18 (by omega) (by omega) I2
    clear ih e23 ex pk kw
    have m22 : mI M18 (s + 122) = mI M (s + 122) := (st2 _ st122.1 (by omega)).trans (st _ st122.1 (by omega)).symm
    have m23 : mI M18 (s + 123) = mI M (s + 123) := (st2 _ st122.2.1 (by omega)).trans (st _ st122.2.1 (by omega)).symm
    have m25 : mI M18 (s + 125) = mI M (s + 125) := (st2 _ st122.2.2 (by omega)).trans (st _ st122.2.2 (by omega)).symm
    rw [← m25] at e3
    rw [← m22] at e4
    rw [← m23] at e5
    obtain ⟨k', c2, lo', hi2, p1, p2, p3, p4, p5, p6, p7⟩ := hu2.2.2.2 ii e2
    have ek : k' = kst := by rw [e3] at p1; omega
    subst ek
    have eh : hi2 = hi' := by rw [e5] at p5; omega
    rw [r92, n92, y1, y3, p3]
    refine ⟨k92, ⟨by omega, by omega⟩, y2, ⟨by omega, by omega⟩, ⟨by omega, by omega⟩, fun M34 e34 => ?_⟩
    have f34 : FI (fun z => z = O) M18 M34 := by rw [e34]; exact FI.ui rfl
    have o34 : mOk M34 := by rw [e34]; exact mOk_UI o2 ⟨by omega, by omega⟩
    rw [f34.1, f34.2.1, f34.2.2.1, r92, n92]
    refine ⟨k92, ⟨by omega, by omega⟩, fun M38 e38 => ?_⟩
    have f38 : FI (fun z => z = s + 126) M34 M38 := by rw [e38]; exact FI.ui rfl
    have o38 : mOk M38 := by rw [e38]; exact mOk_UI o34 ⟨by omega, by omega⟩
    have sO : ¬ s = O := by omega
    have i13 : mI M38 s 13 = ((mo : Nat) : Int) := by
      rw [f38.2.2.2.2.2.2 s (show ¬ s = s + 126 by first | rfl | omega), f34.2.2.2.2.2.2 s sO]
      exact y5
    rw [i13]
    obtain ⟨l, el, hl⟩ : ∃ l : Nat, (if ((mo : Nat) : Int) < ((i : Nat) : Int) + 1 then ((mo : Nat) : Int) else ((i : Nat) : Int) + 1) = ((l : Nat) : Int) ∧ l ≤ oc := by
      split
      · exact ⟨mo, rfl, w6⟩
      · exact ⟨i + 1, by omega, by omega⟩
    rw [el]
    refine ⟨⟨by omega, by omega⟩, (s_So_mix (G := G) (d := d + 5) (O := O) (l1 := 0) (l2 := l) (n := oc) o38 (by rw [f38.1, f34.1]; exact s02) (by rw [f38.2.2.1, f34.2.2.1]; exact y1) (by rw [f38.1, f34.1]; exact y2) (by rw [f38.2.1, f34.2.1]; exact y3) hl oc24 (by omega)).mono (fun M41 q1 => ?_)⟩
    obtain ⟨o41, f41, p41⟩ := q1
    have i13' : mI M41 s 13 = ((mo : Nat) : Int) := by
      rw [f41.2.2.2.2.2.2 s sO]
      exact i13
    rw [i13', show (((i : Nat) : Int) + 1) = ((i + 1 : Nat) : Int) by first | rfl | omega]
    refine ⟨o41, by rw [f41.1, f38.1, f34.1]; exact s02, (s_So_mix (G := G) (d := d + 5) (O := O) (l1 := mo) (l2 := i + 1) (n := oc) o41 (by rw [f41.1, f38.1, f34.1]; exact s02) (by rw [f41.2.2.1, f38.2.2.1, f34.2.2.1]; exact y1) (by rw [f41.1, f38.1, f34.1]; exact y2) (by rw [f41.2.1, f38.2.1, f34.2.1]; exact y3) (by omega) oc24 (by omega)).mono (fun M45 q2 => ?_)⟩
    obtain ⟨o45, f45, p45⟩ := q2
    refine ⟨o45, Or.inr rfl, ?_⟩
    have ff : Fxo (fun x => x = s + 126 ∨ x = O) s M18 M45 := (f34.fo.mono (fun _ u => Or.inr u)).trans ((f38.fo.mono (fun _ u => Or.inl u)).trans ((f41.mono (fun _ u => Or.inr u)).trans (f45.mono (fun _ u => Or.inr u))))
    obtain ⟨nx, -⟩ := ff.nx (T := Tat s) (r := False) o2 o45 hF2 hS2.tat (fun x u => hN2.oc hF0 (c1o x (Or.inr u))) hS2.z9
    have q' : NX L W (Tat s) (Co1 s O) False (s + 1) M0 M45 := (hN2.mono hF0 (fun _ u => u) h0.tat (fun _ u => Or.inl u) c1o (fun u => u)).trans (nx.mono hF2 (fun _ u => u) hS2.tat (fun x u => Or.inr u) (fun x u => hN2.oc hF0 (c1o x u)) (fun u => u))
    have kp : ∀ x, x ≠ s + 126 → x ≠ O → mI M45 x = mI M18 x := fun x a1 a2 => ff.2.2.2.2.2.2 x (fun u => u.elim a1 a2)
    have z0 := kp s (by omega) (by omega)
    have z2 := kp (s + 122) (by omega) (by omega)
    have z3 := kp (s + 123) (by omega) (by omega)
    have z4 := kp (s + 124) (by omega) (by omega)
    have z5 := kp (s + 125) (by omega) (by omega)
    refine i1_mk h0 hcn hr kO hO q' ?_ ?_
    · obtain ⟨v1, v2, v3, v4⟩ := hu2
      refine ⟨by rw [z0]; exact v1, v2, fun j hj => by rw [z4]; exact v3 j hj, fun j hj => ?_⟩
      have n6 : ¬ s + 126 = O := by omega
      rw [z2, z3, z5, f45.2.2.2.2.2.2 (s + 126) n6, f41.2.2.2.2.2.2 (s + 126) n6, mI_ui _ j e38]
      by_cases cj : j = ii
      · rw [if_pos ⟨rfl, cj⟩, cj]
        exact ⟨k', c, lo, hi', e3, kcn, rfl, e4, e5, l1, l2⟩
      · rw [if_neg (fun u => cj u.2), f34.2.2.2.2.2.2 (s + 126) n6]
        exact v4 j hj
    · have P38 : ∀ j, j < oc → ot1 M18 s un (mI M38 O j) := fun j hj => by
        rw [f38.2.2.2.2.2.2 O (show ¬ O = s + 126 by first | rfl | omega), mI_ui _ j e34]
        by_cases cj : j = i
        · rw [if_pos ⟨rfl, cj⟩]
          exact ⟨c2, ii, k', lo', hi2, by omega, e2, p1, p4, p5, p6, p7⟩
        · rw [if_neg (fun u => cj u.2)]
          exact y8 j hj
      have P45 := p45 _ (p41 _ P38)
      exact ⟨⟨by rw [ff.2.2.1]; exact y1, by rw [ff.1]; exact y2, by rw [ff.2.1]; exact y3⟩, ⟨by rw [z0]; exact y4, by rw [z0]; exact y5, y6, y7⟩, fun j hj => (P45 j hj).cg z2 z3 z5⟩
theorem s_So_improveOne (h0 : Sva L W s g a R k cn cc bc M) (hcn : cn ≤ k) (hk : k ≤ 512) (hL : LHs M s cn cc) (hU : Unk M s cn un) (hr : Rsm M R cn 17 ∧ Rt1 M R cn) (hH : Oth M s un O oc mo) (oO : Oc L M O) (hO : s + 134 < O) (hW : ∀ x, Tat s x → B ≤ W x) (b1 : 300 ≤ B) (hB : B ≤ 16000) : Ci G y_So_improveOne (d + 6) [vr s, vr a] M (fun x M' => (x = 0 ∨ x = 1) ∧ i1I L W s g a R k cn cc bc un O oc mo M M') := by
  refine k_So_improveOne h0.1.1 ?_
  exact s_i12 h0 hcn hk hr hL hU hH oO hO hW b1 hB oc 0 M (by omega) (by omega) (at_mk h0 hcn hr (NX.refl h0.1.1 h0.2.1.1 h0.tat (h0.cat hcn) h0.z9))
end NBYC
end
section
/-! The class's Solver: the list of the commands that are not chosen. -/
section NBYD
variable {G : mG} {d s g a R cn cc bc i k n c un x y B O oc mo : Nat} {M M0 M' M1 M2 M3 : mM} {L : List Nat} {W : Nat → Nat} {S : Nat → Prop} {p : Int}
theorem SoT.fo (h : SoT M s g) (f : Fxo S s M M') : SoT M' s g := by
  unfold SoT at h ⊢
  rw [f.1, f.2.1, f.2.2.1]
  exact h
theorem GK9.fo (h : GK9 M g) (f : Fxo S s M M') : GK9 M' g := by
  unfold GK9 at h ⊢
  rw [f.1, f.2.1, f.2.2.1]
  exact h
theorem SG.fo (h : SG M s g cn cc bc) (f : Fxo S s M M') (o : mOk M') (hS : ∀ i, i ≤ 9 → ¬ S (g + i)) : SG M' s g cn cc bc := by
  obtain ⟨-, h2, h3, h4, h5⟩ := h
  exact ⟨o, h2.fo f, h3.fo f, by rw [f.2.1, f.2.2.1]; exact h4, h5.same (fun i hi => f.2.2.2.2.2.2 _ (hS i hi))⟩
theorem s_So_addToDraw (h : SG M s g cn cc bc) (hc : c < cc) : Cv G y_So_addToDraw d [vr s, vi c] M (fun M' => mOk M' ∧ Fxo (fun _ => False) s M M') := by
  obtain ⟨o, ⟨⟨s0, gs⟩, ⟨-, -, -, r3, -⟩, -⟩, ⟨g0, ⟨-, -, -, q7, q8, q9⟩, gk, ⟨-, -, -, m7, m8, m9⟩⟩, -, hT⟩ := id h
  obtain ⟨hc1, hc2, hc3⟩ := hT.1
  obtain ⟨x, y, mu, e1, e2, ⟨xy, -⟩, yb, -⟩ := hT.2.1 c hc
  have g7 := gk 7 (by decide) (by decide)
  refine k_So_addToDraw o ⟨by omega, by omega⟩ ?_
  rw [r3, q7, m7, Int.toNat_natCast, e1]
  refine ⟨s0, g0, g7, ⟨by omega, by omega⟩, ?_⟩
  suffices H : ∀ (t l : Nat) (M1 : mM), y ≤ l + t → l ≤ y → mOk M1 ∧ Fxo (fun _ => False) s M M1 → h_So_addToDraw_10 G d s c l M1 (fun M' => mOk M' ∧ Fxo (fun _ => False) s M M') from H y x M (by omega) (by omega) ⟨o, Fxo.refl⟩
  intro t
  induction t with
  | zero =>
    intro l M1 h1 h2 hI
    obtain ⟨o1, f1⟩ := hI
    refine k_So_addToDraw_10 o1 ⟨by omega, by omega⟩ ⟨by omega, by omega⟩ ?_
    rw [f1.2.2.1, f1.1, f1.2.1, r3, q7, m7, show Int.toNat (((c : Nat) : Int) + 1) = c + 1 by first | rfl | omega, f1.2.2.2.2.2.2 (g + 7) (fun u => u), e2]
    exact ⟨s0, g0, g7, ⟨by omega, by omega⟩, fun _ => ⟨o1, f1⟩, fun u => absurd (by omega) u⟩
  | succ t ih =>
    intro l M1 h1 h2 hI
    obtain ⟨o1, f1⟩ := hI
    refine k_So_addToDraw_10 o1 ⟨by omega, by omega⟩ ⟨by omega, by omega⟩ ?_
    rw [f1.2.2.1, f1.1, f1.2.1, r3, q7, m7, show Int.toNat (((c : Nat) : Int) + 1) = c + 1 by first | rfl | omega, f1.2.2.2.2.2.2 (g + 7) (fun u => u), e2, q9, m9]
    refine ⟨s0, g0, g7, ⟨by omega, by omega⟩, fun _ => ⟨o1, f1⟩, fun u => ⟨gk 9 (by decide) (by decide), ⟨by omega, by omega⟩, fun M13 e13 => ?_⟩⟩
    have f13 : Fxo (fun _ => False) s M1 M13 := Fxo.ul e13
    have o13 : mOk M13 := by rw [e13]; exact mOk_UL o1 i64_w64
    have g13 := f1.trans f13
    rw [g13.2.2.1, g13.1, g13.2.1, r3, q8, m8]
    refine ⟨g0, gk 8 (by decide) (by decide), ⟨by omega, by omega⟩, fun M18 e18 => ?_⟩
    rw [show (((l : Nat) : Int) + 1) = ((l + 1 : Nat) : Int) by first | rfl | omega]
    exact ih (l + 1) M18 (by omega) (by omega) ⟨by rw [e18]; exact mOk_UL o13 i64_w64, g13.trans (Fxo.ul e18)⟩
/-- how many of the first n unknown states are a player's -/
def ctp (M : mM) (s g : Nat) (p : Int) : Nat → Nat
  | 0 => 0
  | n + 1 => ctp M s g p n + (if mI M (g + 2) (mI M (s + 125) n).toNat = p then 1 else 0)
theorem ctp_two : ∀ n, ctp M s g 2 n + ctp M s g 1 n ≤ n
  | 0 => Nat.le_refl _
  | n + 1 => by
    have ih := ctp_two n
    show ctp M s g 2 n + (if mI M (g + 2) (mI M (s + 125) n).toNat = 2 then 1 else 0) + (ctp M s g 1 n + (if mI M (g + 2) (mI M (s + 125) n).toNat = 1 then 1 else 0)) ≤ n + 1
    generalize mI M (g + 2) (mI M (s + 125) n).toNat = z
    by_cases z2 : z = 2
    · rw [if_pos z2, if_neg (by omega)]; omega
    · rw [if_neg z2]; split <;> omega
theorem ctp_mono : ∀ (t i : Nat), ctp M s g p i ≤ ctp M s g p (i + t)
  | 0, _ => Nat.le_refl _
  | t + 1, i => by
    have ih := ctp_mono t i
    show _ ≤ ctp M s g p (i + t) + (if mI M (g + 2) (mI M (s + 125) (i + t)).toNat = p then 1 else 0)
    omega
theorem ctp_cg (e5 : mI M' (s + 125) = mI M (s + 125)) (e2 : mI M' (g + 2) = mI M (g + 2)) : ∀ n, ctp M' s g p n = ctp M s g p n
  | 0 => rfl
  | n + 1 => by
    show ctp M' s g p n + (if mI M' (g + 2) (mI M' (s + 125) n).toNat = p then 1 else 0) = ctp M s g p n + (if mI M (g + 2) (mI M (s + 125) n).toNat = p then 1 else 0)
    rw [ctp_cg e5 e2 n, e5, e2]
/-- while commands are listed -/
def adI (s un O : Nat) (M0 M : mM) (oc : Nat) : Prop := mOk M ∧ Fxo (fun x => x = s ∨ x = O) s M0 M ∧ mI M s 12 = ((oc : Nat) : Int) ∧ (∀ j, j ≠ 12 → mI M s j = mI M0 s j) ∧ ∀ j, j < oc → ot1 M0 s un (mI M O j)
theorem s_So_addOthers (hp : i32 p) (h : SG M0 s g cn cc bc) (hL : LHs M0 s cn cc) (hU : Unk M0 s cn un) (hr : mR M0 s 11 = O) (hK : mK M0 O = 30) (hn : mN M0 O = 2400) (hO : s + 134 < O) (e12 : mI M0 s 12 = ((oc : Nat) : Int)) (ho : ∀ j, j < oc → ot1 M0 s un (mI M0 O j)) (hb : oc + 60 * ctp M0 s g p un ≤ 2400) : Cv G y_So_addOthers (d + 1) [vr s, vi p] M0 (fun M' => ∃ oc' : Nat, oc ≤ oc' ∧ oc' ≤ oc + 60 * ctp M0 s g p un ∧ adI s un O M0 M' oc') := by
  refine k_So_addOthers h.1 hp ?_
  obtain ⟨o, ⟨⟨s0, gs⟩, ⟨-, -, -, r3, -, r5, r6, -, r8, r9, -⟩, ⟨-, -, k5, k6, -, k8, k9, -⟩, ⟨-, -, n5, n6, -, n8, n9, -⟩⟩, ⟨g0, ⟨q2, -⟩, gk, ⟨m2, -⟩⟩, -, hT⟩ := id h
  obtain ⟨hc1, hc2, hc3⟩ := hT.1
  have u40 := hU.2.1
  have sO : ¬ s = O := by omega
  have nS : ∀ i, i ≤ 9 → ¬ (g + i = s ∨ g + i = O) := fun i hi u => by omega
  suffices H : ∀ (t i b : Nat) (M : mM), un ≤ i + t → i ≤ un → oc ≤ b → b ≤ oc + 60 * ctp M0 s g p i → adI s un O M0 M b → h_So_addOthers_2 G d s p i M (fun M' => ∃ oc' : Nat, oc ≤ oc' ∧ oc' ≤ oc + 60 * ctp M0 s g p un ∧ adI s un O M0 M' oc') from H un 0 oc M0 (by omega) (by omega) (Nat.le_refl _) (by omega) ⟨h.1, Fxo.refl, e12, fun _ _ => rfl, ho⟩
  intro t
  induction t with
  | zero =>
    intro i b M h1 h2 hb1 hb2 hI
    have ei : i = un := by omega
    subst ei
    obtain ⟨o1, f1, q12, qj, qo⟩ := id hI
    refine k_So_addOthers_2 o1 hp ⟨by omega, by omega⟩ ?_
    rw [f1.1, qj 10 (by decide), hU.1]
    exact ⟨s0, fun _ => ⟨b, hb1, hb2, hI⟩, fun u => absurd (Int.le_refl _) u⟩
  | succ t ih =>
    intro i b M h1 h2 hb1 hb2 hI
    by_cases ei : i = un
    · exact ih i b M (by omega) h2 hb1 hb2 hI
    obtain ⟨o1, f1, q12, qj, qo⟩ := id hI
    obtain ⟨kst, c, lo, hi', e1, hkc, e4, e2, e3, l1, l2⟩ := hU.2.2.2 i (by omega)
    have hl : hi' ≤ cc ∧ hi' ≤ lo + 60 := by
      obtain ⟨lo', hi2, y1, y2, y3, y4, y5⟩ := hL kst hkc
      rw [e2] at y1
      rw [e3] at y2
      omega
    have ec : ctp M0 s g p (i + 1) = ctp M0 s g p i + (if mI M0 (g + 2) kst = p then 1 else 0) := by
      show ctp M0 s g p i + (if mI M0 (g + 2) (mI M0 (s + 125) i).toNat = p then 1 else 0) = _
      rw [e1, Int.toNat_natCast]
    have cm : ctp M0 s g p (i + 1) ≤ ctp M0 s g p un := by
      have := ctp_mono (M := M0) (s := s) (g := g) (p := p) (un - (i + 1)) (i + 1)
      rw [show i + 1 + (un - (i + 1)) = un by first | rfl | omega] at this
      exact this
    have b60 : mI M0 (g + 2) kst = p → b + 60 ≤ 2400 := fun u => by
      rw [if_pos u] at ec
      omega
    have nxt : ∀ (b' : Nat) (M1 : mM), oc ≤ b' → ((mI M0 (g + 2) kst = p ∧ b' ≤ b + 60) ∨ b' = b) → adI s un O M0 M1 b' → h_So_addOthers_2 G d s p (((i : Nat) : Int) + 1) M1 (fun M' => ∃ oc' : Nat, oc ≤ oc' ∧ oc' ≤ oc + 60 * ctp M0 s g p un ∧ adI s un O M0 M' oc') := fun b' M1 a1 a2 a3 => by
      rw [show (((i : Nat) : Int) + 1) = ((i + 1 : Nat) : Int) by first | rfl | omega]
      refine ih (i + 1) b' M1 (by omega) (by omega) a1 ?_ a3
      rcases a2 with ⟨u, w⟩ | u
      · rw [ec, if_pos u]; omega
      · have := ctp_mono (M := M0) (s := s) (g := g) (p := p) 1 i
        omega
    have i125 : mI M (s + 125) = mI M0 (s + 125) := f1.2.2.2.2.2.2 _ (fun u => by omega)
    have i122 : mI M (s + 122) = mI M0 (s + 122) := f1.2.2.2.2.2.2 _ (fun u => by omega)
    refine k_So_addOthers_2 o1 hp ⟨by omega, by omega⟩ ?_
    rw [f1.1, f1.2.1, f1.2.2.1, qj 10 (by decide), hU.1, r8, r5, n8, n5, i125, i122, Int.toNat_natCast, e1, Int.toNat_natCast, e2]
    refine ⟨s0, fun u => absurd u (by omega), fun _ => ⟨k8, ⟨by omega, by omega⟩, k5, ⟨by omega, by omega⟩, ?_⟩⟩
    clear ih
    suffices K : ∀ (t' c' b' : Nat) (M1 : mM), hi' ≤ c' + t' → lo ≤ c' → c' ≤ hi' → oc ≤ b' → ((mI M0 (g + 2) kst = p ∧ b' ≤ b + (c' - lo)) ∨ b' = b) → adI s un O M0 M1 b' → h_So_addOthers_25 G d s p i kst c' M1 (fun M' => ∃ oc' : Nat, oc ≤ oc' ∧ oc' ≤ oc + 60 * ctp M0 s g p un ∧ adI s un O M0 M' oc') from K (hi' - lo) lo b M (by omega) (Nat.le_refl _) (by omega) hb1 (Or.inr rfl) hI
    clear hI f1 q12 qj qo o1 i125 i122
    intro t'
    induction t' with
    | zero =>
      intro c' b' M1 h1' h2' h3' a1 a2 hI
      obtain ⟨o1, f1, q12, qj, qo⟩ := id hI
      have i123 : mI M1 (s + 123) = mI M0 (s + 123) := f1.2.2.2.2.2.2 _ (fun u => by omega)
      refine k_So_addOthers_25 o1 hp ⟨by omega, by omega⟩ ⟨by omega, by omega⟩ ⟨by omega, by omega⟩ ?_
      rw [f1.1, f1.2.1, f1.2.2.1, r6, n6, r3, q2, m2, i123, Int.toNat_natCast, e3]
      refine ⟨s0, k6, ⟨by omega, by omega⟩, fun _ => ⟨g0, gk 2 (by decide) (by decide), ⟨by omega, by omega⟩⟩, fun _ => nxt b' M1 a1 (a2.imp (fun u => ⟨u.1, by have := u.2; omega⟩) id) hI, fun u => absurd (Or.inl (by omega)) u⟩
    | succ t' ih =>
      intro c' b' M1 h1' h2' h3' a1 a2 hI
      obtain ⟨o1, f1, q12, qj, qo⟩ := id hI
      have i123 : mI M1 (s + 123) = mI M0 (s + 123) := f1.2.2.2.2.2.2 _ (fun u => by omega)
      have i126 : mI M1 (s + 126) = mI M0 (s + 126) := f1.2.2.2.2.2.2 _ (fun u => by omega)
      have ig2 : mI M1 (g + 2) = mI M0 (g + 2) := f1.2.2.2.2.2.2 _ (fun u => nS 2 (by decide) u)
      refine k_So_addOthers_25 o1 hp ⟨by omega, by omega⟩ ⟨by omega, by omega⟩ ⟨by omega, by omega⟩ ?_
      rw [f1.1, f1.2.1, f1.2.2.1, r6, n6, r3, q2, m2, r9, n9, hr, q12, i123, i126, ig2, Int.toNat_natCast, Int.toNat_natCast, Int.toNat_natCast, e3, e4]
      refine ⟨s0, k6, ⟨by omega, by omega⟩, fun _ => ⟨g0, gk 2 (by decide) (by decide), ⟨by omega, by omega⟩⟩, fun _ => nxt b' M1 a1 (a2.imp (fun u => ⟨u.1, by have := u.2; omega⟩) id) hI, fun u => ?_⟩
      have cl : c' < hi' := by
        by_cases z : ((hi' : Nat) : Int) ≤ ((c' : Nat) : Int)
        · exact absurd (Or.inl z) u
        · omega
      have sp : mI M0 (g + 2) kst = p := Classical.byContradiction (fun z => u (Or.inr z))
      have bb : b' ≤ b + (c' - lo) := by
        rcases a2 with a | a
        · exact a.2
        · omega
      have b24 := b60 sp
      clear a2 u
      have dr : ∀ (b2 : Nat) (M2 : mM), oc ≤ b2 → b2 ≤ b + (c' + 1 - lo) → adI s un O M0 M2 b2 → Cv G y_So_addToDraw d [vr s, vi ((c' : Nat) : Int)] M2 (fun M35 => mOk M35 ∧ h_So_addOthers_25 G d s p i kst (((c' : Nat) : Int) + 1) M35 (fun M' => ∃ oc' : Nat, oc ≤ oc' ∧ oc' ≤ oc + 60 * ctp M0 s g p un ∧ adI s un O M0 M' oc')) := fun b2 M2 x1 x2 x3 => by
        obtain ⟨o3, f3, v12, vj, vo⟩ := id x3
        refine (s_So_addToDraw (d := d) (h.fo f3 o3 nS) (show c' < cc by omega)).mono (fun M35 q => ?_)
        obtain ⟨o5, f5⟩ := q
        rw [show (((c' : Nat) : Int) + 1) = ((c' + 1 : Nat) : Int) by first | rfl | omega]
        refine ⟨o5, ih (c' + 1) b2 M35 (by omega) (by omega) (by omega) x1 (Or.inl ⟨sp, x2⟩) ⟨o5, f3.trans (f5.mono (fun _ u => u.elim)), ?_, fun j hj => ?_, fun j hj => ?_⟩⟩
        · rw [f5.2.2.2.2.2.2 s (fun u => u)]; exact v12
        · rw [f5.2.2.2.2.2.2 s (fun u => u)]; exact vj j hj
        · rw [f5.2.2.2.2.2.2 O (fun u => u)]; exact vo j hj
      refine ⟨k9, ⟨by omega, by omega⟩, fun _ => dr b' M1 a1 (by omega) hI, fun _ => ⟨⟨by omega, by omega⟩, fun M39 e39 => ?_⟩⟩
      have f39 : FI (fun z => z = s) M1 M39 := by rw [e39]; exact FI.ui rfl
      have o39 : mOk M39 := by rw [e39]; exact mOk_UI o1 ⟨by omega, by omega⟩
      rw [f39.1, f39.2.1, f1.1, f1.2.1, hn]
      refine ⟨hK, ⟨by omega, by omega⟩, ⟨by omega, by omega⟩, fun M44 e44 => dr (b' + 1) M44 (by omega) (by omega) ?_⟩
      have f44 : FI (fun z => z = O) M39 M44 := by rw [e44]; exact FI.ui rfl
      have o44 : mOk M44 := by rw [e44]; exact mOk_UI o39 ⟨by omega, by omega⟩
      refine ⟨o44, f1.trans ((f39.fo.mono (fun _ u => Or.inl u)).trans (f44.fo.mono (fun _ u => Or.inr u))), ?_, fun j hj => ?_, fun j hj => ?_⟩
      · rw [mI_ui s 12 e44, if_neg (fun u => sO u.1), mI_ui s 12 e39, if_pos ⟨rfl, rfl⟩]; omega
      · rw [mI_ui s j e44, if_neg (fun u => sO u.1), mI_ui s j e39, if_neg (fun u => hj u.2)]; exact qj j hj
      · rw [mI_ui O j e44]
        by_cases cj : j = b'
        · rw [if_pos ⟨rfl, cj⟩]
          exact ⟨c', i, kst, lo, hi', by omega, by omega, e1, e2, e3, h2', cl⟩
        · rw [if_neg (fun u => cj u.2), mI_ui O j e39, if_neg (fun u => sO u.1.symm)]
          exact qo j (by omega)
/-- the list is made -/
def loP (s un O : Nat) (M0 M : mM) : Prop := mOk M ∧ Fxo (fun x => x = s ∨ x = O) s M0 M ∧ (∀ j, j ≠ 12 → j ≠ 13 → mI M s j = mI M0 s j) ∧ ∃ oc mo : Nat, Oth M s un O oc mo
theorem s_lo16 {Q : mM → Prop} (h : SG M0 s g cn cc bc) (hL : LHs M0 s cn cc) (hU : Unk M0 s cn un) (hr : mR M0 s 11 = O) (hK : mK M0 O = 30) (hn : mN M0 O = 2400) (hO : s + 134 < O) (e12 : mI M0 s 12 = 0) (hQ : ∀ M, loP s un O M0 M → Q M) : Cv G y_So_addOthers (d + 1) [vr s, vi 2] M0 (fun M18 => mOk M18 ∧ (mK M18 s = 8 ∧ ∀ M22, M22 = mUI M18 s 13 (mI M18 s 12) → Cv G y_So_addOthers (d + 1) [vr s, vi 1] M22 (fun M24 => mOk M24 ∧ (mK M24 s = 8 ∧ Cv G y_So_mix (d + 1) [vr s, vi 0, vi (mI M24 s 13)] M24 (fun M28 => mOk M28 ∧ (mK M28 s = 8 ∧ Cv G y_So_mix (d + 1) [vr s, vi (mI M28 s 13), vi (mI M28 s 12)] M28 (fun M32 => mOk M32 ∧ (Q M32)))))))) := by
  have two := ctp_two (M := M0) (s := s) (g := g) un
  have u40 := hU.2.1
  have s0 := h.2.1.1.1
  have gs := h.2.1.1.2
  have sO : ¬ s = O := by omega
  have nS : ∀ i, i ≤ 9 → ¬ (g + i = s ∨ g + i = O) := fun i hi u => by omega
  refine (s_So_addOthers (G := G) (d := d) (p := 2) (oc := 0) ⟨by decide, by decide⟩ h hL hU hr hK hn hO e12 (fun j hj => absurd hj (by omega)) (by omega)).mono (fun M18 q => ?_)
  obtain ⟨m, -, m2, o18, f18, i12, ij, io⟩ := q
  refine ⟨o18, by rw [f18.1]; exact s0, fun M22 e22 => ?_⟩
  rw [i12] at e22
  have f22 : FI (fun z => z = s) M18 M22 := by rw [e22]; exact FI.ui rfl
  have o22 : mOk M22 := by rw [e22]; exact mOk_UI o18 ⟨by omega, by omega⟩
  have g22 : Fxo (fun x => x = s ∨ x = O) s M0 M22 := f18.trans (f22.fo.mono (fun _ u => Or.inl u))
  have kp : ∀ x, x ≠ s → x ≠ O → mI M22 x = mI M0 x := fun x a1 a2 => g22.2.2.2.2.2.2 x (fun u => u.elim a1 a2)
  have z2 := kp (s + 122) (by omega) (by omega)
  have z3 := kp (s + 123) (by omega) (by omega)
  have z4 := kp (s + 124) (by omega) (by omega)
  have z5 := kp (s + 125) (by omega) (by omega)
  have z6 := kp (s + 126) (by omega) (by omega)
  have zj : ∀ j, j ≠ 13 → mI M22 s j = mI M18 s j := fun j hj => by rw [mI_ui s j e22, if_neg (fun u => hj u.2)]
  have i13 : mI M22 s 13 = ((m : Nat) : Int) := by rw [mI_ui s 13 e22, if_pos ⟨rfl, rfl⟩]
  have U22 : Unk M22 s cn un := unk_cg hU (by rw [zj 10 (by decide), ij 10 (by decide)]) z2 z3 z4 z5 z6
  have L22 : LHs M22 s cn cc := by
    unfold LHs at hL ⊢
    rw [z2, z3]
    exact hL
  have r22 : mR M22 s 11 = O := by rw [g22.2.2.1]; exact hr
  have K22 : mK M22 O = 30 := by rw [g22.1]; exact hK
  have n22 : mN M22 O = 2400 := by rw [g22.2.1]; exact hn
  have ct : ctp M22 s g 1 un = ctp M0 s g 1 un := ctp_cg z5 (g22.2.2.2.2.2.2 _ (nS 2 (by decide))) un
  refine (s_So_addOthers (G := G) (d := d) (p := 1) (oc := m) ⟨by decide, by decide⟩ (h.fo g22 o22 nS) L22 U22 r22 K22 n22 hO (by rw [zj 12 (by decide)]; exact i12) (fun j hj => by rw [f22.2.2.2.2.2.2 O (fun u => sO u.symm)]; exact (io j hj).cg z2 z3 z5) (by rw [ct]; omega)).mono (fun M24 q => ?_)
  obtain ⟨m', a1, a2, o24, f24, j12, jj, jo⟩ := q
  rw [ct] at a2
  have j13 : mI M24 s 13 = ((m : Nat) : Int) := by rw [jj 13 (by decide)]; exact i13
  have s24 : mK M24 s = 8 := by rw [f24.1, g22.1]; exact s0
  have r24 : mR M24 s 11 = O := by rw [f24.2.2.1]; exact r22
  have K24 : mK M24 O = 30 := by rw [f24.1]; exact K22
  have n24 : mN M24 O = 2400 := by rw [f24.2.1]; exact n22
  rw [j13]
  refine ⟨o24, s24, (s_So_mix (G := G) (d := d + 1) (O := O) (l1 := 0) (l2 := m) (n := m') o24 s24 r24 K24 n24 a1 (by omega) (by omega)).mono (fun M28 q => ?_)⟩
  obtain ⟨o28, f28, p28⟩ := q
  have e28 : mI M28 s = mI M24 s := f28.2.2.2.2.2.2 s sO
  have s28 : mK M28 s = 8 := by rw [f28.1]; exact s24
  rw [e28, j13, j12]
  refine ⟨o28, s28, (s_So_mix (G := G) (d := d + 1) (O := O) (l1 := m) (l2 := m') (n := m') o28 s28 (by rw [f28.2.2.1]; exact r24) (by rw [f28.1]; exact K24) (by rw [f28.2.1]; exact n24) (Nat.le_refl _) (by omega) (by omega)).mono (fun M32 q => ?_)⟩
  obtain ⟨o32, f32, p32⟩ := q
  have ff : Fxo (fun x => x = s ∨ x = O) s M22 M32 := f24.trans ((f28.trans f32).mono (fun _ u => Or.inr u))
  have e32 : mI M32 s = mI M24 s := by rw [f32.2.2.2.2.2.2 s sO]; exact e28
  have kq : ∀ x, x ≠ s → x ≠ O → mI M32 x = mI M22 x := fun x b1 b2 => ff.2.2.2.2.2.2 x (fun u => u.elim b1 b2)
  refine ⟨o32, hQ M32 ⟨o32, g22.trans ff, fun j b1 b2 => ?_, m', m, ⟨⟨by rw [ff.2.2.1]; exact r22, by rw [ff.1]; exact K22, by rw [ff.2.1]; exact n22⟩, ⟨by rw [e32]; exact j12, by rw [e32]; exact j13, a1, by omega⟩, fun j hj => ?_⟩⟩⟩
  · rw [e32, jj j b1, zj j b2, ij j b1]
  · exact (p32 _ (p28 _ jo) j hj).cg (kq (s + 122) (by omega) (by omega)) (kq (s + 123) (by omega) (by omega)) (kq (s + 125) (by omega) (by omega))
/-- from the list's place on -/
theorem s_lo12 {Q : mM → Prop} {M14 M16 : mM} (h : SG M0 s g cn cc bc) (hL : LHs M0 s cn cc) (hU : Unk M0 s cn un) (ht : Ot L M0 s O 2400) (e14 : M14 = mUI M0 s 12 0) (e16 : M16 = mUL M14 s 14 (w64 0)) (hQ : ∀ M, loP s un O M0 M → Q M) : Cv G y_So_addOthers (d + 1) [vr s, vi 2] M16 (fun M18 => mOk M18 ∧ (mK M18 s = 8 ∧ ∀ M22, M22 = mUI M18 s 13 (mI M18 s 12) → Cv G y_So_addOthers (d + 1) [vr s, vi 1] M22 (fun M24 => mOk M24 ∧ (mK M24 s = 8 ∧ Cv G y_So_mix (d + 1) [vr s, vi 0, vi (mI M24 s 13)] M24 (fun M28 => mOk M28 ∧ (mK M28 s = 8 ∧ Cv G y_So_mix (d + 1) [vr s, vi (mI M28 s 13), vi (mI M28 s 12)] M28 (fun M32 => mOk M32 ∧ (Q M32)))))))) := by
  have gs := h.2.1.1.2
  have hO : s + 134 < O := by
    rcases ht.2.2 with u | u
    · omega
    · exact u.1
  have f14 : FI (fun z => z = s) M0 M14 := by rw [e14]; exact FI.ui rfl
  have o14 : mOk M14 := by rw [e14]; exact mOk_UI h.1 ⟨by decide, by decide⟩
  have o16 : mOk M16 := by rw [e16]; exact mOk_UL o14 i64_w64
  have g16 : Fxo (fun x => x = s ∨ x = O) s M0 M16 := (f14.fo.mono (fun _ u => Or.inl u)).trans (Fxo.ul e16)
  have nS : ∀ i, i ≤ 9 → ¬ (g + i = s ∨ g + i = O) := fun i hi u => by omega
  have i16 : mI M16 = mI M14 := by rw [e16]; rfl
  have kp : ∀ x, x ≠ s → mI M16 x = mI M0 x := fun x a1 => by rw [i16]; exact f14.2.2.2.2.2.2 x a1
  have z2 := kp (s + 122) (by omega)
  have z3 := kp (s + 123) (by omega)
  have zj : ∀ j, j ≠ 12 → mI M16 s j = mI M0 s j := fun j hj => by rw [i16, mI_ui s j e14, if_neg (fun u => hj u.2)]
  have L16 : LHs M16 s cn cc := by
    unfold LHs at hL ⊢
    rw [z2, z3]
    exact hL
  refine s_lo16 (h.fo g16 o16 nS) L16 (unk_cg hU (zj 10 (by decide)) z2 z3 (kp _ (by omega)) (kp _ (by omega)) (kp _ (by omega))) (by rw [g16.2.2.1]; exact ht.1.1) (by rw [g16.1]; exact ht.1.2.1) (by rw [g16.2.1]; exact ht.1.2.2) hO (by rw [i16, mI_ui s 12 e14, if_pos ⟨rfl, rfl⟩]) (fun M hM => hQ M ?_)
  obtain ⟨a1, a2, a3, a4⟩ := hM
  exact ⟨a1, g16.trans a2, fun j b1 b2 => by rw [a3 j b1 b2]; exact zj j b1, a4⟩
/-- the list stays, or is a new one -/
def gr1 (s : Nat) (M M' : mM) (O n O' n' : Nat) : Prop := (M' = M ∧ O' = O ∧ n' = n) ∨ (n = 0 ∧ Gro s M M' ∧ O' = mZ M ∧ n' = 2400)
theorem s_So_listOthers (h : Sva L W s g a R k cn cc bc M) (hz : s + 134 < mZ M) (hL : LHs M s cn cc) (hU : Unk M s cn un) (ht : Ot L M s O n) : Cv G y_So_listOthers (d + 2) [vr s] M (fun M' => ∃ (M5 : mM) (O' : Nat), gr1 s M M5 O n O' 2400 ∧ Sva L W s g a R k cn cc bc M5 ∧ Ot L M5 s O' 2400 ∧ loP s un O' M5 M') := by
  have s0 := h.1.2.1.1.1
  refine k_So_listOthers h.1.1 ?_
  rw [ht.1.1, ht.1.2.2]
  have n24 : n = 0 ∨ n = 2400 := by
    rcases ht.2.2 with u | u
    · exact Or.inl u.2
    · exact Or.inr u.2
  refine ⟨s0, ht.1.2.1, ⟨by omega, by omega⟩, fun u M9 e9 => ?_, fun u M35 e35 M37 e37 => ?_⟩
  · have zs := (h.2.2.1 s (Or.inl rfl)).1
    refine ⟨by rw [e9, mK_New, if_neg (by omega)]; exact s0, fun M12 e12 M14 e14 M16 e16 => ?_⟩
    have gq : Gro s M M12 := by
      unfold Gro
      rw [e12, e9]
    obtain ⟨S12, T12, -, I12, -⟩ := h.gro hz gq
    have st : ∀ x, Stb s x → mI M12 x = mI M x := fun x hx => I12 x (h.2.2.1 x hx).1
    have L12 : LHs M12 s cn cc := by
      unfold LHs at hL ⊢
      rw [st _ st122.1, st _ st122.2.1]
      exact hL
    have U12 : Unk M12 s cn un := unk_cg hU (by rw [st s (Or.inl rfl)]) (st _ st122.1) (st _ st122.2.1) (st _ st124) (st _ st122.2.2) (st _ st126)
    exact s_lo12 (d := d) S12.1 L12 U12 T12 e14 e16 (fun M' hM => ⟨M12, mZ M, Or.inr ⟨by omega, gq, rfl, rfl⟩, S12, T12, hM⟩)
  · have en : n = 2400 := by omega
    subst en
    exact s_lo12 (d := d) h.1 hL hU ht e35 e37 (fun M' hM => ⟨M, O, Or.inl ⟨rfl, rfl, rfl⟩, h, ht, hM⟩)
end NBYD
end
