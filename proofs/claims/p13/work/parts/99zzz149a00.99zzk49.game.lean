/-! The class's game: places, the program it explores, runs of its machine. -/
section GAA
variable {G : mG} {d z g p O P K V F L cnt U w9 Ab Be C Ab0 Be0 C0 s h t c : Nat} {M0 M M' M1 M2 : mM} {ns : Nat → Int} {sf ef : Nat → Nat} {H : Nat → Nat} {S R : Nat → Prop}
/-- the game's places -/
def GK (M : mM) (g : Nat) : Prop := mK M g = 7 ∧ (mR M g 1 = g + 1 ∧ mR M g 2 = g + 2 ∧ mR M g 3 = g + 3 ∧ mR M g 4 = g + 4 ∧ mR M g 5 = g + 5 ∧ mR M g 6 = g + 6 ∧ mR M g 7 = g + 7 ∧ mR M g 8 = g + 8 ∧ mR M g 9 = g + 9 ∧ mR M g 15 = g + 10 ∧ mR M g 16 = g + 20 ∧ mR M g 17 = g + 21 ∧ mR M g 18 = g + 22) ∧ (mK M (g + 1) = 30 ∧ mK M (g + 2) = 30 ∧ mK M (g + 3) = 30 ∧ mK M (g + 4) = 30 ∧ mK M (g + 5) = 30 ∧ mK M (g + 6) = 30 ∧ mK M (g + 7) = 30 ∧ mK M (g + 8) = 30 ∧ mK M (g + 9) = 30 ∧ mK M (g + 20) = 30 ∧ mK M (g + 21) = 30 ∧ mK M (g + 22) = 30) ∧ (mN M (g + 1) = 6144 ∧ mN M (g + 2) = 512 ∧ mN M (g + 3) = 512 ∧ mN M (g + 4) = 513 ∧ mN M (g + 5) = 4097 ∧ mN M (g + 6) = 4097 ∧ mN M (g + 7) = 4098 ∧ mN M (g + 8) = 4096 ∧ mN M (g + 9) = 4096 ∧ mN M (g + 20) = 1024 ∧ mN M (g + 21) = 8 ∧ mN M (g + 22) = 8)
theorem GK.eq2 (hk : GK M g) (v : ∀ i, i ≤ 22 → mK M' (g + i) = mK M (g + i) ∧ mN M' (g + i) = mN M (g + i)) (hr : ∀ i, i ≠ 14 → mR M' g i = mR M g i) : GK M' g := by
  unfold GK at hk ⊢
  have v0 := v 0 (by omega)
  rw [Nat.add_zero] at v0
  rw [v0.1, hr 1 (by omega), hr 2 (by omega), hr 3 (by omega), hr 4 (by omega), hr 5 (by omega), hr 6 (by omega), hr 7 (by omega), hr 8 (by omega), hr 9 (by omega), hr 15 (by omega), hr 16 (by omega), hr 17 (by omega), hr 18 (by omega), (v 1 (by omega)).1, (v 2 (by omega)).1, (v 3 (by omega)).1, (v 4 (by omega)).1, (v 5 (by omega)).1, (v 6 (by omega)).1, (v 7 (by omega)).1, (v 8 (by omega)).1, (v 9 (by omega)).1, (v 20 (by omega)).1, (v 21 (by omega)).1, (v 22 (by omega)).1, (v 1 (by omega)).2, (v 2 (by omega)).2, (v 3 (by omega)).2, (v 4 (by omega)).2, (v 5 (by omega)).2, (v 6 (by omega)).2, (v 7 (by omega)).2, (v 8 (by omega)).2, (v 9 (by omega)).2, (v 20 (by omega)).2, (v 21 (by omega)).2, (v 22 (by omega)).2]
  exact hk
/-- a program that may be explored -/
def PW (M : mM) (z p O P K V F : Nat) (ns : Nat → Int) (sf ef : Nat → Nat) (L cnt : Nat) : Prop := PK M z p O P K ∧ (mI M p 2 = ((L : Nat) : Int) ∧ L ≤ K ∧ L ≤ 16384) ∧ (mI M p 3 = ((V : Nat) : Int) ∧ V ≤ 12) ∧ F ≤ 60 ∧ (mI M p 12 = ((cnt : Nat) : Int) ∧ cnt ≤ 60) ∧ mI M p 11 ≠ -1 ∧ ∃ u : Nat, mI M (p + 12) cnt = ((u : Nat) : Int) ∧ PG M p O P V F ns sf ef L cnt u
theorem PW.fa (h : PW M z p O P K V F ns sf ef L cnt) (f : FA S R M M') (hp : ¬ R p) (hs : ∀ i, i ≤ 15 → ¬ S (p + i)) (hO : ¬ S O) (hP : ¬ S P) : PW M' z p O P K V F ns sf ef L cnt := by
  obtain ⟨h1, h2, h3, h4, h5, h6, u, h7, h8⟩ := h
  obtain ⟨-, -, -, ⟨o1, o2, o3, o4⟩, ⟨pz0, pz1, pz2⟩, -⟩ := id h1
  have e : ∀ i, i ≤ 15 → mI M' (p + i) = mI M (p + i) := fun i hi => (f.2 (p + i) (by omega)).2.2.2.2 (hs i hi)
  have eO : mI M' O = mI M O := (f.2 O pz1).2.2.2.2 hO
  have eP : mI M' P = mI M P := (f.2 P pz2).2.2.2.2 hP
  have e0 := e 0 (by omega)
  rw [Nat.add_zero] at e0
  exact ⟨h1.fa f hp, by rw [e0]; exact h2, by rw [e0]; exact h3, h4, by rw [e0]; exact h5, by rw [e0]; exact h6, u, by rw [e 12 (by omega)]; exact h7, h8.cg (by rw [e0]) (fun i _ _ => e i (by omega)) (fun b _ => ⟨by rw [e 14 (by omega)], by rw [e 15 (by omega)]⟩) (fun i _ => ⟨by rw [eO], by rw [eP]⟩)⟩
/-- what exploring may change -/
def gaS (g Ab Be : Nat) : Nat → Prop := fun x => (g ≤ x ∧ x ≤ g + 22) ∨ x = Ab ∨ x = Be
def gaR (g : Nat) : Nat → Prop := fun x => x = g ∨ x = g + 10
def gaF (M0 : mM) (g Ab0 Be0 C0 : Nat) (M : mM) (Ab Be C : Nat) : Prop := FA (gaS g Ab0 Be0) (gaR g) M0 M ∧ ((Ab = Ab0 ∨ mZ M0 ≤ Ab) ∧ (Be = Be0 ∨ mZ M0 ≤ Be)) ∧ (mS M + 4 * C0 = mS M0 + 4 * C ∧ 32 * mZ M + C0 ≤ 32 * mZ M0 + C)
theorem gaF.refl : gaF M g Ab Be C M Ab Be C := ⟨FA.refl, ⟨Or.inl rfl, Or.inl rfl⟩, rfl, Nat.le_refl _⟩
theorem gaF.trans {Ab1 Be1 C1 : Nat} (f : gaF M0 g Ab0 Be0 C0 M Ab Be C) (k : gaF M g Ab Be C M1 Ab1 Be1 C1) : gaF M0 g Ab0 Be0 C0 M1 Ab1 Be1 C1 := by
  obtain ⟨f1, ⟨f2, f3⟩, f4, f5⟩ := f
  obtain ⟨g1, ⟨g2, g3⟩, g4, g5⟩ := k
  have zz := f1.1.1
  refine ⟨f1.trans2 g1 (fun x hx y => ?_) (fun _ _ y => y), ⟨by omega, by omega⟩, by omega, by omega⟩
  have y' : (g ≤ x ∧ x ≤ g + 22) ∨ x = Ab ∨ x = Be := y
  show (g ≤ x ∧ x ≤ g + 22) ∨ x = Ab0 ∨ x = Be0
  omega
/-- the game while it explores: all but the counts -/
def GY (U w9 : Nat) (M0 : mM) (z g p O P K V F : Nat) (ns : Nat → Int) (sf ef : Nat → Nat) (L cnt Ab0 Be0 C0 : Nat) (M : mM) (Ab Be C : Nat) : Prop := mOk M ∧ GK M g ∧ MK M z (g + 10) U Ab Be C ∧ PW M z p O P K V F ns sf ef L cnt ∧ (mR M g 14 = p ∧ mR M (g + 10) 0 = p) ∧ (g + 23 ≤ z ∧ (g + 22 < p ∨ p + 15 < g) ∧ (O ≠ Ab ∧ O ≠ Be ∧ P ≠ Ab ∧ P ≠ Be)) ∧ MT M (g + 10) (fun x => x < 60 ∧ w9 = 1) ∧ gaF M0 g Ab0 Be0 C0 M Ab Be C ∧ (∀ x, x < 60 → mI M (g + 15) x ≤ mI M (g + 10) 9) ∧ (∀ i, i ≤ 15 → mI M (p + i) = mI M0 (p + i))
/-- exploring, after the first state has been entered -/
abbrev GX (M0 : mM) (z g p O P K V F : Nat) (ns : Nat → Int) (sf ef : Nat → Nat) (L cnt Ab0 Be0 C0 : Nat) (M : mM) (Ab Be C : Nat) : Prop := GY (g + 1) 1 M0 z g p O P K V F ns sf ef L cnt Ab0 Be0 C0 M Ab Be C
theorem ga_ne {g p O P Ab Be z : Nat} (h1 : g + 23 ≤ z) (h2 : g + 22 < p ∨ p + 15 < g) (h3 : O ≠ Ab ∧ O ≠ Be ∧ P ≠ Ab ∧ P ≠ Be) (o1 : O = p + 1 ∨ z ≤ O) (o2 : P = p + 2 ∨ z ≤ P) (o4 : p + 16 ≤ z) (a1 : Ab = g + 10 + 3 ∨ z ≤ Ab) (a2 : Be = g + 10 + 4 ∨ z ≤ Be) : (∀ i, i ≤ 15 → ¬ gaS g Ab Be (p + i)) ∧ ¬ gaS g Ab Be O ∧ ¬ gaS g Ab Be P ∧ ¬ gaR g p := by
  refine ⟨fun i hi y => ?_, fun y => ?_, fun y => ?_, fun y => ?_⟩
  · have y' : (g ≤ p + i ∧ p + i ≤ g + 22) ∨ p + i = Ab ∨ p + i = Be := y
    omega
  · have y' : (g ≤ O ∧ O ≤ g + 22) ∨ O = Ab ∨ O = Be := y
    omega
  · have y' : (g ≤ P ∧ P ≤ g + 22) ∨ P = Ab ∨ P = Be := y
    omega
  · have y' : p = g ∨ p = g + 10 := y
    omega
theorem GY.ne (h : GY U w9 M0 z g p O P K V F ns sf ef L cnt Ab0 Be0 C0 M Ab Be C) : (∀ i, i ≤ 15 → ¬ gaS g Ab Be (p + i)) ∧ ¬ gaS g Ab Be O ∧ ¬ gaS g Ab Be P ∧ ¬ gaR g p := by
  obtain ⟨-, -, hk, hp, -, ⟨h1, h2, h3⟩, -⟩ := h
  obtain ⟨o1, o2, -, o4⟩ := hp.1.2.2.2.1
  obtain ⟨a1, a2, -, -⟩ := hk.2.2.2.2.2.1
  exact ga_ne h1 h2 h3 o1 o2 o4 a1 a2
/-- ints of the game's own tables change (not the machine's) -/
theorem GY.fi (h : GY U w9 M0 z g p O P K V F ns sf ef L cnt Ab0 Be0 C0 M Ab Be C) (ok : mOk M') (f : FI (fun x => (g ≤ x ∧ x ≤ g + 9) ∨ x = g + 12 ∨ (g + 20 ≤ x ∧ x ≤ g + 22)) M M') : GY U w9 M0 z g p O P K V F ns sf ef L cnt Ab0 Be0 C0 M' Ab Be C := by
  have ne := h.ne
  obtain ⟨-, h2, h3, h4, h5, h6, h7, h8, h9, h10⟩ := h
  have f9 : FI (gaS g Ab Be) M M' := f.mono (fun x y => Or.inl (by
    have y' : (g ≤ x ∧ x ≤ g + 9) ∨ x = g + 12 ∨ (g + 20 ≤ x ∧ x ≤ g + 22) := y
    omega))
  have em : ∀ i, i = 0 ∨ (3 ≤ i ∧ i ≤ 9) → mI M' (g + 10 + i) = mI M (g + 10 + i) := fun i hi => f.2.2.2.2.2.2 _ (fun y => by
    have y' : (g ≤ g + 10 + i ∧ g + 10 + i ≤ g + 9) ∨ g + 10 + i = g + 12 ∨ (g + 20 ≤ g + 10 + i ∧ g + 10 + i ≤ g + 22) := y
    omega)
  have e0 := em 0 (Or.inl rfl)
  rw [Nat.add_zero] at e0
  refine ⟨ok, h2.eq2 (fun i _ => ⟨by rw [f.1], by rw [f.2.1]⟩) (fun i _ => by rw [f.2.2.1]), h3.fi f (by rw [e0]), h4.fa (FI.fa (R := fun _ => False) f9) (fun y => y) ne.1 ne.2.1 ne.2.2.1, by rw [f.2.2.1]; exact h5, h6, fun x hx => ?_, h8.trans ⟨(FI.fa f9).mono (fun _ _ y => y) (fun _ _ y => y), ⟨Or.inl rfl, Or.inl rfl⟩, by rw [f.2.2.2.2.2.1], by rw [f.2.2.2.2.1]; exact Nat.le_refl _⟩, fun x hx => by
    rw [show g + 15 = g + 10 + 5 by omega, em 5 (by omega), e0]
    exact h9 x hx, fun i hi => by rw [f9.2.2.2.2.2.2 _ (ne.1 i hi)]; exact h10 i hi⟩
  rw [em 5 (by omega), em 7 (by omega), e0]
  exact h7 x hx
end GAA
