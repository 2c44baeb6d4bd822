/-! The class's machine: run. -/
section MAE
variable {G : mG} {d z m U Ab Be C Ab0 Be0 C0 t s c p O P K L V F E F0 : Nat} {M0 M M' M1 M2 : mM} {S R X : Nat → Prop} {ns : Nat → Int} {sf ef : Nat → Nat} {H : Nat → Nat}
/-- a piece of code from s to e, where its END stands; heights H, at its end h -/
def Cod (M : mM) (O P V F : Nat) (ns : Nat → Int) (s e : Nat) (H : Nat → Nat) (h : Nat) : Prop := CO M O P V F ns H s e (fun _ => False) ∧ H s = 0 ∧ H e = h ∧ h + s ≤ e ∧ mI M O e = 0 ∧ s ≤ e
/-- the names below F: consts have values, formulas have code; each formula's code stands before its users' -/
def FO (M : mM) (p O P V : Nat) (ns : Nat → Int) (sf ef : Nat → Nat) (L F : Nat) : Prop := ∀ x, x < F → (ns x = 4 → 1 ≤ mI M (p + 7) x ∧ mI M (p + 7) x < 1000000000) ∧ (ns x = 7 → mI M (p + 8) x = sf x ∧ (∃ H, Cod M O P V x ns (sf x) (ef x) H 1) ∧ ef x < L ∧ ∀ y, y < x → ns y = 7 → ef y < sf x)
/-- c calls are open: T values lie below the piece of code that runs -/
def Cs (M0 : mM) (m O P V : Nat) (ns : Nat → Int) (sf ef : Nat → Nat) (E F0 s0 e0 h0 : Nat) (M : mM) : Nat → Nat → Nat → Nat → Nat → (Nat → Nat) → Nat → Prop
  | 0, T, F, s, e, _, h => T = 0 ∧ F = F0 ∧ s = s0 ∧ e = e0 ∧ h = h0
  | c + 1, T, F, s, e, _, h => ∃ (T1 F1 s1 e1 : Nat) (H1 : Nat → Nat) (h1 pc1 : Nat), Cs M0 m O P V ns sf ef E F0 s0 e0 h0 M c T1 F1 s1 e1 H1 h1 ∧ Cod M0 O P V F1 ns s1 e1 H1 h1 ∧ (∀ y, y < F1 → ns y = 7 → ef y < s1) ∧ T1 + e1 ≤ E ∧ F1 + c ≤ F0 ∧ mI M (m + 8) c = (F : Int) ∧ F < F1 ∧ ns F = 7 ∧ (s = sf F ∧ e = ef F ∧ h = 1) ∧ mI M (m + 9) c = (pc1 : Int) ∧ s1 < pc1 ∧ pc1 ≤ e1 ∧ T + 1 = T1 + H1 pc1
theorem Cs.cg {s0 e0 h0 : Nat} : ∀ {c T F s e : Nat} {H : Nat → Nat} {h : Nat}, Cs M0 m O P V ns sf ef E F0 s0 e0 h0 M c T F s e H h → (∀ i, i < c → mI M' (m + 8) i = mI M (m + 8) i ∧ mI M' (m + 9) i = mI M (m + 9) i) → Cs M0 m O P V ns sf ef E F0 s0 e0 h0 M' c T F s e H h
  | 0, _, _, _, _, _, _, q, _ => q
  | c + 1, _, _, _, _, _, _, q, hh => by
    obtain ⟨T1, F1, s1, e1, H1, h1, pc1, q1, q2, q3, q4, q5, q6, q7, q8, q9, q10, q11⟩ := q
    exact ⟨T1, F1, s1, e1, H1, h1, pc1, q1.cg (fun i hi => hh i (by omega)), q2, q3, q4, q5, by rw [(hh c (by omega)).1]; exact q6, q7, q8, q9, by rw [(hh c (by omega)).2]; exact q10, q11⟩
/-- formulas that were met have values -/
def MT (M : mM) (m : Nat) (X : Nat → Prop) : Prop := ∀ x, X x → mI M (m + 5) x ≤ mI M m 9 ∧ (mI M (m + 5) x = mI M m 9 → 1 ≤ mI M (m + 7) x ∧ mI M (m + 7) x < 1000000000)
theorem MT.mtb (h : MT M m X) (b : mtb m M M') (h9 : mI M' m 9 = mI M m 9) : MT M' m X := fun x hx => by
  rw [b (m + 5) (by omega) (by omega), b (m + 7) (by omega) (by omega), h9]
  exact h x hx
/-- what a run comes to -/
def rnQ (M0 : mM) (z m U Ab0 Be0 C0 : Nat) (X : Nat → Prop) (h0 : Nat) (r : Int) (M' : mM) : Prop := MT M' m X ∧ ((r = 0 ∧ mI M' m 1 ≠ 0 ∧ ∃ t c, MS M0 z m U Ab0 Be0 C0 M' t c) ∨ (r = 1 ∧ MS M0 z m U Ab0 Be0 C0 M' h0 0))
theorem MS.nine (h : MS M0 z m U Ab0 Be0 C0 M t c) : mI M m 9 = mI M0 m 9 := by
  obtain ⟨_, _, _, -, -, -, -, -, -, -, h9, -⟩ := h
  exact h9
/-- the program and the machine lie apart -/
def Mpr (M0 : mM) (z m p O P Ab0 Be0 : Nat) : Prop := (p + 15 < m ∨ m + 9 < p) ∧ (O ≠ Ab0 ∧ O ≠ Be0 ∧ P ≠ Ab0 ∧ P ≠ Be0) ∧ m + 9 < z ∧ p + 16 ≤ z ∧ (Ab0 = m + 3 ∨ z ≤ Ab0) ∧ (Be0 = m + 4 ∨ z ≤ Be0)
/-- at any time: the program is as it was -/
theorem MS.prog (h : MS M0 z m U Ab0 Be0 C0 M t c) (hp : PK M0 z p O P K) (h0 : mR M0 m 0 = p) (ha : Mpr M0 z m p O P Ab0 Be0) : PK M z p O P K ∧ mR M m 0 = p ∧ mI M O = mI M0 O ∧ mI M P = mI M0 P ∧ ∀ i, i ≤ 15 → mI M (p + i) = mI M0 (p + i) := by
  obtain ⟨Ab, Be, C, ok, hk, hf, hab, hr, -, -, hm⟩ := h
  obtain ⟨a1, ⟨a2, a3, a4, a5⟩, a6, a7, a8, a9⟩ := ha
  obtain ⟨-, -, -, sp, ⟨z0, z1, z2⟩, -, -⟩ := id hp
  refine ⟨hp.fa hf (show ¬ p = m by omega), by rw [hm.2.2]; exact h0, (hf.2 O z1).2.2.2.2 ?_, (hf.2 P z2).2.2.2.2 ?_, fun i hi => (hf.2 (p + i) (by omega)).2.2.2.2 ?_⟩
  · intro q
    have q' : O = m ∨ O = m + 2 ∨ (m + 5 ≤ O ∧ O ≤ m + 9) ∨ O = Ab0 ∨ O = Be0 := q
    omega
  · intro q
    have q' : P = m ∨ P = m + 2 ∨ (m + 5 ≤ P ∧ P ≤ m + 9) ∨ P = Ab0 ∨ P = Be0 := q
    omega
  · intro q
    have q' : p + i = m ∨ p + i = m + 2 ∨ (m + 5 ≤ p + i ∧ p + i ≤ m + 9) ∨ p + i = Ab0 ∨ p + i = Be0 := q
    omega
end MAE
