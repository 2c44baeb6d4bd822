section
/-- how much a list holds, at most -/
def cp (M : mM) (p : Nat) : Nat := mN M (mR M p 0)
/-- a growing list -/
def Nu (M : mM) (p : Nat) : Prop := mK M p = 15 ∧ mK M (mR M p 0) = 30 ∧ (p < mZ M ∧ mR M p 0 < mZ M) ∧ (0 ≤ mI M p 1 ∧ mI M p 1 ≤ cp M p) ∧ (16 ≤ cp M p ∧ cp M p % 16 = 0 ∧ cp M p ≤ 2097152)
/-- the list's length, and what stands at j -/
def ln (M : mM) (p : Nat) : Int := mI M p 1
def nt (M : mM) (p j : Nat) : Int := mI M (mR M p 0) j
def psum (f : Nat → Nat) : List Nat → Nat
  | [] => 0
  | a :: l => f a + psum f l
theorem psum_congr {f g : Nat → Nat} : ∀ (l : List Nat), (∀ q, q ∈ l → f q = g q) → psum f l = psum g l
  | [], _ => rfl
  | a :: l, h => by rw [psum, psum, h a (List.mem_cons_self ..), psum_congr l (fun q hq => h q (List.mem_cons_of_mem _ hq))]
theorem psum_one {f g : Nat → Nat} {p : Nat} : ∀ (l : List Nat), l.Nodup → p ∈ l → (∀ q, q ∈ l → q ≠ p → g q = f q) → psum g l + f p = psum f l + g p
  | [], _, hp, _ => by simp at hp
  | a :: l, hn, hp, h => by
    rw [psum, psum]
    have hn' := List.nodup_cons.1 hn
    by_cases z : a = p
    · subst z
      rw [psum_congr l (fun q hq => h q (List.mem_cons_of_mem _ hq) (fun w => hn'.1 (by rw [← w]; exact hq)))]
      omega
    · have hp' : p ∈ l := by
        rcases List.mem_cons.1 hp with w | w
        · exact absurd w.symm z
        · exact w
      have a1 := psum_one (f := f) (g := g) l hn'.2 hp' (fun q hq => h q (List.mem_cons_of_mem _ hq))
      rw [h a (List.mem_cons_self ..) z]
      omega
/-- the room that the lists of L have taken -/
def RmL (L : List Nat) (M M' : mM) : Prop := mS M' + 2 * psum (cp M) L ≤ mS M + 2 * psum (cp M') L ∧ mZ M' + psum (fun p => cp M p / 16) L ≤ mZ M + psum (fun p => cp M' p / 16) L
theorem RmL.trans {L : List Nat} {M M1 M2 : mM} (h : RmL L M M1) (k : RmL L M1 M2) : RmL L M M2 := by
  obtain ⟨h1, h2⟩ := h
  obtain ⟨k1, k2⟩ := k
  exact ⟨by omega, by omega⟩
theorem RmL.fi {S : Nat → Prop} {L : List Nat} {M M' : mM} (h : FI S M M') : RmL L M M' := by
  obtain ⟨h1, h2, h3, h4, h5, h6, h7⟩ := h
  have e : cp M' = cp M := by funext p; unfold cp; rw [h2, h3]
  unfold RmL
  rw [e, h5, h6]
  omega
/-- the lists of L lie apart -/
def Apt (L : List Nat) (M : mM) : Prop := ∀ p q, p ∈ L → q ∈ L → p ≠ q → mR M p 0 ≠ mR M q 0
end
