section
section
variable {G : mG} {d z r w T A B D N C n p O P K k a s L V F : Nat} {M M' M1 M2 : mM} {H H' : Nat → Nat} {ns : Nat → Int}
/-- sums over the open operations -/
def sq (f : Nat → Nat) : Nat → Nat
  | 0 => 0
  | i + 1 => sq f i + f i
theorem sq_cg {f g : Nat → Nat} : ∀ (i : Nat), (∀ j, j < i → f j = g j) → sq f i = sq g i
  | 0, _ => rfl
  | i + 1, h => by
    show sq f i + f i = sq g i + g i
    rw [sq_cg i (fun j hj => h j (by omega)), h i (by omega)]
/-- values of the machine that an open operation o with marks m holds -/
def cm (o m : Int) : Nat := if 19 ≤ o ∧ o ≤ 29 then 1 else if (o = 15 ∨ o = 16) ∧ (m = 2 ∨ m = 3) then 1 else 0
/-- kinds that it holds, orders that it will make, levels that it is -/
def ckk (o : Int) : Nat := if 19 ≤ o ∧ o ≤ 31 then 1 else 0
def cee (o : Int) : Nat := if (19 ≤ o ∧ o ≤ 29) ∨ o = 40 ∨ o = 41 then 1 else 0
def cdp (o : Int) : Nat := if o = 15 ∨ o = 16 ∨ o = 33 ∨ o = 37 ∨ o = 40 ∨ o = 41 ∨ o = 42 then 1 else 0
/-- the rank of a sign between two operands -/
def rkk (o : Int) : Nat := if o = 31 then 1 else if o = 30 then 2 else if 19 ≤ o ∧ o ≤ 24 then 3 else if o = 25 ∨ o = 26 then 4 else if 27 ≤ o ∧ o ≤ 29 then 5 else 0
def opn (o : Int) : Prop := o = 15 ∨ o = 16 ∨ (19 ≤ o ∧ o ≤ 31) ∨ o = 33 ∨ o = 37 ∨ o = 40 ∨ o = 41 ∨ o = 42
def jm (o : Int) : Prop := o = 30 ∨ o = 31 ∨ o = 33 ∨ o = 42
def bs (M : mM) (r i : Nat) : Nat := sq (fun j => cm (mI M (r + 1) j) (mI M (r + 4) j)) i
def skk (M : mM) (r i : Nat) : Nat := sq (fun j => ckk (mI M (r + 1) j)) i
def se (M : mM) (r i : Nat) : Nat := sq (fun j => cee (mI M (r + 1) j)) i
def sdp (M : mM) (r i : Nat) : Nat := sq (fun j => cdp (mI M (r + 1) j)) i
/-- an order that goes straight on -/
def stO (V F : Nat) (ns : Nat → Int) (H : Nat → Nat) (pc : Nat) (o x : Int) : Prop :=
  (o = 3 ∧ -999999999 ≤ x ∧ x ≤ 999999999 ∧ H (pc + 1) = H pc + 1) ∨ ((o = 4 ∨ o = 7) ∧ 0 ≤ x ∧ x < F ∧ ns x.toNat = o ∧ H (pc + 1) = H pc + 1) ∨ (o = 5 ∧ 0 ≤ x ∧ x < V ∧ H (pc + 1) = H pc + 1) ∨ ((o = 30 ∨ o = 31 ∨ o = 33) ∧ H (pc + 1) + 1 = H pc) ∨ (o = 42 ∧ 1 ≤ H pc) ∨ ((o = 40 ∨ o = 41) ∧ 1 ≤ H pc ∧ H (pc + 1) = H pc) ∨ ((o = 15 ∨ o = 16 ∨ (19 ≤ o ∧ o ≤ 29)) ∧ 2 ≤ H pc ∧ H (pc + 1) + 1 = H pc) ∨ (o = 43 ∧ 0 ≤ x ∧ x ≤ 1000000 ∧ x % 16 < V ∧ H (pc + 1) + 1 = H pc)
/-- where it may jump to -/
def tgO (H : Nat → Nat) (L pc : Nat) (o x : Int) : Prop := ∃ t : Nat, x = t ∧ pc < t ∧ t ≤ L ∧ (o = 33 → H t + 1 = H pc) ∧ (o ≠ 33 → H t = H pc)
/-- the code from s to L; pd: jumps that are not settled yet -/
def CO (M : mM) (O P V F : Nat) (ns : Nat → Int) (H : Nat → Nat) (s L : Nat) (pd : Nat → Prop) : Prop := ∀ pc, s ≤ pc → pc < L → stO V F ns H pc (mI M O pc) (mI M P pc) ∧ (jm (mI M O pc) → pd pc ∨ tgO H L pc (mI M O pc) (mI M P pc)) ∧ H pc + s ≤ pc
theorem stO.cg {pc : Nat} {o x : Int} (h : stO V F ns H pc o x) (h0 : H' pc = H pc) (h1 : H' (pc + 1) = H (pc + 1)) : stO V F ns H' pc o x := by
  unfold stO at h ⊢
  rw [h0, h1]
  exact h
theorem tgO.cg {L' pc : Nat} {o x : Int} (h : tgO H L pc o x) (hL : L ≤ L') (hp : pc < L) (hH : ∀ i, i ≤ L → H' i = H i) : tgO H' L' pc o x := by
  obtain ⟨t, e, t1, t2, t3, t4⟩ := h
  refine ⟨t, e, t1, by omega, ?_, ?_⟩
  · rw [hH t t2, hH pc (by omega)]
    exact t3
  · rw [hH t t2, hH pc (by omega)]
    exact t4
/-- one order more -/
theorem CO.add {pd pd' : Nat → Prop} {o x : Int} (h : CO M O P V F ns H s L pd) (hsL : s ≤ L) (hH : ∀ i, i ≤ L → H' i = H i) (hb : H L + s ≤ L) (hO : ∀ i, mI M' O i = if i = L then o else mI M O i) (hP : ∀ i, mI M' P i = if i = L then x else mI M P i) (hpd : ∀ i, i < L → pd i → pd' i) (hs : stO V F ns H' L o x) (hj : jm o → pd' L ∨ tgO H' (L + 1) L o x) : CO M' O P V F ns H' s (L + 1) pd' := by
  intro pc h0 h1
  rw [hO, hP]
  by_cases y : pc = L
  · subst y
    rw [if_pos rfl, if_pos rfl]
    exact ⟨hs, hj, by rw [hH pc (Nat.le_refl _)]; exact hb⟩
  · rw [if_neg y, if_neg y]
    obtain ⟨a1, a2, a3⟩ := h pc h0 (by omega)
    refine ⟨a1.cg (hH pc (by omega)) (hH (pc + 1) (by omega)), fun q => ?_, by rw [hH pc (by omega)]; exact a3⟩
    rcases a2 q with u | u
    · exact Or.inl (hpd pc (by omega) u)
    · exact Or.inr (u.cg (by omega) (by omega) hH)
/-- a jump is settled -/
theorem CO.put {pd pd' : Nat → Prop} {t : Nat} {x : Int} (h : CO M O P V F ns H s L pd) (hj : jm (mI M O t)) (hO : ∀ i, mI M' O i = mI M O i) (hP : ∀ i, mI M' P i = if i = t then x else mI M P i) (hpd : ∀ i, i < L → i ≠ t → pd i → pd' i) (ht : tgO H L t (mI M O t) x) : CO M' O P V F ns H s L pd' := by
  intro pc h0 h1
  rw [hO, hP]
  obtain ⟨a1, a2, a3⟩ := h pc h0 h1
  by_cases y : pc = t
  · subst y
    rw [if_pos rfl]
    refine ⟨?_, fun _ => Or.inr ht, a3⟩
    clear h hO hP hpd ht a2 a3
    unfold jm at hj
    rcases a1 with q | q | q | q | q | q | q | q
    · exact absurd q.1 (by omega)
    · exact absurd q.1 (by omega)
    · exact absurd q.1 (by omega)
    · exact Or.inr (Or.inr (Or.inr (Or.inl q)))
    · exact Or.inr (Or.inr (Or.inr (Or.inr (Or.inl q))))
    · exact absurd q.1 (by omega)
    · exact absurd q.1 (by omega)
    · exact absurd q.1 (by omega)
  · rw [if_neg y]
    refine ⟨a1, fun q => ?_, a3⟩
    rcases a2 q with u | u
    · exact Or.inl (hpd pc h1 y u)
    · exact Or.inr u
end
end
