section
section
variable {G : mG} {d z r w T A B D N C n p O P K k a s L V F : Nat} {M M' M1 M2 : mM} {H H' : Nat → Nat} {ns : Nat → Int}
/-- below a '?' nothing tighter is open -/
def aO (M : mM) (r i : Nat) : Prop := (mI M (r + 1) i = 33 ∨ mI M (r + 1) i = 42) → ∀ j, j + 1 = i → lvl (mI M (r + 1) j) = 0
/-- what an open operation keeps -/
def enO (M : mM) (r O s L : Nat) (H : Nat → Nat) (i : Nat) : Prop := opn (mI M (r + 1) i) ∧ (0 ≤ mI M (r + 2) i ∧ mI M (r + 2) i ≤ 16384) ∧ (0 ≤ mI M (r + 4) i ∧ mI M (r + 4) i ≤ 7) ∧ ((mI M (r + 1) i = 15 ∨ mI M (r + 1) i = 16) → mI M (r + 4) i ≤ 3) ∧ (jm (mI M (r + 1) i) → ∃ t : Nat, mI M (r + 3) i = t ∧ s ≤ t ∧ t < L ∧ mI M O t = mI M (r + 1) i ∧ H t = bs M r i + 1 ∧ (mI M (r + 1) i ≠ 42 → H (t + 1) = bs M r i)) ∧ (¬ jm (mI M (r + 1) i) → mI M (r + 3) i = -1) ∧ aO M r i
def pdg (M : mM) (r k : Nat) (pc : Nat) : Prop := ∃ i, i < k ∧ mI M (r + 3) i = pc ∧ jm (mI M (r + 1) i)
/-- how many operands stand behind the latest sign -/
def uw (wt : Int) : Nat := if wt = 0 then 1 else 0
/-- reading a rule: k operations are open, at word a, L orders -/
def RG (M : mM) (r p O P n s V F : Nat) (ns : Nat → Int) (d0 : Nat) (H : Nat → Nat) (L k a : Nat) (wt : Int) : Prop :=
  (mI M r 2 = a ∧ mI M r 12 = k ∧ mI M r 7 = wt ∧ mI M p 2 = L) ∧ (wt = 0 ∨ wt = 1) ∧ (a ≤ n ∧ s ≤ L) ∧ mI M r 14 = ((uw wt + skk M r k : Nat) : Int) ∧ (mI M r 5 = ((d0 + sdp M r k : Nat) : Int) ∧ d0 + sdp M r k ≤ 40) ∧ (∀ i, i < k → i + 1 ≤ 6 * sdp M r (i + 1) + rkk (mI M (r + 1) i)) ∧ (∀ i, i < k → enO M r O s L H i) ∧ (H L = uw wt + bs M r k ∧ H L + s ≤ L) ∧ CO M O P V F ns H s L (pdg M r k) ∧ L + se M r k ≤ a ∧ (∀ j, mI M (r + 5) j = 0 ∨ mI M (r + 5) j = 1)
theorem rkk_b (o : Int) : rkk o ≤ 5 := by unfold rkk; (repeat' split) <;> omega
theorem skk_le (M : mM) (r : Nat) : ∀ k, skk M r k ≤ k
  | 0 => Nat.le_refl _
  | k + 1 => by
    have h1 := skk_le M r k
    have h2 : ckk (mI M (r + 1) k) ≤ 1 := by unfold ckk; split <;> omega
    have h3 : skk M r (k + 1) = skk M r k + ckk (mI M (r + 1) k) := rfl
    omega
/-- there is room on the piles -/
theorem RG.room {d0 : Nat} {wt : Int} (h : RG M r p O P n s V F ns d0 H L k a wt) : k ≤ 245 ∧ uw wt + skk M r k ≤ 246 := by
  obtain ⟨-, h2, -, -, ⟨-, h5⟩, h6, -⟩ := h
  have hk : k ≤ 245 := by
    by_cases y : k = 0
    · omega
    · have a1 := h6 (k - 1) (by omega)
      have a2 := rkk_b (mI M (r + 1) (k - 1))
      rw [show k - 1 + 1 = k by first | rfl | omega] at a1
      omega
  have := skk_le M r k
  have hu : uw wt ≤ 1 := by unfold uw; split <;> omega
  exact ⟨hk, by omega⟩
/-- the sums look at the piles alone -/
theorem sums_cg (h1 : ∀ j, j < k → mI M' (r + 1) j = mI M (r + 1) j) (h4 : ∀ j, j < k → mI M' (r + 4) j = mI M (r + 4) j) : ∀ i, i ≤ k → bs M' r i = bs M r i ∧ skk M' r i = skk M r i ∧ se M' r i = se M r i ∧ sdp M' r i = sdp M r i := fun i hi =>
  ⟨sq_cg i (fun j hj => by rw [h1 j (by omega), h4 j (by omega)]), sq_cg i (fun j hj => by rw [h1 j (by omega)]), sq_cg i (fun j hj => by rw [h1 j (by omega)]), sq_cg i (fun j hj => by rw [h1 j (by omega)])⟩
end
end
