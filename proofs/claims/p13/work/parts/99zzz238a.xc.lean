/-! The class keeps what was explored. -/
section XCD
variable {t g V : Nat} {M M' : mM} {i9 : tI9} {Nn : tP9}
/-- the place, the state and the tables of the states are the same, and whether values are worked out -/
def knF (M M' : mM) (t : Nat) : Prop := mI M' (mR M' t 11) 1 = mI M (mR M t 11) 1
def xcF (M M' : mM) (t : Nat) : Prop := mI M' t 7 = mI M t 7 ∧ mI M' t 8 = mI M t 8 ∧ (∀ i, i ≤ 9 → i ≠ 3 → mI M' (t + 62 + i) = mI M (t + 62 + i)) ∧ knF M M' t
/-- and the tape is as long as it was -/
def sE (M M' : mM) (t : Nat) : Prop := mI M' t 1 = mI M t 1 ∧ xcF M M' t
theorem sE.refl : sE M M t := ⟨rfl, rfl, rfl, fun _ _ _ => rfl, rfl⟩
/-- the same, but for the values -/
def sE0 (M M' : mM) (t : Nat) : Prop := mI M' t 1 = mI M t 1 ∧ mI M' t 7 = mI M t 7 ∧ mI M' t 8 = mI M t 8 ∧ ∀ i, i ≤ 9 → i ≠ 3 → mI M' (t + 62 + i) = mI M (t + 62 + i)
theorem sE0.kn (h : sE0 M M' t) (k : knF M M' t) : sE M M' t := ⟨h.1, h.2.1, h.2.2.1, h.2.2.2, k⟩
theorem xcF.trans {M2 : mM} (h : xcF M M' t) (k : xcF M' M2 t) : xcF M M2 t := ⟨k.1.trans h.1, k.2.1.trans h.2.1, fun i a b => (k.2.2.1 i a b).trans (h.2.2.1 i a b), k.2.2.2.trans h.2.2.2⟩
theorem brl_eq (e8 : mI M' (g + 8) = mI M (g + 8)) (e9 : mI M' (g + 9) = mI M (g + 9)) {a : Nat} : ∀ m, brl M' g a m = brl M g a m
  | 0 => rfl
  | m + 1 => by
    show brl M' g a m ++ [((mI M' (g + 8) (a + m)).toNat, mI M' (g + 9) (a + m))] = brl M g a m ++ [((mI M (g + 8) (a + m)).toNat, mI M (g + 9) (a + m))]
    rw [brl_eq e8 e9 m, e8, e9]
theorem cmmE (e : ∀ i, i ≤ 9 → i ≠ 3 → mI M' (g + i) = mI M (g + i)) (c : Nat) : cmm M' g c = cmm M g c := by
  unfold cmm
  rw [e 5 (by decide) (by decide), e 6 (by decide) (by decide), e 7 (by decide) (by decide), brl_eq (e 8 (by decide) (by decide)) (e 9 (by decide) (by decide))]
theorem xtmE (e : ∀ i, i ≤ 9 → i ≠ 3 → mI M' (g + i) = mI M (g + i)) : ∀ n, xtm M' g n = xtm M g n
  | 0 => rfl
  | n + 1 => by
    show xtm M' g n ++ [stm M' g n] = xtm M g n ++ [stm M g n]
    rw [xtmE e n]
    unfold stm
    rw [e 2 (by decide) (by decide), e 4 (by decide) (by decide), cml_cg (M' := M') (M := M) _ (fun c _ _ => cmmE e c)]
/-- the latest fault's place, explore's state, and what was explored -/
def XC (i9 : tI9) (M : mM) (t : Nat) : Prop := mI M t 7 = i9.2.2.2.2.2.1.1 ∧ (mI M t 8 = i9.2.2.2.2.2.1.2.1 ∧ mI M (mR M t 11) 1 = i9.2.2.2.2.2.1.2.2) ∧ mI M (t + 62) 0 = ((i9.2.2.2.2.2.2.1.length : Nat) : Int) ∧ (i9.2.2.2.2.2.2.1 = [] → i9.2.2.2.2.2.2.2 = []) ∧ (i9.2.2.2.2.2.2.1 ≠ [] → ∃ V : Nat, (V : Int) = i9.2.1 ∧ Sm9 M (t + 62) V i9.2.2.2.2.2.2.1.length = i9.2.2.2.2.2.2.1 ∧ xtm M (t + 62) i9.2.2.2.2.2.2.1.length = i9.2.2.2.2.2.2.2)
theorem XC.tb {S : List (List Int)} {T : xt9} {n : Nat} (h : ∃ V : Nat, (V : Int) = i9.2.1 ∧ Sm9 M (t + 62) V n = S ∧ xtm M (t + 62) n = T) (k : ∀ i, i ≤ 9 → i ≠ 3 → mI M' (t + 62 + i) = mI M (t + 62 + i)) : ∃ V : Nat, (V : Int) = i9.2.1 ∧ Sm9 M' (t + 62) V n = S ∧ xtm M' (t + 62) n = T := by
  obtain ⟨V, h1, h2, h3⟩ := h
  refine ⟨V, h1, ?_, by rw [xtmE k]; exact h3⟩
  unfold Sm9 lsm at h2 ⊢
  rw [k 1 (by decide) (by decide)]
  exact h2
theorem XC.xc (h : XC i9 M t) (k : xcF M M' t) : XC i9 M' t := by
  obtain ⟨h1, h2, h3, h4, h5⟩ := h
  exact ⟨by rw [k.1]; exact h1, ⟨by rw [k.2.1]; exact h2.1, k.2.2.2.trans h2.2⟩, by have := k.2.2.1 0 (by decide) (by decide); rw [Nat.add_zero] at this; rw [this]; exact h3, h4, fun u => XC.tb (h5 u) k.2.2.1⟩
/-- the tape's length, and what was explored -/
def tE (Nn : tP9) (M : mM) (t : Nat) : Prop := mI M t 1 = Nn.1 ∧ XC Nn.2.2 M t
theorem sE.trans (h : sE M M' t) (k : tE Nn M t) : tE Nn M' t := ⟨h.1.trans k.1, k.2.xc h.2⟩
theorem sE.mi (e : mI M' = mI M) (er : mR M' = mR M) : sE M M' t := by
  unfold sE xcF knF
  rw [e, er]
  exact ⟨rfl, rfl, rfl, fun _ _ _ => rfl, rfl⟩
/-- solving: are values worked out -/
theorem XC.kn {k : Int} (h : XC i9 M t) (e : sE0 M M' t) (hk : mI M' (mR M' t 11) 1 = k) : XC (kn9 i9 k) M' t := by
  obtain ⟨h1, h2, h3, h4, h5⟩ := h
  exact ⟨by rw [e.2.1]; exact h1, ⟨by rw [e.2.2.1]; exact h2.1, hk⟩, by have := e.2.2.2 0 (by decide) (by decide); rw [Nat.add_zero] at this; rw [this]; exact h3, h4, fun u => XC.tb (h5 u) e.2.2.2⟩
end XCD
