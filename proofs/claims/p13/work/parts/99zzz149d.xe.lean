/-! The reference keeps what was explored. -/
section XEA
variable {a g W : Nat} {M M' : mM} {S : List (List Int)} {T : xt9} {i9 : tI9} {r : Int}
/-- the tables of what was explored: states S, kinds and commands T -/
def XF (M : mM) (a W : Nat) (S : List (List Int)) (T : xt9) : Prop := ∃ (L w : Nat) (B : Nat → Nat), (1 ≤ S.length ∧ S.length ≤ 512) ∧ (mI M a 40 = (w : Int) ∧ w ≤ 4096) ∧ Wy M a S.length w ∧ (ln M (a + 109) = L ∧ ln M (a + 111) = L ∧ ln M (a + 113) = L ∧ ln M (a + 115) = L) ∧ (B 0 = 0 ∧ B L = w) ∧ (∀ i, i < L → okc M a B i) ∧ Wc M a w ∧ SmR M a W S.length = S ∧ xtR M a S.length = T
theorem sl.nt {q : Nat} (h : sl M M' q) : nt M' q = nt M q := funext (fun j => h.2 j)
theorem XF.xe (h : XF M a W S T) (k : xeF M M' a) : XF M' a W S T := by
  obtain ⟨⟨a1, a2, a3⟩, ⟨b1, b2, b3, b4, b5⟩, ⟨c1, c2⟩, d1, d2, d3, d4, -⟩ := k
  obtain ⟨L, w, B, h1, h2, h3, h4, h5, h6, h7, h8, h9⟩ := h
  refine ⟨L, w, B, h1, by rw [a3]; exact h2, ?_, by rw [d1.1, d2.1, d3.1, d4.1]; exact h4, h5, fun i hi => ?_, ?_, ?_, ?_⟩
  · unfold Wy
    rw [b5, c1, c2]
    exact h3
  · unfold okc
    rw [d2.nt, d3.nt, d4.nt, c1, c2]
    exact h6 i hi
  · unfold Wc
    rw [c1, c2]
    exact h7
  · unfold SmR lsR
    rw [b1]
    exact h8
  · unfold xtR stR cmL cmQ brR
    rw [b2, b3, b4, b5, c1, c2, d1.nt, d2.nt, d3.nt, d4.nt]
    exact h9
theorem SvT.xe (h : SvT M (a + 117) T) (k : xeF M M' a) : SvT M' (a + 117) T := h.sv k.2.2.2.2.2.2.2.1 k.2.2.2.2.2.2.2.2
/-- the latest fault's place, explore's state, and what was explored -/
def XE (i9 : tI9) (M : mM) (a : Nat) : Prop := mI M a 12 = i9.2.2.2.2.2.1.1 ∧ (mI M a 30 = i9.2.2.2.2.2.1.2.1 ∧ mI M (a + 117 + 30) 0 = i9.2.2.2.2.2.1.2.2) ∧ mI M a 29 = ((i9.2.2.2.2.2.2.1.length : Nat) : Int) ∧ (i9.2.2.2.2.2.2.1 = [] → i9.2.2.2.2.2.2.2 = []) ∧ (i9.2.2.2.2.2.2.1 ≠ [] → ∃ W : Nat, (W : Int) = i9.2.1 ∧ XF M a W i9.2.2.2.2.2.2.1 i9.2.2.2.2.2.2.2 ∧ SvT M (a + 117) i9.2.2.2.2.2.2.2 ∧ kdT i9.2.2.2.2.2.2.2)
theorem XE.xe (h : XE i9 M a) (k : xeF M M' a) (e : mI M' a 12 = mI M a 12) (e' : mI M' (a + 117 + 30) 0 = mI M (a + 117 + 30) 0) : XE i9 M' a := by
  obtain ⟨h1, h2, h3, h4, h5⟩ := h
  refine ⟨by rw [e]; exact h1, ⟨by rw [k.1.2.1]; exact h2.1, e'.trans h2.2⟩, by rw [k.1.1]; exact h3, h4, fun u => ?_⟩
  obtain ⟨W, w1, w2, w3, w4⟩ := h5 u
  exact ⟨W, w1, w2.xe k, w3.xe k, w4⟩
theorem XE.fx (h : XE i9 M a) (k : FX M a M') : XE i9 M' a := h.xe k.2.1 k.2.2.1 k.2.2.2
/-- what exploring leaves, by what it comes to -/
def exG (X : xR9) : tE9 := if X.1.1 ≠ 0 then ((X.1.2, ((X.2.1 : Nat) : Int), 0), [], []) else ((-1, -1, 0), X.2.2.1, X.2.2.2)
theorem XTr.xf (h : XTr M a g W S T) : S ≠ [] ∧ XF M a W S T := by
  obtain ⟨h1, h2, h3, w9, h4, h5, L, w, B, xd, hw⟩ := h
  obtain ⟨⟨x1, x2, x3⟩, ⟨x4, x5⟩, x6, x7, x8, ⟨x9, x10, x11⟩, x12⟩ := xd
  have ew : w9 = w := by omega
  subst ew
  refine ⟨fun u => ?_, L, w9, B, ⟨x2, x3⟩, ⟨x4, x5⟩, x7, x8, ⟨x9, hw⟩, x12, h5, h2, h3⟩
  rw [u] at x2
  exact absurd x2 (by decide)
theorem xpR.xe {X : xR9} (h : xpR X a g W r M') (hw : (W : Int) = i9.2.1) (he : i9.2.2.2.2.2 = exG X) : XE i9 M' a ∧ r = X.1.1 := by
  unfold XE
  rw [he]
  unfold exG
  rcases h with ⟨h1, h2, h3, h4, h5, h6⟩ | ⟨h1, h2, h3, h4, h5, h6, h7, h8⟩
  · rw [if_pos h1]
    exact ⟨⟨h3, ⟨h4, h6⟩, h5, fun _ => rfl, fun u => absurd rfl u⟩, h2⟩
  · have n0 : ¬ (X.1.1 ≠ 0) := fun u => u (by rw [h1])
    rw [if_neg n0]
    obtain ⟨f1, f2⟩ := h5.xf
    exact ⟨⟨h3, ⟨h4, h8⟩, h5.1, fun u => absurd u f1, fun _ => ⟨W, hw, f2, h6, h7⟩⟩, by rw [h1]; exact h2⟩
end XEA
