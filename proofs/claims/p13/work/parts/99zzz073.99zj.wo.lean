/-! The reference: working out, a step. -/
section WO
variable {G : mG} {F : Prop} {d a g R W T : Nat} {M M2 M3 M4 : mM} {Q : mM → Prop} {E : Nat → Nat}
/-- the formulas' trees -/
def Fm (M : mM) (g R W T : Nat) (E : Nat → Nat) : Prop := ∀ r : Nat, r < R → mI M (g + 13) r ≠ 0 → ∃ n f : Nat, mI M (g + 15) r = (n : Int) ∧ E r ≤ T ∧ (∀ r' : Nat, r' < r → mI M (g + 13) r' ≠ 0 → E r' ≤ n) ∧ Ty (nme True M g r W) (tn M g) M g f 0 n (E r) (fun _ => tn M g r)
/-- a pair has been taken from the pile -/
def tkd (M2 : mM) (a X : Nat) (M4 : mM) : Prop := Mv (fun x => x = a + 99) (fun _ => False) M2 a M4 ∧ ln M4 (a + 99) = (X : Int) ∧ ∀ j, nt M4 (a + 99) j = nt M2 (a + 99) j
theorem s_wo2 {n X : Nat} {s : Int} (h : EO F M a g R W T M2) (h16 : mI M2 a 16 = 0) (hl : ln M2 (a + 99) = (X + 2 : Nat)) (hs : s = 0 ∨ s = 1 ∨ s = 2 ∨ s = 3) (e0 : nt M2 (a + 99) X = s) (e1 : nt M2 (a + 99) (X + 1) = (n : Int))
    (h0 : s = 0 → ∀ M4, tkd M2 a X M4 → Cv G y_MM_begin (d + 3) [vr a, vr g, vi n] M4 (fun M5 => mOk M5 ∧ h_MM_workOut_19 G (d + 3) a g M5 Q))
    (h1 : s = 1 → ∀ M4, tkd M2 a X M4 → Cv G y_MM_finish (d + 3) [vr a, vr g, vi n] M4 (fun M5 => mOk M5 ∧ h_MM_workOut_19 G (d + 3) a g M5 Q))
    (h2 : s = 2 → ∀ M4, tkd M2 a X M4 → Cv G y_MM_choose0 (d + 3) [vr a, vr g, vi n] M4 (fun M5 => mOk M5 ∧ h_MM_workOut_19 G (d + 3) a g M5 Q))
    (h3 : s = 3 → ∀ M4, tkd M2 a X M4 → n < 60 ∧ ∃ V : Nat, mI M4 a 23 = (V + 1 : Nat) ∧ V < 16400 ∧ ∀ M5 M6 M7, M5 = mUI M4 (a + 102) n 1 → M6 = mUL M5 (a + 103) n (mL M4 (a + 97) V) → M7 = mUL M6 (a + 104) n (mL M4 (a + 98) V) → mOk M7 ∧ h_MM_workOut_19 G (d + 3) a g M7 Q) : h_MM_workOut_19 G (d + 3) a g M2 Q := by
  have hO := h.1.1
  have w := h.1.2.1
  have hl' : mI M2 (a + 99) 1 = (X + 2 : Nat) := hl
  refine k_MM_workOut_19 hO ?_
  rw [r24w w, hl', h16]
  refine ⟨w.1.1, (w.nu n99).1, fun q => by omega, fun _ => (s_MN_take hO (w.nu n99) (by omega)).mono (fun x M3 t => ?_)⟩
  have m3 := mv_take w n99 t
  have w3 := m3.2.1
  obtain ⟨-, -, -, t1, t2, t3⟩ := t
  rw [hl] at t1 t3
  rw [show (((X + 2 : Nat) : Int) - 1).toNat = X + 1 by omega, e1] at t3
  rw [r24w w3]
  refine ⟨by rw [t3, ← e1]; exact (hO _ _).1, m3.1, w3.1.1, (w3.nu n99).1, (s_MN_take m3.1 (w3.nu n99) (by omega)).mono (fun y M4 t => ?_)⟩
  have m4 := mv_take w3 n99 t
  have w4 := m4.2.1
  obtain ⟨-, -, -, u1, u2, u3⟩ := t
  rw [t1] at u1 u3
  rw [show (((X + 2 : Nat) : Int) - 1 - 1).toNat = X by omega, t2, e0] at u3
  subst t3
  subst u3
  have tk : tkd M2 a X M4 := ⟨m3.trans m4, by rw [u1]; omega, fun j => by rw [u2, t2]⟩
  have go : ∀ M5, mOk M5 ∧ h_MM_workOut_19 G (d + 3) a g M5 Q → mOk M5 ∧ h_MM_workOut_138 G (d + 3) a g M5 Q := fun M5 z => ⟨z.1, k_MM_workOut_138 z.1 z.2⟩
  refine ⟨i32s (by omega) (by omega), m4.1, fun q => ⟨w4.1.1, (h0 q M4 tk).mono go⟩, fun q0 => ⟨fun q => ⟨w4.1.1, (h1 q M4 tk).mono go⟩, fun q1 => ⟨fun q => ⟨w4.1.1, (h2 q M4 tk).mono go⟩, fun q2 => ?_⟩⟩⟩
  obtain ⟨n60, V, hV, hVb, hk⟩ := h3 (by omega) M4 tk
  have B := w4.1.2.2.2.2.1.2.2.2.2.2.2
  have r21 : mR M4 a 21 = a + 97 := B.1
  have r22 : mR M4 a 22 = a + 98 := B.2.1
  have r26 : mR M4 a 26 = a + 102 := B.2.2.2.2.1
  have r27 : mR M4 a 27 = a + 103 := B.2.2.2.2.2.1
  have r28 : mR M4 a 28 = a + 104 := B.2.2.2.2.2.2
  obtain ⟨A97, A98, A101, A102, A103, A104⟩ := w4.1.2.2.2.2.2.2.2.1
  rw [r26]
  refine ⟨w4.1.1, A102.1, by rw [A102.2]; omega, fun M5 e5 => ?_⟩
  rw [Int.toNat_natCast] at e5
  have R5 : mR M5 = mR M4 := by rw [e5]; rfl
  have K5 : mK M5 = mK M4 := by rw [e5]; rfl
  have N5 : mN M5 = mN M4 := by rw [e5]; rfl
  have L5 : mL M5 = mL M4 := by rw [e5]; rfl
  have I5 : mI M5 a 23 = (V + 1 : Nat) := by rw [e5, mI_UI, if_neg (fun z => by omega)]; exact hV
  rw [R5, K5, N5, L5, I5, r21, r27, show ((V + 1 : Nat) : Int) - 1 = (V : Int) by omega, Int.toNat_natCast, Int.toNat_natCast]
  refine ⟨A97.1, by rw [A97.2]; omega, A103.1, by rw [A103.2]; omega, fun M6 e6 => ?_⟩
  have R6 : mR M6 = mR M4 := by rw [e6]; exact R5
  have K6 : mK M6 = mK M4 := by rw [e6]; exact K5
  have N6 : mN M6 = mN M4 := by rw [e6]; exact N5
  have I6 : mI M6 a 23 = (V + 1 : Nat) := by rw [e6]; exact I5
  have L6 : mL M6 (a + 98) = mL M4 (a + 98) := by
    funext k
    rw [e6, mL_UL, if_neg (fun z => by omega), L5]
  rw [R6, K6, N6, I6, r22, r28, show ((V + 1 : Nat) : Int) - 1 = (V : Int) by omega, Int.toNat_natCast, L6]
  refine ⟨A98.1, by rw [A98.2]; omega, A104.1, by rw [A104.2]; omega, fun M7 e7 => ?_⟩
  have := hk M5 M6 M7 e5 e6 e7
  exact k_MM_workOut_138 this.1 this.2
/-- a fault ends it -/
theorem s_wo_f (hX : ∀ M3, EO F M a g R W T M3 → mI M3 a 16 ≠ 0 → Q M3) (h : EO F M a g R W T M3) (k : mI M3 a 16 = 0 → h_MM_workOut_19 G (d + 3) a g M3 Q) : h_MM_workOut_19 G (d + 3) a g M3 Q := by
  by_cases z : mI M3 a 16 = 0
  · exact k z
  · have w := h.1.2.1
    refine k_MM_workOut_19 h.1.1 ?_
    rw [r24w w]
    exact ⟨w.1.1, (w.nu n99).1, fun _ => hX M3 h z, fun q => absurd (Or.inr z) q⟩
theorem ci_cg {n : Nat} (h : ∀ k, np M4 g k = np M g k) : ∀ j, ci M4 g n j = ci M g n j
  | 0 => rfl
  | j + 1 => by rw [ci, ci, ci_cg h j]; exact h _
/-- trees have been worked out -/
def woR (F : Prop) (M : mM) (a g R W T Lk V kk : Nat) (u : Nat → Int) (M2 M3 : mM) : Prop := EO F M a g R W T M3 ∧ mI M3 a 16 = 0 ∧ ln M3 (a + 99) = (Lk : Int) ∧ (∀ j, j < Lk → nt M3 (a + 99) j = nt M2 (a + 99) j) ∧ mI M3 a 23 = (V + kk : Nat) ∧ (∀ j, j < V → mL M3 (a + 97) j = mL M2 (a + 97) j ∧ mL M3 (a + 98) j = mL M2 (a + 98) j) ∧ ∀ j, j < kk → vok (u j) (mL M3 (a + 97) (V + j)) (mL M3 (a + 98) (V + j))
theorem nme.up {b : Nat} {v : Int} (h : nme F M g b W v) (hb : b ≤ R) : nme F M g R W v := by
  rcases h with ⟨h1, h2, h3⟩ | h
  · exact Or.inl ⟨h1, by omega, h3⟩
  · exact Or.inr h
theorem nme.tr {b : Nat} {v : Int} (h : nme True M g b W v) (hF : F) : nme F M g b W v := by
  rcases h with ⟨h1, h2, h3⟩ | h
  · exact Or.inl ⟨h1, h2, Or.inl hF⟩
  · exact Or.inr ⟨hF, h.2⟩
theorem nme.gs {b : Nat} {v : Int} (h : nme F M g b W v) (gs : gsame M a g M3) : nme F M3 g b W v := by
  unfold nme
  rw [gs.1]
  exact h
end WO
