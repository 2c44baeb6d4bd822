section
section
variable {G : mG} {d z m U Ab Be C Ab0 Be0 C0 t s c p O P K : Nat} {M0 M M' M1 M2 : mM} {S R : Nat → Prop}
/-- what sets, stamps, met values and calls hold is the same -/
def mtq (m : Nat) (M M' : mM) : Prop := ∀ b, b = m + 2 ∨ (m + 5 ≤ b ∧ b ≤ m + 9) → mI M' b = mI M b
theorem mtq.refl {m : Nat} {M : mM} : mtq m M M := fun _ _ => rfl
theorem mtq.trans {m : Nat} {M M1 M2 : mM} (h : mtq m M M1) (k : mtq m M1 M2) : mtq m M M2 := fun b hb => (k b hb).trans (h b hb)
theorem mtq.mtb {m : Nat} {M M' : mM} (h : mtq m M M') : mtb m M M' := fun b h1 h2 => h b (Or.inr ⟨h1, h2⟩)
theorem mtq.fi {m : Nat} {M M' : mM} (f : FI (fun b => b = m) M M') : mtq m M M' := fun b hb => f.2.2.2.2.2.2 b (show ¬ b = m by first | rfl | omega)
theorem mtq.abv {z m U Ab0 Be0 C0 t c j : Nat} {M0 M M1 : mM} {x : Int} (h : MS M0 z m U Ab0 Be0 C0 M t c) (e1 : M1 = mUI M (mR M m 6) j x) : mtq m M M1 := fun b hb => by
  obtain ⟨Ab, Be, C, -, hk, -⟩ := h
  obtain ⟨sA, sB, sne, sz⟩ := hk.2.2.2.2.2.1
  have r6 := hk.2.1.2.2.1
  have f1 : FI (fun b => b = mR M m 6) M M1 := by rw [e1]; exact FI.ui rfl
  exact f1.2.2.2.2.2.2 b (show ¬ b = mR M m 6 by first | rfl | omega)
theorem mtq.val {z m U Ab0 Be0 C0 t c j : Nat} {M0 M M1 M2 : mM} {x y : Int} (h : MS M0 z m U Ab0 Be0 C0 M t c) (e1 : M1 = mUI M (mR M m 6) j x) (e2 : M2 = mUI M1 (mR M1 m 7) j y) : mtq m M M2 := fun b hb => by
  obtain ⟨Ab, Be, C, -, hk, -⟩ := id h
  obtain ⟨sA, sB, sne, sz⟩ := hk.2.2.2.2.2.1
  have r7 := hk.2.1.2.2.2.1
  have r1 : mR M1 m 7 = mR M m 7 := by rw [e1]; rfl
  have f2 : FI (fun b => b = mR M1 m 7) M1 M2 := by rw [e2]; exact FI.ui rfl
  rw [f2.2.2.2.2.2.2 b (show ¬ b = mR M1 m 7 by first | rfl | omega)]
  exact mtq.abv h e1 b hb
/-- below the t-th value the pile is the same -/
def plq (M M' : mM) (m t : Nat) : Prop := ∀ j, j < t → mI M' (mR M' m 6) j = mI M (mR M m 6) j ∧ mI M' (mR M' m 7) j = mI M (mR M m 7) j
/-- the t-th value is x over y -/
def ptq (M : mM) (m t : Nat) (x y : Int) : Prop := mI M (mR M m 6) t = x ∧ mI M (mR M m 7) t = y
theorem plq.refl : plq M M m t := fun _ _ => ⟨rfl, rfl⟩
theorem plq.trans (h : plq M M1 m t) (k : plq M1 M2 m t) : plq M M2 m t := fun j hj => ⟨by rw [(k j hj).1, (h j hj).1], by rw [(k j hj).2, (h j hj).2]⟩
theorem plq.mono {t' : Nat} (h : plq M M' m t) (ht : t' ≤ t) : plq M M' m t' := fun j hj => h j (by omega)
theorem plq.pt {x y : Int} {j : Nat} (h : plq M M' m t) (hj : j < t) (k : ptq M m j x y) : ptq M' m j x y := ⟨by rw [(h j hj).1]; exact k.1, by rw [(h j hj).2]; exact k.2⟩
/-- only the machine's own cell has changed -/
theorem plq.fi (f : FI (fun b => b = m) M M') (h : m ≠ mR M m 6 ∧ m ≠ mR M m 7) : plq M M' m t := fun j _ => by
  rw [f.2.2.1, f.2.2.2.2.2.2 _ (fun u => h.1 u.symm), f.2.2.2.2.2.2 _ (fun u => h.2 u.symm)]
  exact ⟨rfl, rfl⟩
end
end
