/-! The reference: enabled, to its end. -/
section ENB3
variable {G : mG} {d a g T R W C Z n L w k : Nat} {M M2 M3 : mM} {E : Eg9} {tg mul : Int} {B : Nat → Nat}
theorem XD.le {Ln : Nat} (h : XD M a g n W L w Ln B) : L ≤ 4096 := by
  have := h.mono 0 L (by omega) (Nat.le_refl _)
  have := h.2.2.2.2.2.1
  have := h.2.1.2
  omega
theorem sm_bd {f : Nat → Int} {c : Int} : ∀ (m : Nat), (∀ t, t < m → 0 ≤ f t ∧ f t ≤ c) → 0 ≤ sm f m ∧ sm f m ≤ m * c
  | 0, _ => ⟨Int.le_refl 0, by show (0 : Int) ≤ ((0 : Nat) : Int) * c; rw [show ((0 : Nat) : Int) = 0 from rfl, Int.zero_mul]; exact Int.le_refl 0⟩
  | m + 1, h => by
    have a := sm_bd m (fun t ht => h t (by omega))
    have b := h m (by omega)
    refine ⟨?_, ?_⟩
    · show 0 ≤ sm f m + f m
      omega
    · show sm f m + f m ≤ ((m + 1 : Nat) : Int) * c
      rw [show ((m + 1 : Nat) : Int) * c = (m : Int) * c + c by rw [Int.natCast_add, Int.add_mul]; show (m : Int) * c + 1 * c = _; rw [Int.one_mul]]
      omega
theorem en_stop {c p : Int} (h : eB M a g T R W C Z E tg n L w B M2) (hc : c ≠ 0) (q : Mv (fun _ => False) (fun x => x = a) M2 a M3 ∧ mI M3 a 16 = c ∧ mI M3 a 17 = p ∧ ∀ i, i ≠ 16 → i ≠ 17 → mI M3 a i = mI M2 a i) : enQ M a g T R W C Z E tg n L k B M3 := by
  obtain ⟨x1, gg, en, xd, t107, t108⟩ := h
  have w2 := gg.2.1
  have hg := gg.2.2.1.2
  have no : ∀ q : Nat, False → q ∈ nums a := fun _ z => z.elim
  have F : xF M2 a M3 := xF.mk w2 q.1 (fun _ z => z.elim) (fun x z => Or.inl z) (fun i i1 i2 _ _ _ => q.2.2.2 i i1 i2)
  have gs := F.gs w2 hg
  have c7 := (q.1.cellL w2 no (offx (a := a) (o := 107) (by decide)) (by omega)).1
  have c8 := (q.1.cellL w2 no (offx (a := a) (o := 108) (by decide)) (by omega)).1
  exact ⟨x1.trans F, gg.gs q.1.1 q.1.2.1 (by rw [q.1.rfl_a w2 no]) gs, en.mv w2 q.1 no gs (fun x z => by omega), by rw [c7]; exact t107, fun k' _ => by rw [c8, t108], Or.inl (by rw [q.2.1]; exact hc)⟩
end ENB3
