/-! The reference: trees with types. -/
section TY
variable {a N g T K : Nat} {M M3 M4 : mM} {nm : Int → Prop} {w : Int → Int}
/-- as Tn, and u tells the brothers' types -/
def Ty (nm : Int → Prop) (w : Int → Int) (M : mM) (g : Nat) : Nat → Nat → Nat → Nat → (Nat → Int) → Prop
  | 0, _, _, _, _ => False
  | f + 1, md, n, e, u => if md = 0 then n < e ∧ (u 0 = 0 ∨ u 0 = 1) ∧ ((e = n + 1 ∧ fp M g n = -1 ∧ (so M g n = 1 ∨ so M g n = 2 ∨ so M g n = 12 ∨ so M g n = 13) ∧ (so M g n = 2 → 0 ≤ va M g n ∧ va M g n < 1000000000) ∧ (so M g n = 1 → nm (va M g n)) ∧ tyn w (so M g n) (va M g n) 0 (fun _ => 0) (u 0)) ∨ ∃ (k : Nat) (c : Nat → Int), 1 ≤ k ∧ ari (so M g n) k ∧ fp M g n = ((n + 1 : Nat) : Int) ∧ Ty nm w M g f k (n + 1) e c ∧ tyn w (so M g n) (va M g n) k c (u 0))
    else if md = 1 then np M g n = -1 ∧ Ty nm w M g f 0 n e u else ∃ m : Nat, np M g n = (m : Int) ∧ Ty nm w M g f 0 n m u ∧ Ty nm w M g f (md - 1) m e (fun j => u (j + 1))
theorem Ty.tn : ∀ {f md n e : Nat} {u : Nat → Int}, Ty nm w M g f md n e u → Tn nm M g f md n e := by
  intro f
  induction f with
  | zero => intro md n e u h; exact h.elim
  | succ f ih =>
    intro md n e u h
    rw [Ty] at h
    rw [Tn]
    by_cases c0 : md = 0
    · rw [if_pos c0] at h ⊢
      obtain ⟨h1, -, h2⟩ := h
      refine ⟨h1, ?_⟩
      rcases h2 with ⟨b1, b2, b3, b4, b5, -⟩ | ⟨k, c, b1, b2, b3, b4, -⟩
      · exact Or.inl ⟨b1, b2, b3, b4, b5⟩
      · exact Or.inr ⟨k, b1, b2, b3, ih b4⟩
    · rw [if_neg c0] at h ⊢
      by_cases c1 : md = 1
      · rw [if_pos c1] at h ⊢
        exact ⟨h.1, ih h.2⟩
      · rw [if_neg c1] at h ⊢
        obtain ⟨m, q1, q2, q3⟩ := h
        exact ⟨m, q1, ih q2, ih q3⟩
theorem Ty.cg : ∀ {f md n e : Nat} {u v : Nat → Int}, Ty nm w M g f md n e u → (∀ j, j < md + (1 - md) → v j = u j) → Ty nm w M g f md n e v := by
  intro f
  induction f with
  | zero => intro md n e u v h; exact h.elim
  | succ f ih =>
    intro md n e u v h hv
    rw [Ty] at h ⊢
    have h0 := hv 0 (by omega)
    by_cases c0 : md = 0
    · rw [if_pos c0] at h ⊢
      rw [h0]
      exact h
    · rw [if_neg c0] at h ⊢
      by_cases c1 : md = 1
      · rw [if_pos c1] at h ⊢
        exact ⟨h.1, ih h.2 (fun j hj => hv j (by omega))⟩
      · rw [if_neg c1] at h ⊢
        obtain ⟨m, q1, q2, q3⟩ := h
        exact ⟨m, q1, ih q2 (fun j hj => hv j (by omega)), ih q3 (fun j hj => hv (j + 1) (by omega))⟩
theorem Ty.fr : ∀ {f md n e : Nat} {u : Nat → Int}, Ty nm w M3 g f md n e u → (∀ k, n ≤ k → k < e → so M4 g k = so M3 g k ∧ va M4 g k = va M3 g k ∧ fp M4 g k = fp M3 g k) → (∀ k, n < k → k < e → np M4 g k = np M3 g k) → (md ≠ 0 → np M4 g n = np M3 g n) → Ty nm w M4 g f md n e u := by
  intro f
  induction f with
  | zero => intro md n e u h; exact h.elim
  | succ f ih =>
    intro md n e u h h1 h2 h3
    have hlt := h.tn.lt
    rw [Ty] at h ⊢
    by_cases c0 : md = 0
    · rw [if_pos c0] at h ⊢
      have k := h1 n (Nat.le_refl _) hlt
      rw [k.1, k.2.1, k.2.2]
      refine ⟨h.1, h.2.1, ?_⟩
      rcases h.2.2 with q | ⟨k', c, q1, q2, q3, q4, q5⟩
      · exact Or.inl q
      · have := q4.tn.lt
        exact Or.inr ⟨k', c, q1, q2, q3, ih q4 (fun x a b => h1 x (by omega) b) (fun x a b => h2 x (by omega) b) (fun _ => h2 (n + 1) (by omega) this), q5⟩
    · rw [if_neg c0] at h ⊢
      by_cases c1 : md = 1
      · rw [if_pos c1] at h ⊢
        exact ⟨by rw [h3 c0]; exact h.1, ih h.2 h1 h2 (fun z => absurd rfl z)⟩
      · rw [if_neg c1] at h ⊢
        obtain ⟨m, q1, q2, q3⟩ := h
        have l1 := q2.tn.lt
        have l2 := q3.tn.lt
        exact ⟨m, by rw [h3 c0]; exact q1, ih q2 (fun x a b => h1 x a (by omega)) (fun x a b => h2 x a (by omega)) (fun z => absurd rfl z), ih q3 (fun x a b => h1 x (by omega) b) (fun x a b => h2 x (by omega) b) (fun _ => h2 m l1 l2)⟩
theorem Ty.lo {f md n e : Nat} {u : Nat → Int} (h : Ty nm w M3 g f md n e u) (h3 : LO M a g N T K M3) (h4 : LO M a g N T K M4) (hv : ∀ k, n ≤ k → k < e → va M4 g k = va M3 g k) : Ty nm w M4 g f md n e u := by
  have s : ∀ k, so M4 g k = so M3 g k ∧ fp M4 g k = fp M3 g k ∧ np M4 g k = np M3 g k := fun k => by
    have a1 := h3.2.2.2.1 k
    have a2 := h4.2.2.2.1 k
    exact ⟨a2.1.trans a1.1.symm, a2.2.1.trans a1.2.1.symm, a2.2.2.trans a1.2.2.symm⟩
  exact h.fr (fun k b1 b2 => ⟨(s k).1, hv k b1 b2, (s k).2.1⟩) (fun k _ _ => (s k).2.2) (fun _ => (s n).2.2)
/-- more names, the same types -/
theorem Ty.mono {nm' : Int → Prop} {w' : Int → Int} (hn : ∀ v, nm v → nm' v ∧ w' v = w v) : ∀ {f md n e : Nat} {u : Nat → Int}, Ty nm w M g f md n e u → Ty nm' w' M g f md n e u := by
  intro f
  induction f with
  | zero => intro md n e u h; exact h.elim
  | succ f ih =>
    intro md n e u h
    rw [Ty] at h ⊢
    by_cases c0 : md = 0
    · rw [if_pos c0] at h ⊢
      refine ⟨h.1, h.2.1, ?_⟩
      rcases h.2.2 with ⟨b1, b2, b3, b4, b5, b6⟩ | ⟨k', c, q1, q2, q3, q4, q5⟩
      · refine Or.inl ⟨b1, b2, b3, b4, fun z => (hn _ (b5 z)).1, ?_⟩
        unfold tyn at b6 ⊢
        by_cases z : so M g n = 1
        · rw [if_pos z] at b6 ⊢
          rw [(hn _ (b5 z)).2]
          exact b6
        · rw [if_neg z] at b6 ⊢
          exact b6
      · refine Or.inr ⟨k', c, q1, q2, q3, ih q4, ?_⟩
        have z : so M g n ≠ 1 := fun z => by unfold ari at q2; omega
        unfold tyn at q5 ⊢
        rw [if_neg z] at q5 ⊢
        exact q5
    · rw [if_neg c0] at h ⊢
      by_cases c1 : md = 1
      · rw [if_pos c1] at h ⊢
        exact ⟨h.1, ih h.2⟩
      · rw [if_neg c1] at h ⊢
        obtain ⟨m, q1, q2, q3⟩ := h
        exact ⟨m, q1, ih q2, ih q3⟩
end TY
