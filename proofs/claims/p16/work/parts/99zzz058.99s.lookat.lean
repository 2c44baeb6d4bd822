/-! The reference: looking at a node. -/
section LA
variable {G : mG} {d a N g T K n L : Nat} {M M2 M4 : mM}
/-- the type of a node, from its parts' types: 1 a truth, 0 a number -/
def tyr (s : Int) (k : Nat) (u : Nat → Int) (t : Int) : Prop := if s = 29 ∨ s = 30 ∨ s = 31 then (∀ j, j < k → u j = 1) ∧ t = 1 else if s = 18 ∨ s = 23 then u 0 = u 1 ∧ t = 1 else if s = 32 then u 0 = 1 ∧ u 1 = t ∧ u 2 = t else (∀ j, j < k → u j = 0) ∧ t = if 19 ≤ s ∧ s ≤ 22 then 1 else 0
def tyn (w : Int → Int) (s v : Int) (k : Nat) (u : Nat → Int) (t : Int) : Prop := if s = 1 then t = w v else if s = 2 then t = 0 else if s = 12 ∨ s = 13 then t = 1 else tyr s k u t
/-- what becomes of the names -/
def laE (co : Int) (M M2 : mM) (a g n k : Nat) (u : Nat → Int) (t : Int) (M3 : mM) : Prop := mI M3 a 16 ≠ 0 ∨ (mI M3 a 16 = mI M2 a 16 ∧ (so M2 g n = 1 → nmr co M g (va M3 g n)) ∧ (∀ k, (k ≠ n ∨ so M2 g n ≠ 1) → va M3 g k = va M2 g k) ∧ tyn (tn M g) (so M2 g n) (va M3 g n) k u t)
/-- how many parts a node has, as the program counts them -/
def pks (nm : Int → Prop) (M : mM) (g T n k : Nat) : Prop := (k = 0 ∧ fp M g n = -1 ∧ (so M g n = 1 ∨ so M g n = 2 ∨ so M g n = 12 ∨ so M g n = 13)) ∨ (1 ≤ k ∧ k ≤ 30000 ∧ ari (so M g n) k ∧ fp M g n = ((n + 1 : Nat) : Int) ∧ ∃ f e : Nat, e ≤ T ∧ Tn nm M g f k (n + 1) e)
theorem s_MM_parts {nm : Int → Prop} {k : Nat} (h : LO M a g N T K M2) (hn : n < T) (hk : pks nm M2 g T n k) : Ci G y_MM_parts (d + 1) [vr a, vi n] M2 (fun r M' => M' = M2 ∧ r = k) := by
  obtain ⟨hO, hw, -, hd, h10, hg, -, hT⟩ := id h.2.1
  have w := hw.1.1
  have gp := w.gp hg
  have r4 : mR M2 g 4 = g + 9 := gp.2.1.2.2.2.2.1
  have u9 := w.nu (tL_in (a := a) (q := g + 9) hg (tLk9 g))
  have l9 := hd (g + 9) (by first | exact tLk9 g | omega)
  refine k_MM_parts hO (i32s (by omega) (by omega)) ?_
  rw [h10, r4]
  refine ⟨w.1.1, gp.1, u9.1, (s_MN_at hO u9 (by omega)).mono (fun z M1 e1 => ?_)⟩
  obtain ⟨e1, hz⟩ := e1
  subst e1
  refine ⟨by rw [hz]; exact (hO _ _).1, hO, ?_⟩
  rcases hk with ⟨k0, k1, -⟩ | ⟨k0, k1, k2, k3, f, e, k4, k5⟩
  · have : z = -1 := hz.trans k1
    rw [this]
    exact k_MM_parts_14 hO ⟨by omega, by omega⟩ (i32s (by omega) (by omega)) ⟨fun _ => ⟨rfl, by omega⟩, fun q => by omega⟩
  · have : z = ((n + 1 : Nat) : Int) := hz.trans k3
    rw [this]
    have := s_pt14 (G := G) (d := d) hO w hg h10 hd (by omega) k f (n + 1) e 0 k0 k5 k4 (by omega) (by omega)
    rw [show (0 : Int) + (k : Int) = (k : Int) by omega] at this
    exact this
end LA
