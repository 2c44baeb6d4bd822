/-! The reference: what a call may change. -/
section FRR
variable {a : Nat} {M M' M2 : mM} {P S : Nat → Prop} {Nt9 : Int}
/-- the reference's own cells -/
def own (M : mM) (a x : Nat) : Prop := (a ≤ x ∧ x ≤ a + 21191) ∨ ∃ q, q ∈ nums a ∧ x = mR M q 0
def FR (M : mM) (a : Nat) (M' : mM) : Prop := mZ M ≤ mZ M' ∧ (∀ x, x < mZ M → mK M' x = mK M x ∧ mN M' x = mN M x) ∧ (∀ x, x < mZ M → ¬ own M a x → mR M' x = mR M x ∧ mI M' x = mI M x ∧ mL M' x = mL M x) ∧ (∀ q, q ∈ nums a → mR M' q 0 = mR M q 0 ∨ mZ M ≤ mR M' q 0) ∧ RmL (nums a) M M'
theorem FR.trans (h : FR M a M') (k : FR M' a M2) : FR M a M2 := by
  obtain ⟨h1, h2, h3, h4, h5⟩ := h
  obtain ⟨k1, k2, k3, k4, k5⟩ := k
  refine ⟨by omega, fun x hx => ⟨(k2 x (by omega)).1.trans (h2 x hx).1, (k2 x (by omega)).2.trans (h2 x hx).2⟩, fun x hx hn => ?_, fun q hq => ?_, h5.trans k5⟩
  · have a1 := h3 x hx hn
    have a2 := k3 x (by omega) (fun z => hn (by
      rcases z with z | ⟨q, hq, e⟩
      · exact Or.inl z
      · rcases h4 q hq with y | y
        · exact Or.inr ⟨q, hq, e.trans y⟩
        · omega))
    exact ⟨a2.1.trans a1.1, a2.2.1.trans a1.2.1, a2.2.2.trans a1.2.2⟩
  · rcases k4 q hq with y | y
    · rw [y]; exact h4 q hq
    · exact Or.inr (by omega)
theorem FR.mv (m : Mv P S M a M') (hin : ∀ q, P q → q ∈ nums a) (hS : ∀ x, S x → a ≤ x ∧ x ≤ a + 21191) : FR M a M' := by
  obtain ⟨-, -, m3, m4, m5⟩ := m
  refine ⟨m4.1.1, m4.2.1, fun x hx hn => ?_, fun q hq => ?_, m3⟩
  · have np : ¬ P x := fun z => hn (Or.inl (by have := nums_in (hin x z); omega))
    have r := m4.2.2.1 x hx np
    have c := m4.2.2.2.1 x hx np (fun p hp e => hn (Or.inr ⟨p, hin p hp, e⟩)) (fun z => hn (Or.inl (hS x z)))
    exact ⟨r, c.1, c.2⟩
  · by_cases z : P q
    · exact m4.2.2.2.2 q z
    · exact Or.inl (by rw [(m5 q hq z).2.2.2])
theorem psum_cg {f g : Nat → Nat} : ∀ (L : List Nat), (∀ p, p ∈ L → f p = g p) → psum f L = psum g L
  | [], _ => rfl
  | x :: L, h => by
    show f x + psum f L = g x + psum g L
    rw [h x List.mem_cons_self, psum_cg L (fun p hp => h p (List.mem_cons_of_mem _ hp))]
theorem FR.ur (h : ur M M' a) : FR M a M' := by
  have hs := fun {q} hq => h.sl (q := q) hq
  obtain ⟨h1, h2, h3, h4, h5, h6, h7⟩ := h
  refine ⟨by rw [h5]; exact Nat.le_refl _, fun x _ => by rw [h1, h2]; exact ⟨rfl, rfl⟩, fun x _ hn => ⟨h7 x (fun z => hn (Or.inl (by omega))), by rw [h3], by rw [h4]⟩, fun q hq => Or.inl (by rw [(hs hq).2.2.2]), ?_⟩
  have e1 : psum (cp M') (nums a) = psum (cp M) (nums a) := psum_cg _ (fun p hp => (hs hp).2.2.1)
  have e2 : psum (fun p => cp M' p / 16) (nums a) = psum (fun p => cp M p / 16) (nums a) := psum_cg _ (fun p hp => by rw [(hs hp).2.2.1])
  unfold RmL
  rw [e1, e2, h5, h6]
  exact ⟨Nat.le_refl _, Nat.le_refl _⟩
theorem FR.fi (f : FI S M M') (hS : ∀ x, S x → a ≤ x ∧ x ≤ a + 21191) : FR M a M' := by
  obtain ⟨h1, h2, h3, h4, h5, h6, h7⟩ := id f
  exact ⟨by rw [h5]; exact Nat.le_refl _, fun x _ => by rw [h1, h2]; exact ⟨rfl, rfl⟩, fun x _ hn => ⟨by rw [h3], h7 x (fun z => hn (Or.inl (hS x z))), by rw [h4]⟩, fun q _ => Or.inl (by rw [h3]), RmL.fi f⟩
/-- four characters more -/
def f4 (c : Nat → Int) (n : Nat) (l : Int) : Nat → Int := fun j => if j < n then c j else byt l (j - n)
/-- twenty characters more -/
def fdc (c : Nat → Int) (n : Nat) (l1 l2 l3 l4 l5 : Int) : Nat → Int := f4 (f4 (f4 (f4 (f4 c n l1) (n + 4) l2) (n + 8) l3) (n + 12) l4) (n + 16) l5
/-- a tape: how many characters, and which -/
abbrev tG9 : Type := (Nat → Int) × tI9
abbrev tP9 : Type := Int × tG9
def z9 (i9 : tI9) : tP9 := (0, fun _ => 0, i9)
def Tpl (Nt9 : tP9) (M : mM) (q : Nat) : Prop := ln M q = Nt9.1 ∧ Nt9.1 ≤ 16384 ∧ ∀ j : Nat, (j : Int) < Nt9.1 → nt M q j = Nt9.2.1 j
theorem Tpl.sm {Nt9 : tP9} {q : Nat} (h : Tpl Nt9 M q) (s : sameN M M' q) : Tpl Nt9 M' q := ⟨by rw [s.1]; exact h.1, h.2.1, fun j hj => by rw [s.2.1]; exact h.2.2 j hj⟩
theorem Tpl.nil {q : Nat} {c : tG9} (h : ln M q = 0) : Tpl (0, c) M q := ⟨h, (by show (0 : Int) ≤ 16384; decide), fun j hj => absurd hj (by show ¬ ((j : Int) < 0); omega)⟩
/-- the reference between two calls -/
def RI0 (Nt9 : tP9) (M : mM) (a : Nat) : Prop := mOk M ∧ Wd M a ∧ (Tpl Nt9 M (mR M a 1) ∧ ln M (mR M a 2) ≤ 16384) ∧ RX Nt9.2.2 M a (mR M a 9)
theorem Wd.g9 (w : Wd M a) : mR M a 9 = a + 13 ∨ mR M a 9 = a + 49 := by
  rcases w.1.2.2.2.1 with y | y
  · exact Or.inl y.1
  · exact Or.inr y.1
theorem Wd.g10 (w : Wd M a) : (mR M a 10 = a + 13 ∨ mR M a 10 = a + 49) ∧ (mR M a 9 = a + 13 ∧ mR M a 10 = a + 49 ∨ mR M a 9 = a + 49 ∧ mR M a 10 = a + 13) := by
  have z := w.1.2.2.2.1
  refine ⟨?_, z⟩
  rcases z with y | y
  · exact Or.inr y.2
  · exact Or.inl y.2
end FRR
