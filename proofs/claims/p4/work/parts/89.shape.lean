/-! The reference: its shape stays. -/
section WD
variable {M M' : mM} {a p : Nat} {S : Nat → Prop}
theorem pl_same (hz : a + 21192 ≤ mZ M) (hk : ∀ x, x < mZ M → mK M' x = mK M x) (hn : ∀ x, x < mZ M → mN M' x = mN M x) (hr : mR M' a = mR M a) (h1 : mR M' (a + 13) = mR M (a + 13)) (h2 : mR M' (a + 49) = mR M (a + 49)) : Pl M a → Pl M' a := by
  unfold Pl Gp
  simp (disch := omega) only [hk, hn, hr, h1, h2]
  exact id
theorem Wd.nu (h : Wd M a) (hp : p ∈ nums a) : Nu M p := (h.2.1 p hp).1
theorem Wd.bd (h : Wd M a) (hp : p ∈ nums a) : cp M p ≤ Bd a p := (h.2.1 p hp).2.2
theorem bd_lo : 65536 ≤ Bd a p := by unfold Bd; split <;> omega
theorem bd_hi (h : p = a + 91 ∨ p = a + 93 ∨ p = a + 95 ∨ p = a + 99) : Bd a p = 131072 := if_pos h
theorem Wd.arr (h : Wd M a) (hp : p ∈ nums a) : mR M p 0 ∉ nums a ∧ (mR M p 0 = p + 1 ∨ a + 21192 ≤ mR M p 0) := by
  refine ⟨fun w => ?_, (h.2.1 p hp).2.1⟩
  rcases (h.2.1 p hp).2.1 with q | q
  · exact (nums_in hp).2.2 (by rw [← q]; exact w)
  · have := nums_in w
    omega
/-- the same list, with the same numbers -/
def sameN (M M' : mM) (q : Nat) : Prop := ln M' q = ln M q ∧ (∀ j, nt M' q j = nt M q j) ∧ cp M' q = cp M q ∧ mR M' q = mR M q
theorem sameN.refl {q : Nat} : sameN M M q := ⟨rfl, fun _ => rfl, rfl, rfl⟩
theorem sameN.trans {M'' : mM} {q : Nat} (h : sameN M M' q) (k : sameN M' M'' q) : sameN M M'' q :=
  ⟨k.1.trans h.1, fun j => (k.2.1 j).trans (h.2.1 j), k.2.2.1.trans h.2.2.1, k.2.2.2.trans h.2.2.2⟩
theorem Wd.one (h : Wd M a) (hp : p ∈ nums a) (f : FN (fun x => x = p) S M M') (hN : Nu M' p) (hB : cp M' p ≤ Bd a p) (hS : ∀ q, q ∈ nums a → q ≠ p → ¬ S q ∧ ¬ S (mR M q 0)) : Wd M' a ∧ ∀ q, q ∈ nums a → q ≠ p → sameN M M' q := by
  obtain ⟨h1, h2, h3, h4⟩ := id h
  have hother : ∀ q, q ∈ nums a → q ≠ p → Nu M' q ∧ sameN M M' q := fun q hq hne => by
    have aq := h.arr hq
    have ap := h.arr hp
    have a := (h.nu hq).fn f hne (fun r w => by rw [w]; exact h3 q p hq hp hne) (fun w => aq.1 (by rw [w]; exact hp)) (fun r w e => by rw [w] at e; exact ap.1 (by rw [← e]; exact hq)) (hS q hq hne).1 (hS q hq hne).2
    exact ⟨a.1, a.2.1, a.2.2.1, a.2.2.2.1, a.2.2.2.2⟩
  obtain ⟨⟨f1, f0⟩, f2, f3, f4, f5⟩ := f
  have hpi := nums_in hp
  have o13 : a + 13 ≠ p := fun w => by
    obtain ⟨o, w1, w2⟩ := nums_off.1 hp
    have e : o = 13 := by omega
    rw [e] at w1
    exact absurd w1 (by decide)
  have o49 : a + 49 ≠ p := fun w => by
    obtain ⟨o, w1, w2⟩ := nums_off.1 hp
    have e : o = 49 := by omega
    rw [e] at w1
    exact absurd w1 (by decide)
  refine ⟨⟨pl_same h4 (fun x hx => (f2 x hx).1) (fun x hx => (f2 x hx).2) (f3 a (by omega) (by omega)) (f3 _ (by omega) o13) (f3 _ (by omega) o49) h1, fun q hq => ?_, fun q r hq hr hne => ?_, by omega⟩, fun q hq hne => (hother q hq hne).2⟩
  · by_cases z : q = p
    · subst z
      refine ⟨hN, ?_, hB⟩
      rcases f5 q rfl with w | w
      · rw [w]; exact (h2 q hq).2.1
      · exact Or.inr (by omega)
    · refine ⟨(hother q hq z).1, ?_, by rw [(hother q hq z).2.2.2.1]; exact (h2 q hq).2.2⟩
      rw [(hother q hq z).2.2.2.2]
      exact (h2 q hq).2.1
  · have low : ∀ t, t ∈ nums a → t ≠ p → mR M' t 0 = mR M t 0 ∧ mR M t 0 < mZ M := fun t ht z => ⟨by rw [(hother t ht z).2.2.2.2], (h.nu ht).2.2.1.2⟩
    by_cases z : q = p
    · have zr : r ≠ p := fun w => hne (z.trans w.symm)
      have lr := low r hr zr
      rcases f5 q z with w | w
      · rw [w, lr.1]; exact h3 q r hq hr hne
      · omega
    · have lq := low q hq z
      by_cases zr : r = p
      · rcases f5 r zr with w | w
        · rw [w, lq.1]; exact h3 q r hq hr hne
        · omega
      · have lr := low r hr zr
        rw [lq.1, lr.1]
        exact h3 q r hq hr hne
/-- only numbers have changed, of no list -/
theorem Wd.fi (h : Wd M a) (f : FI S M M') (hS : ∀ q, q ∈ nums a → ¬ S q ∧ ¬ S (mR M q 0)) : Wd M' a ∧ ∀ q, q ∈ nums a → sameN M M' q := by
  have k0 := (h.nu (p := a + 1) (nums_o (by decide))).fn f.fn (fun q => q) (fun q w => w.elim) (fun q => q) (fun q w => w.elim) (hS _ (nums_o (by decide))).1 (hS _ (nums_o (by decide))).2
  have hone := h.one (p := a + 1) (S := S) (nums_o (by decide)) (f.fn.mono (P' := fun x => x = a + 1) (fun p q => q.elim) (fun x q => q) (fun p q => by have := h.2.2.2; omega)) (by
    have k := (h.nu (p := a + 1) (nums_o (by decide))).fn f.fn (fun q => q) (fun q w => w.elim) (fun q => q) (fun q w => w.elim) (hS _ (nums_o (by decide))).1 (hS _ (nums_o (by decide))).2
    exact k.1) (by rw [k0.2.2.2.1]; exact h.bd (nums_o (by decide))) (fun q hq _ => hS q hq)
  refine ⟨hone.1, fun q hq => ?_⟩
  have k := (h.nu hq).fn f.fn (fun q => q) (fun q w => w.elim) (fun q => q) (fun q w => w.elim) (hS q hq).1 (hS q hq).2
  exact ⟨k.2.1, k.2.2.1, k.2.2.2.1, k.2.2.2.2⟩
/-- one list's length has been set -/
theorem Wd.set (h : Wd M a) (hp : p ∈ nums a) {v : Int} (h0 : 0 ≤ v) (h1 : v ≤ ln M p) (e : M' = mUI M p 1 v) : Wd M' a ∧ FI (fun y => y = p) M M' ∧ ln M' p = v ∧ (∀ j, nt M' p j = nt M p j) ∧ cp M' p = cp M p ∧ ∀ q, q ∈ nums a → q ≠ p → sameN M M' q := by
  obtain ⟨a1, a2, a3, a4, a5⟩ := nu_set (h.nu hp) h0 h1 e
  have k := h.one (S := fun y => y = p) hp (a2.fn.mono (P' := fun x => x = p) (fun p q => q.elim) (fun x q => q) (fun q w => by rw [w]; exact (h.nu hp).2.2.1.1)) a1 (by rw [a5]; exact h.bd hp) (fun q hq hne => ⟨hne, fun w => (h.arr hq).1 (by rw [w]; exact hp)⟩)
  exact ⟨k.1, a2, a3, a4, a5, k.2⟩
theorem Wd.take (h : Wd M a) (hp : p ∈ nums a) {x : Int} (t : tkQ M p x M') : Wd M' a ∧ ∀ q, q ∈ nums a → q ≠ p → sameN M M' q := by
  obtain ⟨t1, t2, t3, -⟩ := t
  exact h.one (S := fun y => y = p) hp (t3.fn.mono (P' := fun x => x = p) (fun p q => q.elim) (fun x q => q) (fun q w => by rw [w]; exact (h.nu hp).2.2.1.1)) t2 (by rw [show cp M' p = cp M p by unfold cp; rw [t3.2.2.1, t3.2.1]]; exact h.bd hp) (fun q hq hne => ⟨hne, fun w => (h.arr hq).1 (by rw [w]; exact hp)⟩)
theorem Wd.add (h : Wd M a) (hp : p ∈ nums a) {v : Int} {B : Nat} (t : adB B M p v M') (hB : 2 * B ≤ Bd a p) : Wd M' a ∧ RmL (nums a) M M' ∧ ∀ q, q ∈ nums a → q ≠ p → sameN M M' q := by
  obtain ⟨t1, t2, t3, t4, t5, t6, t7, t8⟩ := t
  have k := h.one (S := fun _ => False) hp t3 t2 (by rcases t8 with u | u; · rw [u]; exact h.bd hp
                                                     · omega) (fun q hq hne => ⟨fun w => w, fun w => w⟩)
  refine ⟨k.1, ?_, k.2⟩
  have s1 := psum_one (f := cp M) (g := cp M') (nums a) nums_nodup hp (fun q hq hne => (k.2 q hq hne).2.2.1)
  have s2 := psum_one (f := fun q => cp M q / 16) (g := fun q => cp M' q / 16) (nums a) nums_nodup hp (fun q hq hne => by show cp M' q / 16 = cp M q / 16; rw [(k.2 q hq hne).2.2.1])
  have s2' : psum (fun q => cp M' q / 16) (nums a) + cp M p / 16 = psum (fun q => cp M q / 16) (nums a) + cp M' p / 16 := s2
  exact ⟨by omega, by omega⟩
end WD
