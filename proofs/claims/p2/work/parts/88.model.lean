section
/-! The reference: its places; feed and end. -/
/-- where its lists lie -/
def nuO : List Nat := [1, 3, 5, 7, 9, 11, 14, 16, 18, 20, 22, 24, 43, 45, 47, 50, 52, 54, 56, 58, 60, 79, 81, 83, 85, 87, 89, 91, 93, 95, 99, 109, 111, 113, 115]
def nums (a : Nat) : List Nat := nuO.map (fun o => a + o)
/-- a game's places -/
def Gp (M : mM) (g : Nat) : Prop := mK M g = 16 ∧ (mR M g 0 = g + 1 ∧ mR M g 1 = g + 3 ∧ mR M g 2 = g + 5 ∧ mR M g 3 = g + 7 ∧ mR M g 4 = g + 9 ∧ mR M g 5 = g + 11 ∧ mR M g 7 = g + 13 ∧ mR M g 8 = g + 14 ∧ mR M g 9 = g + 15 ∧ mR M g 10 = g + 16 ∧ mR M g 11 = g + 17)
  ∧ (mR M g 13 = g + 18 ∧ mR M g 14 = g + 19 ∧ mR M g 15 = g + 20 ∧ mR M g 16 = g + 21 ∧ mR M g 19 = g + 22 ∧ mR M g 20 = g + 23 ∧ mR M g 21 = g + 24 ∧ mR M g 22 = g + 25 ∧ mR M g 23 = g + 26 ∧ mR M g 24 = g + 27 ∧ mR M g 25 = g + 28 ∧ mR M g 26 = g + 29 ∧ mR M g 27 = g + 30 ∧ mR M g 28 = g + 32 ∧ mR M g 29 = g + 34)
  ∧ ((mK M (g + 13) = 31 ∧ mN M (g + 13) = 60) ∧ (mK M (g + 14) = 31 ∧ mN M (g + 14) = 60) ∧ (mK M (g + 15) = 30 ∧ mN M (g + 15) = 60) ∧ (mK M (g + 16) = 33 ∧ mN M (g + 16) = 60) ∧ (mK M (g + 17) = 33 ∧ mN M (g + 17) = 60))
  ∧ ((mK M (g + 18) = 31 ∧ mN M (g + 18) = 12) ∧ (mK M (g + 19) = 30 ∧ mN M (g + 19) = 12) ∧ (mK M (g + 20) = 30 ∧ mN M (g + 20) = 12) ∧ (mK M (g + 21) = 30 ∧ mN M (g + 21) = 12))
  ∧ ((mK M (g + 22) = 31 ∧ mN M (g + 22) = 60) ∧ (mK M (g + 23) = 30 ∧ mN M (g + 23) = 60) ∧ (mK M (g + 24) = 30 ∧ mN M (g + 24) = 60) ∧ (mK M (g + 25) = 30 ∧ mN M (g + 25) = 60) ∧ (mK M (g + 26) = 30 ∧ mN M (g + 26) = 480) ∧ (mK M (g + 27) = 30 ∧ mN M (g + 27) = 480) ∧ (mK M (g + 28) = 30 ∧ mN M (g + 28) = 480) ∧ (mK M (g + 29) = 30 ∧ mN M (g + 29) = 480))
/-- the reference's places -/
def Pl (M : mM) (a : Nat) : Prop := mK M a = 14 ∧ ((mR M a 1 = a + 1 ∧ mR M a 2 = a + 3) ∨ (mR M a 1 = a + 3 ∧ mR M a 2 = a + 1)) ∧ (mR M a 3 = a + 5 ∧ mR M a 4 = a + 7 ∧ mR M a 5 = a + 9 ∧ mR M a 6 = a + 11) ∧ ((mR M a 9 = a + 13 ∧ mR M a 10 = a + 49) ∨ (mR M a 9 = a + 49 ∧ mR M a 10 = a + 13))
  ∧ (mR M a 13 = a + 85 ∧ mR M a 14 = a + 87 ∧ mR M a 15 = a + 89 ∧ mR M a 18 = a + 91 ∧ mR M a 19 = a + 93 ∧ mR M a 20 = a + 95 ∧ mR M a 21 = a + 97 ∧ mR M a 22 = a + 98 ∧ mR M a 24 = a + 99 ∧ mR M a 25 = a + 101 ∧ mR M a 26 = a + 102 ∧ mR M a 27 = a + 103 ∧ mR M a 28 = a + 104)
  ∧ (mR M a 31 = a + 105 ∧ mR M a 32 = a + 106 ∧ mR M a 33 = a + 107 ∧ mR M a 34 = a + 108 ∧ mR M a 35 = a + 109 ∧ mR M a 36 = a + 111 ∧ mR M a 37 = a + 113 ∧ mR M a 38 = a + 115 ∧ mR M a 39 = a + 117)
  ∧ (mR M a 41 = a + 21185 ∧ mR M a 42 = a + 21186 ∧ mR M a 43 = a + 21187 ∧ mR M a 44 = a + 21188 ∧ mR M a 45 = a + 21189 ∧ mR M a 46 = a + 21190 ∧ mR M a 47 = a + 21191)
  ∧ ((mK M (a + 97) = 33 ∧ mN M (a + 97) = 16400) ∧ (mK M (a + 98) = 33 ∧ mN M (a + 98) = 16400) ∧ (mK M (a + 101) = 30 ∧ mN M (a + 101) = 12) ∧ (mK M (a + 102) = 31 ∧ mN M (a + 102) = 60) ∧ (mK M (a + 103) = 33 ∧ mN M (a + 103) = 60) ∧ (mK M (a + 104) = 33 ∧ mN M (a + 104) = 60))
  ∧ ((mK M (a + 105) = 30 ∧ mN M (a + 105) = 6144) ∧ (mK M (a + 106) = 30 ∧ mN M (a + 106) = 512) ∧ (mK M (a + 107) = 30 ∧ mN M (a + 107) = 512) ∧ (mK M (a + 108) = 30 ∧ mN M (a + 108) = 512))
  ∧ ((mK M (a + 21185) = 30 ∧ mN M (a + 21185) = 4096) ∧ (mK M (a + 21186) = 33 ∧ mN M (a + 21186) = 4096) ∧ (mK M (a + 21187) = 33 ∧ mN M (a + 21187) = 4096) ∧ (mK M (a + 21188) = 30 ∧ mN M (a + 21188) = 12) ∧ (mK M (a + 21189) = 33 ∧ mN M (a + 21189) = 8) ∧ (mK M (a + 21190) = 33 ∧ mN M (a + 21190) = 8) ∧ (mK M (a + 21191) = 30 ∧ mN M (a + 21191) = 900))
  ∧ Gp M (a + 13) ∧ Gp M (a + 49)
/-- how much a list may hold -/
def Bd (a p : Nat) : Nat := if p = a + 91 ∨ p = a + 93 ∨ p = a + 95 ∨ p = a + 99 then 131072 else 65536
/-- the reference's shape -/
def Wd (M : mM) (a : Nat) : Prop := Pl M a ∧ (∀ p, p ∈ nums a → Nu M p ∧ (mR M p 0 = p + 1 ∨ a + 21192 ≤ mR M p 0) ∧ cp M p ≤ Bd a p) ∧ Apt (nums a) M ∧ a + 21192 ≤ mZ M
theorem nums_off {a p : Nat} : p ∈ nums a ↔ ∃ o, o ∈ nuO ∧ p = a + o := by
  unfold nums
  rw [List.mem_map]
  exact ⟨fun ⟨o, h1, h2⟩ => ⟨o, h1, h2.symm⟩, fun ⟨o, h1, h2⟩ => ⟨o, h1, h2.symm⟩⟩
theorem nums_lt : ∀ o ∈ nuO, 1 ≤ o ∧ o ≤ 115 ∧ o + 1 ∉ nuO := by decide
theorem nums_nodup {a : Nat} : (nums a).Nodup := by
  have h : nuO.Nodup := by decide
  exact List.Pairwise.map _ (fun x y h => by omega) h
theorem nums_in {a p : Nat} (h : p ∈ nums a) : a < p ∧ p ≤ a + 115 ∧ p + 1 ∉ nums a := by
  obtain ⟨o, h1, h2⟩ := nums_off.1 h
  have := nums_lt o h1
  refine ⟨by omega, by omega, fun w => ?_⟩
  obtain ⟨o', h3, h4⟩ := nums_off.1 w
  have e : o' = o + 1 := by omega
  rw [e] at h3
  exact this.2.2 h3
theorem nums_o {a o : Nat} (h : o ∈ nuO) : a + o ∈ nums a := nums_off.2 ⟨o, h, rfl⟩
end
section
/-! The reference: its shape stays. -/
section WD
variable {M M' : mM} {a p : Nat} {S : Nat → Prop}
theorem pl_same (hz : a + 21192 ≤ mZ M) (hk : ∀ x, x < mZ M → mK M' x = mK M x) (hn : ∀ x, x < mZ M → mN M' x = mN M x) (hr : mR M' a = mR M a) (h1 : mR M' (a + 13) = mR M (a + 13)) (h2 : mR M' (a + 49) = mR M (a + 49)) : Pl M a → Pl M' a := by
  unfold Pl Gp
  simp (disch := omega) only [hk, hn, hr, h1, h2]
  exact id
theorem Wd.nu (h : Wd M a) (hp : p ∈ nums a) : Nu M p := (h.2.1 p hp).1
theorem Wd.bd (h : Wd M a) (hp : p ∈ nums a) : cp M p ≤ Bd a p := (h.2.1 p hp).2.2
theorem bd_lo : 65536 ≤ Bd a p := by unfold Bd; split <;> omega
theorem bd_hi (h : p = a + 91 ∨ p = a + 93 ∨ p = a + 95 ∨ p = a + 99) : Bd a p = 131072 := if_pos h
theorem Wd.arr (h : Wd M a) (hp : p ∈ nums a) : mR M p 0 ∉ nums a ∧ (mR M p 0 = p + 1 ∨ a + 21192 ≤ mR M p 0) := by
  refine ⟨fun w => ?_, (h.2.1 p hp).2.1⟩
  rcases (h.2.1 p hp).2.1 with q | q
  · exact (nums_in hp).2.2 (by rw [← q]; exact w)
  · have := nums_in w
    omega
/-- the same list, with the same numbers -/
def sameN (M M' : mM) (q : Nat) : Prop := ln M' q = ln M q ∧ (∀ j, nt M' q j = nt M q j) ∧ cp M' q = cp M q ∧ mR M' q = mR M q
theorem sameN.refl {q : Nat} : sameN M M q := ⟨rfl, fun _ => rfl, rfl, rfl⟩
theorem sameN.trans {M'' : mM} {q : Nat} (h : sameN M M' q) (k : sameN M' M'' q) : sameN M M'' q :=
  ⟨k.1.trans h.1, fun j => (k.2.1 j).trans (h.2.1 j), k.2.2.1.trans h.2.2.1, k.2.2.2.trans h.2.2.2⟩
theorem Wd.one (h : Wd M a) (hp : p ∈ nums a) (f : FN (fun x => x = p) S M M') (hN : Nu M' p) (hB : cp M' p ≤ Bd a p) (hS : ∀ q, q ∈ nums a → q ≠ p → ¬ S q ∧ ¬ S (mR M q 0)) : Wd M' a ∧ ∀ q, q ∈ nums a → q ≠ p → sameN M M' q := by
  obtain ⟨h1, h2, h3, h4⟩ := id h
  have hother : ∀ q, q ∈ nums a → q ≠ p → Nu M' q ∧ sameN M M' q := fun q hq hne => by
    have aq := h.arr hq
    have ap := h.arr hp
    have a := (h.nu hq).fn f hne (fun r w => by rw [w]; exact h3 q p hq hp hne) (fun w => aq.1 (by rw [w]; exact hp)) (fun r w e => by rw [w] at e; exact ap.1 (by rw [← e]; exact hq)) (hS q hq hne).1 (hS q hq hne).2
    exact ⟨a.1, a.2.1, a.2.2.1, a.2.2.2.1, a.2.2.2.2⟩
  obtain ⟨⟨f1, f0⟩, f2, f3, f4, f5⟩ := f
  have hpi := nums_in hp
  have o13 : a + 13 ≠ p := fun w => by
    obtain ⟨o, w1, w2⟩ := nums_off.1 hp
    have e : o = 13 := by omega
    rw [e] at w1
    exact absurd w1 (by decide)
  have o49 : a + 49 ≠ p := fun w => by
    obtain ⟨o, w1, w2⟩ := nums_off.1 hp
    have e : o = 49 := by omega
    rw [e] at w1
    exact absurd w1 (by decide)
  refine ⟨⟨pl_same h4 (fun x hx => (f2 x hx).1) (fun x hx => (f2 x hx).2) (f3 a (by omega) (by omega)) (f3 _ (by omega) o13) (f3 _ (by omega) o49) h1, fun q hq => ?_, fun q r hq hr hne => ?_, by omega⟩, fun q hq hne => (hother q hq hne).2⟩
  · by_cases z : q = p
    · subst z
      refine ⟨hN, ?_, hB⟩
      rcases f5 q rfl with w | w
      · rw [w]; exact (h2 q hq).2.1
      · exact Or.inr (by omega)
    · refine ⟨(hother q hq z).1, ?_, by rw [(hother q hq z).2.2.2.1]; exact (h2 q hq).2.2⟩
      rw [(hother q hq z).2.2.2.2]
      exact (h2 q hq).2.1
  · have low : ∀ t, t ∈ nums a → t ≠ p → mR M' t 0 = mR M t 0 ∧ mR M t 0 < mZ M := fun t ht z => ⟨by rw [(hother t ht z).2.2.2.2], (h.nu ht).2.2.1.2⟩
    by_cases z : q = p
    · have zr : r ≠ p := fun w => hne (z.trans w.symm)
      have lr := low r hr zr
      rcases f5 q z with w | w
      · rw [w, lr.1]; exact h3 q r hq hr hne
      · omega
    · have lq := low q hq z
      by_cases zr : r = p
      · rcases f5 r zr with w | w
        · rw [w, lq.1]; exact h3 q r hq hr hne
        · omega
      · have lr := low r hr zr
        rw [lq.1, lr.1]
        exact h3 q r hq hr hne
/-- only numbers have changed, of no list -/
theorem Wd.fi (h : Wd M a) (f : FI S M M') (hS : ∀ q, q ∈ nums a → ¬ S q ∧ ¬ S (mR M q 0)) : Wd M' a ∧ ∀ q, q ∈ nums a → sameN M M' q := by
  have k0 := (h.nu (p := a + 1) (nums_o (by decide))).fn f.fn (fun q => q) (fun q w => w.elim) (fun q => q) (fun q w => w.elim) (hS _ (nums_o (by decide))).1 (hS _ (nums_o (by decide))).2
  have hone := h.one (p := a + 1) (S := S) (nums_o (by decide)) (f.fn.mono (P' := fun x => x = a + 1) (fun p q => q.elim) (fun x q => q) (fun p q => by have := h.2.2.2; omega)) (by
    have k := (h.nu (p := a + 1) (nums_o (by decide))).fn f.fn (fun q => q) (fun q w => w.elim) (fun q => q) (fun q w => w.elim) (hS _ (nums_o (by decide))).1 (hS _ (nums_o (by decide))).2
    exact k.1) (by rw [k0.2.2.2.1]; exact h.bd (nums_o (by decide))) (fun q hq _ => hS q hq)
  refine ⟨hone.1, fun q hq => ?_⟩
  have k := (h.nu hq).fn f.fn (fun q => q) (fun q w => w.elim) (fun q => q) (fun q w => w.elim) (hS q hq).1 (hS q hq).2
  exact ⟨k.2.1, k.2.2.1, k.2.2.2.1, k.2.2.2.2⟩
/-- one list's length has been set -/
theorem Wd.set (h : Wd M a) (hp : p ∈ nums a) {v : Int} (h0 : 0 ≤ v) (h1 : v ≤ ln M p) (e : M' = mUI M p 1 v) : Wd M' a ∧ FI (fun y => y = p) M M' ∧ ln M' p = v ∧ (∀ j, nt M' p j = nt M p j) ∧ cp M' p = cp M p ∧ ∀ q, q ∈ nums a → q ≠ p → sameN M M' q := by
  obtain ⟨a1, a2, a3, a4, a5⟩ := nu_set (h.nu hp) h0 h1 e
  have k := h.one (S := fun y => y = p) hp (a2.fn.mono (P' := fun x => x = p) (fun p q => q.elim) (fun x q => q) (fun q w => by rw [w]; exact (h.nu hp).2.2.1.1)) a1 (by rw [a5]; exact h.bd hp) (fun q hq hne => ⟨hne, fun w => (h.arr hq).1 (by rw [w]; exact hp)⟩)
  exact ⟨k.1, a2, a3, a4, a5, k.2⟩
theorem Wd.take (h : Wd M a) (hp : p ∈ nums a) {x : Int} (t : tkQ M p x M') : Wd M' a ∧ ∀ q, q ∈ nums a → q ≠ p → sameN M M' q := by
  obtain ⟨t1, t2, t3, -⟩ := t
  exact h.one (S := fun y => y = p) hp (t3.fn.mono (P' := fun x => x = p) (fun p q => q.elim) (fun x q => q) (fun q w => by rw [w]; exact (h.nu hp).2.2.1.1)) t2 (by rw [show cp M' p = cp M p by unfold cp; rw [t3.2.2.1, t3.2.1]]; exact h.bd hp) (fun q hq hne => ⟨hne, fun w => (h.arr hq).1 (by rw [w]; exact hp)⟩)
theorem Wd.add (h : Wd M a) (hp : p ∈ nums a) {v : Int} {B : Nat} (t : adB B M p v M') (hB : 2 * B ≤ Bd a p) : Wd M' a ∧ RmL (nums a) M M' ∧ ∀ q, q ∈ nums a → q ≠ p → sameN M M' q := by
  obtain ⟨t1, t2, t3, t4, t5, t6, t7, t8⟩ := t
  have k := h.one (S := fun _ => False) hp t3 t2 (by rcases t8 with u | u; · rw [u]; exact h.bd hp
                                                     · omega) (fun q hq hne => ⟨fun w => w, fun w => w⟩)
  refine ⟨k.1, ?_, k.2⟩
  have s1 := psum_one (f := cp M) (g := cp M') (nums a) nums_nodup hp (fun q hq hne => (k.2 q hq hne).2.2.1)
  have s2 := psum_one (f := fun q => cp M q / 16) (g := fun q => cp M' q / 16) (nums a) nums_nodup hp (fun q hq hne => by show cp M' q / 16 = cp M q / 16; rw [(k.2 q hq hne).2.2.1])
  have s2' : psum (fun q => cp M' q / 16) (nums a) + cp M p / 16 = psum (fun q => cp M q / 16) (nums a) + cp M' p / 16 := s2
  exact ⟨by omega, by omega⟩
end WD
end
section
/-! The reference: feed and end. -/
/-- a step of the reference: lists P have changed, and numbers of cells S -/
def Mv (P S : Nat → Prop) (M : mM) (a : Nat) (M' : mM) : Prop := mOk M' ∧ Wd M' a ∧ RmL (nums a) M M' ∧ FN P S M M' ∧ ∀ q, q ∈ nums a → ¬ P q → sameN M M' q
section MV
variable {P S P' S' : Nat → Prop} {M M1 M2 : mM} {a p : Nat}
theorem Mv.trans (h : Mv P S M a M1) (k : Mv P S M1 a M2) : Mv P S M a M2 :=
  ⟨k.1, k.2.1, h.2.2.1.trans k.2.2.1, h.2.2.2.1.trans k.2.2.2.1, fun q hq hp => (h.2.2.2.2 q hq hp).trans (k.2.2.2.2 q hq hp)⟩
theorem Mv.refl (hO : mOk M) (h : Wd M a) (hP : ∀ q, P q → q < mZ M) : Mv P S M a M :=
  ⟨hO, h, RmL.fi (S := fun _ => False) FI.refl, FN.refl hP, fun q _ _ => sameN.refl⟩
theorem Mv.mono (h : Mv P S M a M1) (hp : ∀ q, P q → P' q) (hs : ∀ x, S x → S' x) (h0 : ∀ q, P' q → q < mZ M) : Mv P' S' M a M1 :=
  ⟨h.1, h.2.1, h.2.2.1, h.2.2.2.1.mono hp hs h0, fun q hq hq' => h.2.2.2.2 q hq (fun w => hq' (hp q w))⟩
theorem Wd.lt (h : Wd M a) (hp : p ∈ nums a) : p < mZ M := (h.nu hp).2.2.1.1
theorem FN.drop (h : FN P S M M1) (hs : ∀ x, S x → P x) : FN P (fun _ => False) M M1 :=
  ⟨h.1, h.2.1, h.2.2.1, fun x hx hp hq _ => h.2.2.2.1 x hx hp hq (fun w => hp (hs x w)), h.2.2.2.2⟩
theorem mv_add {v : Int} (h : Wd M a) (hp : p ∈ nums a) (t : adQ M p v M1) : Mv (fun x => x = p) (fun _ => False) M a M1 := by
  obtain ⟨k1, k2, k3⟩ := h.add (B := 32768) hp t bd_lo
  exact ⟨t.1, k1, k2, t.2.2.1, fun q hq hne => k3 q hq hne⟩
theorem mv_addB {v : Int} (h : Wd M a) (hp : p ∈ nums a) (hb : p = a + 91 ∨ p = a + 93 ∨ p = a + 95 ∨ p = a + 99) (t : adB 65536 M p v M1) : Mv (fun x => x = p) (fun _ => False) M a M1 := by
  obtain ⟨k1, k2, k3⟩ := h.add hp t (by rw [bd_hi hb]; decide)
  exact ⟨t.1, k1, k2, t.2.2.1, fun q hq hne => k3 q hq hne⟩
theorem mv_set {v : Int} (hO : mOk M) (h : Wd M a) (hp : p ∈ nums a) (h0 : 0 ≤ v) (h1 : v ≤ ln M p) (e : M1 = mUI M p 1 v) : Mv (fun x => x = p) (fun _ => False) M a M1 ∧ ln M1 p = v ∧ (∀ j, nt M1 p j = nt M p j) ∧ cp M1 p = cp M p := by
  obtain ⟨k1, k2, k3, k4, k5, k6⟩ := h.set hp h0 h1 e
  have hN := (h.nu hp).2.2.2
  have o1 : mOk M1 := by rw [e]; exact mOk_UI hO ⟨by omega, by unfold ln at h1; omega⟩
  refine ⟨⟨o1, k1, RmL.fi k2, (k2.fn.mono (P' := fun x => x = p) (fun p q => q.elim) (fun x q => q) (fun q w => by rw [w]; exact h.lt hp)).drop (fun x w => w), fun q hq hne => k6 q hq hne⟩, k3, k4, k5⟩
theorem mv_take {x : Int} (h : Wd M a) (hp : p ∈ nums a) (t : tkQ M p x M1) : Mv (fun x => x = p) (fun _ => False) M a M1 := by
  obtain ⟨k1, k2⟩ := h.take hp t
  exact ⟨t.1, k1, RmL.fi t.2.2.1, (t.2.2.1.fn.mono (P' := fun x => x = p) (fun p q => q.elim) (fun x q => q) (fun q w => by rw [w]; exact h.lt hp)).drop (fun x w => w), fun q hq hne => k2 q hq hne⟩
/-- a number of a cell that belongs to no list -/
theorem mv_fi (o1 : mOk M1) (h : Wd M a) (f : FI S M M1) (hS : ∀ x, S x → a ≤ x ∧ x ≤ a + 21191 ∧ x ∉ nums a ∧ (∀ q, q ∈ nums a → x ≠ q + 1)) : Mv (fun _ => False) S M a M1 := by
  obtain ⟨k1, k2⟩ := h.fi f (fun q hq => ⟨fun w => (hS q w).2.2.1 hq, fun w => by
    rcases (h.arr hq).2 with z | z
    · exact (hS _ w).2.2.2 q hq z
    · have := (hS _ w).2.1; omega⟩)
  exact ⟨o1, k1, RmL.fi f, f.fn, fun q hq _ => k2 q hq⟩
theorem a_free : ∀ q, q ∈ nums a → a ≠ q + 1 := fun q hq => by have := nums_in hq; omega
theorem a_free2 : a ∉ nums a := fun w => by have := nums_in w; omega
/-- a field of the reference itself -/
theorem mv_fld {j : Nat} {v : Int} (hv : i32 v) (hO : mOk M) (h : Wd M a) (e : M1 = mUI M a j v) : Mv (fun _ => False) (fun x => x = a) M a M1 ∧ (∀ i, mI M1 a i = if i = j then v else mI M a i) := by
  have f : FI (fun x => x = a) M M1 := by rw [e]; exact FI.ui rfl
  have o1 : mOk M1 := by rw [e]; exact mOk_UI hO hv
  refine ⟨mv_fi o1 h f (fun x w => by rw [w]; exact ⟨by omega, by omega, a_free2, a_free⟩), fun i => ?_⟩
  rw [e, mI_UI]
  by_cases z : i = j
  · rw [if_pos ⟨rfl, z⟩, if_pos z]
  · rw [if_neg (fun w => z w.2), if_neg z]
theorem Mv.fld (h : Mv P S M a M1) (hw : Wd M a) (hP : ∀ q, P q → q ∈ nums a) (hS : ¬ S a) : mI M1 a = mI M a ∧ mR M1 a = mR M a := by
  have hz := hw.2.2.2
  have f := h.2.2.2.1
  have hp : ¬ P a := fun w => a_free2 (hP a w)
  refine ⟨(f.2.2.2.1 a (by omega) hp (fun q hq w => ?_) hS).1, f.2.2.1 a (by omega) hp⟩
  rcases (hw.arr (hP q hq)).2 with z | z
  · have := nums_in (hP q hq); omega
  · omega
theorem Mv.rfl_a (h : Mv P S M a M1) (hw : Wd M a) (hP : ∀ q, P q → q ∈ nums a) : mR M1 a = mR M a :=
  h.2.2.2.1.2.2.1 a (by have := hw.2.2.2; omega) (fun w => a_free2 (hP a w))
end MV
section FE
variable {G : mG} {d a : Nat} {M : mM}
theorem Wd.tape (h : Wd M a) : mR M a 1 ∈ nums a ∧ mR M a 2 ∈ nums a ∧ mR M a 1 ≠ mR M a 2 := by
  obtain ⟨⟨-, h1, -⟩, -⟩ := h
  rcases h1 with ⟨e1, e2⟩ | ⟨e1, e2⟩ <;> rw [e1, e2]
  · exact ⟨nums_o (by decide), nums_o (by decide), by omega⟩
  · exact ⟨nums_o (by decide), nums_o (by decide), by omega⟩
/-- v's four bytes -/
def byt (v : Int) (j : Nat) : Int := shrI v (24 - 8 * (j : Int)) % 256
theorem s_MM_add4 {v : Int} (hv : i32 v) (hO : mOk M) (h : Wd M a) (hs : ln M (mR M a 1) ≤ 16380) : Cv G y_MM_add4 (d + 1) [vr a, vi v] M (fun M' => Mv (fun x => x = mR M a 1) (fun _ => False) M a M' ∧ ln M' (mR M a 1) = ln M (mR M a 1) + 4 ∧ (∀ j : Nat, (j : Int) < ln M (mR M a 1) → nt M' (mR M a 1) j = nt M (mR M a 1) j) ∧ ∀ j, j < 4 → nt M' (mR M a 1) ((ln M (mR M a 1)).toNat + j) = byt v j) := by
  have hp := h.tape.1
  generalize hpe : mR M a 1 = p at *
  have hl0 : 0 ≤ ln M p := (h.nu hp).2.2.2.1.1
  refine k_MM_add4 hO hv ?_
  suffices H : ∀ (c i : Nat) (M2 : mM), i + c = 4 → Mv (fun x => x = p) (fun _ => False) M a M2 → ln M2 p = ln M p + i → (∀ j : Nat, (j : Int) < ln M p → nt M2 p j = nt M p j) → (∀ j, j < i → nt M2 p ((ln M p).toNat + j) = byt v j) → h_MM_add4_3 G d a v (24 - 8 * (i : Int)) M2 (fun M' => Mv (fun x => x = p) (fun _ => False) M a M' ∧ ln M' p = ln M p + 4 ∧ (∀ j : Nat, (j : Int) < ln M p → nt M' p j = nt M p j) ∧ ∀ j, j < 4 → nt M' p ((ln M p).toNat + j) = byt v j) from
    H 4 0 M (by omega) (Mv.refl hO h (fun q w => by rw [w]; exact h.lt hp)) (by omega) (fun j hj => rfl) (fun j hj => by omega)
  intro c
  induction c with
  | zero =>
    intro i M2 hi h2 l2 b2 n2
    have ei : i = 4 := by omega
    subst ei
    exact k_MM_add4_3 h2.1 hv ⟨by omega, by omega⟩ ⟨fun _ => ⟨h2, l2, b2, n2⟩, fun w => by omega⟩
  | succ c ih =>
    intro i M2 hi h2 l2 b2 n2
    have w2 := h2.2.1
    have hr2 : mR M2 a = mR M a := h2.rfl_a h (fun q w => by rw [w]; exact hp)
    have hN := w2.nu hp
    refine k_MM_add4_3 h2.1 hv ⟨by omega, by omega⟩ ⟨fun w => by omega, fun _ => ?_⟩
    rw [hr2, hpe]
    have e255 : andI (shrI v (24 - 8 * (i : Int))) 255 = byt v i := by
      unfold byt
      exact i_and 8 (by omega) 255 (by decide) ⟨by omega, by omega⟩
    have hb : 0 ≤ byt v i ∧ byt v i < 256 := by unfold byt; omega
    rw [e255]
    refine ⟨w2.1.1, hN.1, (s_MN_add ⟨by omega, by omega⟩ h2.1 hN (by omega)).mono (fun M3 t => ?_)⟩
    have m3 := mv_add w2 hp t
    obtain ⟨t1, t2, t3, t4, t5, t6, -⟩ := t
    have k3 := h2.trans m3
    have a := ih (i + 1) M3 (by omega) k3 (by omega) (fun j hj => by rw [t5 j (by omega)]; exact b2 j hj) (fun j hj => by
      by_cases z : j = i
      · rw [z, show (ln M p).toNat + i = (ln M2 p).toNat by omega]
        exact t6
      · rw [t5 _ (by omega)]
        exact n2 j (by omega))
    rw [show 24 - 8 * ((i + 1 : Nat) : Int) = 24 - 8 * (i : Int) + (-8) by omega] at a
    exact ⟨t1, a⟩
/-- feed's answer, and the tape after it -/
def fdQ (M : mM) (a : Nat) (v : Nat → Int) (r : Int) (M' : mM) : Prop := Mv (fun x => x = mR M a 1) (fun x => x = a) M a M' ∧ (∀ i, i ≠ 0 → mI M' a i = mI M a i) ∧ mI M' a 0 = 0 ∧ ((ln M (mR M a 1) + 20 ≤ 16384 ∧ r = ln M (mR M a 1) + 20 ∧ ln M' (mR M a 1) = r ∧ (∀ j : Nat, (j : Int) < ln M (mR M a 1) → nt M' (mR M a 1) j = nt M (mR M a 1) j) ∧ ∀ i j, i < 5 → j < 4 → nt M' (mR M a 1) ((ln M (mR M a 1)).toNat + 4 * i + j) = byt (v i) j) ∨ (16384 < ln M (mR M a 1) + 20 ∧ r = -1 ∧ sameN M M' (mR M a 1)))
theorem s_MM_feed {v : Nat → Int} (hv : ∀ i, i32 (v i)) (hO : mOk M) (h : Wd M a) (hs : ln M (mR M a 1) ≤ 16384) : Ci G y_MM_feed (d + 2) [vr a, vi (v 0), vi (v 1), vi (v 2), vi (v 3), vi (v 4)] M (fdQ M a v) := by
  have hp := h.tape.1
  have hl0 : 0 ≤ ln M (mR M a 1) := (h.nu hp).2.2.2.1.1
  have hpl : ∀ q, q = mR M a 1 → q < mZ M := fun q w => by rw [w]; exact h.lt hp
  refine k_MM_feed hO (hv 0) (hv 1) (hv 2) (hv 3) (hv 4) ⟨h.1.1, fun M1 e1 => ?_⟩
  obtain ⟨m1, f1⟩ := mv_fld ⟨by omega, by omega⟩ hO h e1
  have r1 : mR M1 a = mR M a := m1.rfl_a h (fun q w => w.elim)
  have s1 := m1.2.2.2.2 (mR M a 1) hp (fun w => w)
  have l1 : mI M1 (mR M a 1) 1 = ln M (mR M a 1) := s1.1
  have m1' : Mv (fun x => x = mR M a 1) (fun x => x = a) M a M1 := m1.mono (fun q w => w.elim) (fun x w => w) hpl
  have w1 := m1.2.1
  rw [r1, l1]
  have ha0 : mI M1 a 0 = 0 := by rw [f1, if_pos rfl]
  have ha1 : ∀ i, i ≠ 0 → mI M1 a i = mI M a i := fun i hi => by rw [f1, if_neg hi]
  refine ⟨(w1.nu hp).1, ⟨by omega, by omega⟩, fun hle => ?_, fun hgt => ⟨m1', ha1, ha0, Or.inr ⟨by omega, rfl, s1⟩⟩⟩
  -- five times four bytes
  have step : ∀ (i : Nat) (Mi : mM), i < 5 → Mv (fun x => x = mR M a 1) (fun x => x = a) M a Mi → mI Mi a = mI M1 a → ln Mi (mR M a 1) = ln M (mR M a 1) + 4 * i → (∀ j : Nat, (j : Int) < ln M (mR M a 1) → nt Mi (mR M a 1) j = nt M (mR M a 1) j) → (∀ k j, k < i → j < 4 → nt Mi (mR M a 1) ((ln M (mR M a 1)).toNat + 4 * k + j) = byt (v k) j) → Cv G y_MM_add4 (d + 1) [vr a, vi (v i)] Mi (fun Mj => mOk Mj ∧ Mv (fun x => x = mR M a 1) (fun x => x = a) M a Mj ∧ mI Mj a = mI M1 a ∧ ln Mj (mR M a 1) = ln M (mR M a 1) + 4 * ((i : Int) + 1) ∧ (∀ j : Nat, (j : Int) < ln M (mR M a 1) → nt Mj (mR M a 1) j = nt M (mR M a 1) j) ∧ (∀ k j, k < i + 1 → j < 4 → nt Mj (mR M a 1) ((ln M (mR M a 1)).toNat + 4 * k + j) = byt (v k) j)) := by
    intro i Mi hi mi ai li bi ni
    have ri : mR Mi a = mR M a := mi.rfl_a h (fun q w => by rw [w]; exact hp)
    have key := s_MM_add4 (G := G) (d := d) (hv i) mi.1 mi.2.1 (by rw [ri]; omega)
    rw [ri] at key
    refine key.mono (fun Mj hj => ?_)
    obtain ⟨mj, lj, bj, nj⟩ := hj
    refine ⟨mj.1, mi.trans (mj.mono (fun q w => w) (fun x w => w.elim) (fun q w => by rw [w]; exact mi.2.1.lt hp)), ?_, by omega, fun j hj => by rw [bj j (by omega)]; exact bi j hj, fun k j hk hj => ?_⟩
    · rw [← ai]
      exact (mj.fld mi.2.1 (fun q w => by rw [w]; exact hp) (fun w => w)).1
    · by_cases z : k = i
      · subst z
        have := nj j hj
        rw [show (ln Mi (mR M a 1)).toNat + j = (ln M (mR M a 1)).toNat + 4 * k + j by omega] at this
        exact this
      · rw [bj _ (by omega)]
        exact ni k j (by omega) hj
  refine (step 0 M1 (by omega) m1' rfl (by rw [s1.1]; omega) (fun j _ => s1.2.1 j) (fun k j hk => by omega)).mono (fun M2 h2 => ?_)
  obtain ⟨o2, m2, a2, l2, b2, n2⟩ := h2
  refine ⟨o2, m2.2.1.1.1, (step 1 M2 (by omega) m2 a2 (by omega) b2 n2).mono (fun M3 h3 => ?_)⟩
  obtain ⟨o3, m3, a3, l3, b3, n3⟩ := h3
  refine ⟨o3, m3.2.1.1.1, (step 2 M3 (by omega) m3 a3 (by omega) b3 n3).mono (fun M4 h4 => ?_)⟩
  obtain ⟨o4, m4, a4, l4, b4, n4⟩ := h4
  refine ⟨o4, m4.2.1.1.1, (step 3 M4 (by omega) m4 a4 (by omega) b4 n4).mono (fun M5 h5 => ?_)⟩
  obtain ⟨o5, m5, a5, l5, b5, n5⟩ := h5
  refine ⟨o5, m5.2.1.1.1, (step 4 M5 (by omega) m5 a5 (by omega) b5 n5).mono (fun M6 h6 => ?_)⟩
  obtain ⟨o6, m6, a6, l6, b6, n6⟩ := h6
  have r6 : mR M6 a = mR M a := m6.rfl_a h (fun q w => by rw [w]; exact hp)
  rw [r6]
  have l6' : mI M6 (mR M a 1) 1 = ln M (mR M a 1) + 20 := by
    have : mI M6 (mR M a 1) 1 = ln M6 (mR M a 1) := rfl
    omega
  rw [l6']
  refine ⟨o6, m6.2.1.1.1, (m6.2.1.nu hp).1, m6, fun i hi => by rw [a6]; exact ha1 i hi, by rw [a6]; exact ha0, Or.inl ⟨hle, rfl, l6', b6, fun i j hi hj => n6 i j (by omega) hj⟩⟩
/-- end's answer -/
theorem s_MM_end {n : Int} (hn : i32 n) (hO : mOk M) (h : Wd M a) (hs : ln M (mR M a 1) ≤ 16384) : Ci G y_MM_end d [vr a, vi n] M (fun r M' => Mv (fun x => x = mR M a 1) (fun x => x = a) M a M' ∧ (∀ i, i ≠ 0 → mI M' a i = mI M a i) ∧ ((0 ≤ n ∧ n ≤ 20 ∧ 20 ≤ ln M (mR M a 1) ∧ mI M' a 0 = 0 ∧ r = ln M (mR M a 1) - 20 + n ∧ ln M' (mR M a 1) = r ∧ ∀ j, nt M' (mR M a 1) j = nt M (mR M a 1) j) ∨ (¬ (0 ≤ n ∧ n ≤ 20 ∧ 20 ≤ ln M (mR M a 1)) ∧ mI M' a 0 = 1 ∧ r = 0 ∧ sameN M M' (mR M a 1)))) := by
  have hp := h.tape.1
  have hl0 : 0 ≤ ln M (mR M a 1) := (h.nu hp).2.2.2.1.1
  have hpl : ∀ q, q = mR M a 1 → q < mZ M := fun q w => by rw [w]; exact h.lt hp
  have el : mI M (mR M a 1) 1 = ln M (mR M a 1) := rfl
  refine k_MM_end hO hn ?_
  rw [el]
  refine ⟨fun _ _ => ⟨h.1.1, (h.nu hp).1⟩, fun v hv => ⟨h.1.1, fun M1 e1 => ?_⟩⟩
  obtain ⟨m1, f1⟩ := mv_fld (v := v) ⟨by split at hv <;> omega, by split at hv <;> omega⟩ hO h e1
  have r1 : mR M1 a = mR M a := m1.rfl_a h (fun q w => w.elim)
  have s1 := m1.2.2.2.2 (mR M a 1) hp (fun w => w)
  have l1 : mI M1 (mR M a 1) 1 = ln M (mR M a 1) := s1.1
  have m1' : Mv (fun x => x = mR M a 1) (fun x => x = a) M a M1 := m1.mono (fun q w => w.elim) (fun x w => w) hpl
  have w1 := m1.2.1
  have ha0 : mI M1 a 0 = v := by rw [f1, if_pos rfl]
  have ha1 : ∀ i, i ≠ 0 → mI M1 a i = mI M a i := fun i hi => by rw [f1, if_neg hi]
  rw [ha0, r1, l1]
  by_cases q : n < 0 ∨ (20 < n ∨ ¬ (20 ≤ ln M (mR M a 1)))
  · rw [if_pos q] at hv
    exact ⟨fun w => by omega, fun _ => ⟨m1', ha1, Or.inr ⟨by omega, hv, rfl, s1⟩⟩⟩
  · rw [if_neg q] at hv
    refine ⟨fun _ => ⟨(w1.nu hp).1, ⟨by omega, by omega⟩, fun M2 e2 => ?_⟩, fun w => by omega⟩
    obtain ⟨m2, l2, n2, -⟩ := mv_set m1.1 w1 hp (v := ln M (mR M a 1) - 20 + n) (by omega) (by rw [s1.1]; omega) e2
    have r2 : mR M2 a = mR M1 a := m2.rfl_a w1 (fun q w => by rw [w]; exact hp)
    have i2 := (m2.fld w1 (fun q w => by rw [w]; exact hp) (fun w => w)).1
    rw [r2, r1]
    have l2' : mI M2 (mR M a 1) 1 = ln M (mR M a 1) - 20 + n := l2
    rw [l2']
    exact ⟨(m2.2.1.nu hp).1, m1'.trans (m2.mono (fun q w => w) (fun x w => w.elim) (fun q w => by rw [w]; exact w1.lt hp)), fun i hi => by rw [i2]; exact ha1 i hi, Or.inl ⟨by omega, by omega, by omega, by rw [i2, ha0, hv], rfl, l2, fun j => by rw [n2 j]; exact s1.2.1 j⟩⟩
end FE
end
section
/-! The reference: cutting the text into words. -/
/-- the letter at i -/
def lt (M : mM) (a i : Nat) : Int := if (i : Int) < ln M (mR M a 2) then nt M (mR M a 2) i else 0
def isL (c : Int) : Prop := (97 ≤ c ∧ c ≤ 122) ∨ (65 ≤ c ∧ c ≤ 90)
section LX
variable {G : mG} {d a : Nat} {M : mM}
theorem Wd.t0 (h : Wd M a) : 0 ≤ ln M (mR M a 2) := (h.nu h.tape.2.1).2.2.2.1.1
theorem s_MM_letter {i : Nat} (hi : (i : Int) < 2147483648) (hO : mOk M) (h : Wd M a) : Ci G y_MM_letter (d + 1) [vr a, vi i] M (fun x M' => M' = M ∧ x = lt M a i) := by
  have hp := h.tape.2.1
  have el : mI M (mR M a 2) 1 = ln M (mR M a 2) := rfl
  refine k_MM_letter hO ⟨by omega, by omega⟩ ?_
  rw [el]
  unfold lt
  refine ⟨h.1.1, (h.nu hp).1, fun w => ⟨rfl, by rw [if_neg (by omega)]⟩, fun w => (s_MN_at hO (h.nu hp) (by omega)).mono (fun x M1 h1 => ?_)⟩
  obtain ⟨e1, hx⟩ := h1
  subst e1
  refine ⟨?_, hO, rfl, by rw [if_pos (by omega)]; exact hx⟩
  rw [hx]
  exact (hO _ _).1
theorem lt_i32 (hO : mOk M) {i : Nat} : i32 (lt M a i) := by
  unfold lt
  split
  · exact (hO _ _).1
  · exact ⟨by omega, by omega⟩
end LX
end
section
/-! The reference: the words of the text. -/
/-- a word: kind, place, end; T letters in all -/
def wok (M : mM) (a : Nat) (k p e : Int) : Prop := (0 ≤ k ∧ k ≤ 39) ∧ (0 ≤ p ∧ p ≤ e ∧ e ≤ ln M (mR M a 2)) ∧ (1 ≤ k → p < e) ∧ (k = 2 → e ≤ p + 9 ∧ ∀ j : Nat, p ≤ j → (j : Int) < e → 48 ≤ nt M (mR M a 2) j ∧ nt M (mR M a 2) j ≤ 57) ∧ (k = 1 → e ≤ p + 40)
abbrev wP (a : Nat) : Nat → Prop := fun x => x = a + 5 ∨ x = a + 7 ∨ x = a + 9
theorem wP_in {a q : Nat} (h : wP a q) : q ∈ nums a := by
  rcases h with h | h | h <;> rw [h]
  · exact nums_o (by decide)
  · exact nums_o (by decide)
  · exact nums_o (by decide)
section WO
variable {G : mG} {d a : Nat} {M : mM}
/-- c words -/
def wds (M : mM) (a c : Nat) : Prop := ln M (a + 5) = c ∧ ln M (a + 7) = c ∧ ln M (a + 9) = c
theorem s_MM_word0 {k p e : Int} {c : Nat} (hk : i32 k) (hp : i32 p) (he : i32 e) (hO : mOk M) (h : Wd M a) (hc : wds M a c) (hc5 : c ≤ 20000) : Cv G y_MM_word0 (d + 1) [vr a, vi k, vi p, vi e] M (fun M' => Mv (wP a) (fun _ => False) M a M' ∧ wds M' a (c + 1) ∧ (∀ j, j < c → nt M' (a + 5) j = nt M (a + 5) j ∧ nt M' (a + 7) j = nt M (a + 7) j ∧ nt M' (a + 9) j = nt M (a + 9) j) ∧ nt M' (a + 5) c = k ∧ nt M' (a + 7) c = p ∧ nt M' (a + 9) c = e) := by
  obtain ⟨c1, c2, c3⟩ := hc
  have i5 : a + 5 ∈ nums a := nums_o (by decide)
  have i7 : a + 7 ∈ nums a := nums_o (by decide)
  have i9 : a + 9 ∈ nums a := nums_o (by decide)
  have hwl : ∀ (M2 : mM), Wd M2 a → ∀ q, wP a q → q < mZ M2 := fun M2 w q hq => w.lt (wP_in hq)
  refine k_MM_word0 hO hk hp he ?_
  rw [h.1.2.2.1.1]
  refine ⟨h.1.1, (h.nu i5).1, (s_MN_add hk hO (h.nu i5) (by omega)).mono (fun M1 t1 => ?_)⟩
  have m1 := mv_add h i5 t1
  have w1 := m1.2.1
  have s17 := m1.2.2.2.2 (a + 7) i7 (by omega)
  have s19 := m1.2.2.2.2 (a + 9) i9 (by omega)
  obtain ⟨o1, -, -, l1, b1, v1, -⟩ := t1
  rw [w1.1.2.2.1.2.1]
  refine ⟨o1, w1.1.1, (w1.nu i7).1, (s_MN_add hp o1 (w1.nu i7) (by rw [s17.1]; omega)).mono (fun M2 t2 => ?_)⟩
  have m2 := mv_add w1 i7 t2
  have w2 := m2.2.1
  have s25 := m2.2.2.2.2 (a + 5) i5 (by omega)
  have s29 := m2.2.2.2.2 (a + 9) i9 (by omega)
  obtain ⟨o2, -, -, l2, b2, v2, -⟩ := t2
  rw [w2.1.2.2.1.2.2.1]
  refine ⟨o2, w2.1.1, (w2.nu i9).1, (s_MN_add he o2 (w2.nu i9) (by rw [s29.1, s19.1]; omega)).mono (fun M3 t3 => ?_)⟩
  have m3 := mv_add w2 i9 t3
  have s35 := m3.2.2.2.2 (a + 5) i5 (by omega)
  have s37 := m3.2.2.2.2 (a + 7) i7 (by omega)
  obtain ⟨o3, -, -, l3, b3, v3, -⟩ := t3
  have e1 : (ln M (a + 5)).toNat = c := by omega
  have e2 : (ln M1 (a + 7)).toNat = c := by rw [s17.1]; omega
  have e3 : (ln M2 (a + 9)).toNat = c := by rw [s29.1, s19.1]; omega
  rw [e1] at v1
  rw [e2] at v2
  rw [e3] at v3
  refine ⟨o3, ((m1.mono (fun q w => Or.inl w) (fun x w => w) (hwl M h)).trans (m2.mono (fun q w => Or.inr (Or.inl w)) (fun x w => w) (hwl M1 w1))).trans (m3.mono (fun q w => Or.inr (Or.inr w)) (fun x w => w) (hwl M2 w2)), ⟨by rw [s35.1, s25.1]; omega, by rw [s37.1]; have := s17.1; omega, by have := s29.1; have := s19.1; omega⟩, fun j hj => ⟨?_, ?_, ?_⟩, ?_, ?_, v3⟩
  · rw [s35.2.1, s25.2.1, b1 j (by omega)]
  · rw [s37.2.1, b2 j (by rw [s17.1]; omega), s17.2.1]
  · rw [b3 j (by rw [s29.1, s19.1]; omega), s29.2.1, s19.2.1]
  · rw [s35.2.1, s25.2.1, v1]
  · rw [s37.2.1, v2]
/-- the text stays -/
theorem Mv.text {M1 : mM} (h : Mv (wP a) (fun _ => False) M a M1) (hw : Wd M a) : mR M1 a = mR M a ∧ sameN M M1 (mR M a 2) := by
  refine ⟨h.rfl_a hw (fun q w => wP_in w), h.2.2.2.2 _ hw.tape.2.1 (fun w => ?_)⟩
  rcases hw.1.2.1 with ⟨e1, e2⟩ | ⟨e1, e2⟩ <;> rw [e2] at w <;> omega
theorem wok.same {M1 : mM} {k p e : Int} (h : wok M a k p e) (hr : mR M1 a = mR M a) (hs : sameN M M1 (mR M a 2)) : wok M1 a k p e := by
  unfold wok at h ⊢
  rw [hr, hs.1]
  obtain ⟨h1, h2, h3, h4, h5⟩ := h
  exact ⟨h1, h2, h3, fun w => ⟨(h4 w).1, fun j a1 a2 => by rw [hs.2.1]; exact (h4 w).2 j a1 a2⟩, h5⟩
/-- the words so far are sound, and none is wrong or the last -/
def wgd (M : mM) (a c : Nat) : Prop := ∀ j, j < c → wok M a (nt M (a + 5) j) (nt M (a + 7) j) (nt M (a + 9) j) ∧ 1 ≤ nt M (a + 5) j ∧ nt M (a + 5) j ≠ 39
/-- after cutting: the last word is the end, or wrong -/
def cutQ (M : mM) (a : Nat) (M' : mM) : Prop := Mv (wP a) (fun _ => False) M a M' ∧ ∃ c, wds M' a (c + 1) ∧ (c : Int) ≤ ln M (mR M a 2) ∧ wgd M' a c ∧ wok M' a (nt M' (a + 5) c) (nt M' (a + 7) c) (nt M' (a + 9) c) ∧ (nt M' (a + 5) c = 0 ∨ nt M' (a + 5) c = 39)
def cuI (M : mM) (a c : Nat) (M2 : mM) : Prop := Mv (wP a) (fun _ => False) M a M2 ∧ wds M2 a c ∧ wgd M2 a c
/-- kinds of words told by their letters -/
def WKs (G : mG) : Prop := ∀ (d a f e : Nat) (M : mM), mOk M → Wd M a → f < e → (e : Int) ≤ ln M (mR M a 2) → e ≤ f + 40 → ln M (mR M a 2) ≤ 16384 → Ci G y_MM_wordKind (d + 5) [vr a, vi f, vi e] M (fun x M' => M' = M ∧ 1 ≤ x ∧ x ≤ 15 ∧ x ≠ 2)
end WO
end
section
/-! The reference: the grammar of the text. -/
def ex50 (nx : Int) : Option (List Int × Nat) := if nx = 0 then some ([], 1) else if nx = 3 ∨ nx = 6 then some ([51, 34, 50], 1) else if nx = 4 then some ([1, 33, 53, 54, 34, 50], 1) else if nx = 7 ∨ nx = 8 then some ([61, 17, 56, 57, 34, 50], 1) else if nx = 11 then some ([61, 34, 50], 1) else none
def ex51 (nx : Int) : Option (List Int × Nat) := some ([1, 23, 61], 0)
def ex53 (nx : Int) : Option (List Int × Nat) := if nx = 5 then some ([], 1) else some ([61, 16, 61], 0)
def ex54 (nx : Int) : Option (List Int × Nat) := if nx = 9 then some ([61], 1) else some ([], 0)
def ex56 (nx : Int) : Option (List Int × Nat) := some ([63, 33, 58], 0)
def ex57 (nx : Int) : Option (List Int × Nat) := if nx = 24 then some ([56, 57], 1) else some ([], 0)
def ex58 (nx : Int) : Option (List Int × Nat) := if nx = 10 then some ([], 1) else some ([59, 60], 0)
def ex59 (nx : Int) : Option (List Int × Nat) := if nx = 36 then some ([1, 38, 23, 61, 37, 75], 1) else none
def ex60 (nx : Int) : Option (List Int × Nat) := if nx = 29 then some ([59, 60], 1) else some ([], 0)
def ex61 (nx : Int) : Option (List Int × Nat) := some ([63, 62], 0)
def ex62 (nx : Int) : Option (List Int × Nat) := if nx = 32 then some ([61, 33, 61, 75], 1) else some ([], 0)
def ex63 (nx : Int) : Option (List Int × Nat) := some ([65, 64], 0)
def ex64 (nx : Int) : Option (List Int × Nat) := if nx = 30 then some ([65, 64], 1) else some ([], 0)
def ex65 (nx : Int) : Option (List Int × Nat) := some ([67, 66], 0)
def ex66 (nx : Int) : Option (List Int × Nat) := if nx = 29 then some ([67, 66], 1) else some ([], 0)
def ex67 (nx : Int) : Option (List Int × Nat) := if nx = 31 then some ([67, 75], 1) else some ([69, 68], 0)
def ex68 (nx : Int) : Option (List Int × Nat) := if 18 ≤ nx ∧ nx ≤ 23 then some ([69], 1) else some ([], 0)
def ex69 (nx : Int) : Option (List Int × Nat) := some ([71, 70], 0)
def ex70 (nx : Int) : Option (List Int × Nat) := if nx = 24 ∨ nx = 25 then some ([71, 70], 1) else some ([], 0)
def ex71 (nx : Int) : Option (List Int × Nat) := some ([73, 72], 0)
def ex72 (nx : Int) : Option (List Int × Nat) := if nx = 26 ∨ nx = 27 ∨ nx = 28 then some ([73, 72], 1) else some ([], 0)
def ex73 (nx : Int) : Option (List Int × Nat) := if nx = 1 ∨ nx = 2 ∨ nx = 12 ∨ nx = 13 then some ([], 1) else if nx = 14 ∨ nx = 15 then some ([76, 61, 74, 37, 75], 1) else if nx = 25 then some ([73, 75], 1) else if nx = 36 then some ([61, 37, 75], 1) else none
def ex74 (nx : Int) : Option (List Int × Nat) := if nx = 35 then some ([61, 74], 1) else some ([], 0)
def ex76 (nx : Int) : Option (List Int × Nat) := if nx = 36 then some ([], 1) else none
/-- what a sign of the grammar becomes before the word nx, top first, and how many words it takes -/
def ex (x nx : Int) : Option (List Int × Nat) := if x = 50 then ex50 nx else if x = 51 then ex51 nx else if x = 53 then ex53 nx else if x = 54 then ex54 nx else if x = 56 then ex56 nx else if x = 57 then ex57 nx else if x = 58 then ex58 nx else if x = 59 then ex59 nx else if x = 60 then ex60 nx else if x = 61 then ex61 nx else if x = 62 then ex62 nx else if x = 63 then ex63 nx else if x = 64 then ex64 nx else if x = 65 then ex65 nx else if x = 66 then ex66 nx else if x = 67 then ex67 nx else if x = 68 then ex68 nx else if x = 69 then ex69 nx else if x = 70 then ex70 nx else if x = 71 then ex71 nx else if x = 72 then ex72 nx else if x = 73 then ex73 nx else if x = 74 then ex74 nx else if x = 76 then ex76 nx else none
theorem ex_50 {nx : Int} : ex 50 nx = ex50 nx := rfl
theorem ex_51 {nx : Int} : ex 51 nx = ex51 nx := rfl
theorem ex_53 {nx : Int} : ex 53 nx = ex53 nx := rfl
theorem ex_54 {nx : Int} : ex 54 nx = ex54 nx := rfl
theorem ex_56 {nx : Int} : ex 56 nx = ex56 nx := rfl
theorem ex_57 {nx : Int} : ex 57 nx = ex57 nx := rfl
theorem ex_58 {nx : Int} : ex 58 nx = ex58 nx := rfl
theorem ex_59 {nx : Int} : ex 59 nx = ex59 nx := rfl
theorem ex_60 {nx : Int} : ex 60 nx = ex60 nx := rfl
theorem ex_61 {nx : Int} : ex 61 nx = ex61 nx := rfl
theorem ex_62 {nx : Int} : ex 62 nx = ex62 nx := rfl
theorem ex_63 {nx : Int} : ex 63 nx = ex63 nx := rfl
theorem ex_64 {nx : Int} : ex 64 nx = ex64 nx := rfl
theorem ex_65 {nx : Int} : ex 65 nx = ex65 nx := rfl
theorem ex_66 {nx : Int} : ex 66 nx = ex66 nx := rfl
theorem ex_67 {nx : Int} : ex 67 nx = ex67 nx := rfl
theorem ex_68 {nx : Int} : ex 68 nx = ex68 nx := rfl
theorem ex_69 {nx : Int} : ex 69 nx = ex69 nx := rfl
theorem ex_70 {nx : Int} : ex 70 nx = ex70 nx := rfl
theorem ex_71 {nx : Int} : ex 71 nx = ex71 nx := rfl
theorem ex_72 {nx : Int} : ex 72 nx = ex72 nx := rfl
theorem ex_73 {nx : Int} : ex 73 nx = ex73 nx := rfl
theorem ex_74 {nx : Int} : ex 74 nx = ex74 nx := rfl
theorem ex_76 {nx : Int} : ex 76 nx = ex76 nx := rfl
/-- the signs -/
def sgs : List Int := [50, 51, 53, 54, 56, 57, 58, 59, 60, 61, 62, 63, 64, 65, 66, 67, 68, 69, 70, 71, 72, 73, 74, 75, 76, 1, 16, 17, 23, 33, 34, 37, 38]
/-- how high the pile grows over a sign -/
def hgt (x : Int) : Nat := if x = 50 then 11 else if x = 51 then 6 else if x = 53 then 8 else if x = 54 then 6 else if x = 56 then 7 else if x = 57 then 8 else if x = 58 then 1 else if x = 60 then 1 else if x = 61 then 6 else if x = 63 then 5 else if x = 64 then 5 else if x = 65 then 4 else if x = 66 then 4 else if x = 67 then 3 else if x = 68 then 2 else if x = 69 then 2 else if x = 70 then 2 else if x = 71 then 1 else if x = 72 then 1 else if x = 74 then 7 else 0
/-- how much there is to do for a sign -/
def wgt (x : Int) : Nat := if x = 51 then 16 else if x = 53 then 28 else if x = 56 then 16 else if x = 58 then 3 else if x = 61 then 13 else if x = 63 then 11 else if x = 65 then 9 else if x = 67 then 7 else if x = 69 then 5 else if x = 71 then 3 else 1
def c75 : List Int → Nat
  | [] => 0
  | x :: r => (if x = 75 then 1 else 0) + c75 r
def c76 : List Int → Nat
  | [] => 0
  | x :: r => (if x = 76 then 1 else 0) + c76 r
def swt : List Int → Nat
  | [] => 0
  | x :: r => wgt x + swt r
/-- the pile is not too high anywhere -/
def hbd : List Int → Prop
  | [] => True
  | x :: r => r.length + hgt x ≤ 11 + 9 * c75 r ∧ hbd r
/-- what is put down in place of x fits below h -/
def fits (h : Nat) : List Int → Bool
  | [] => true
  | y :: r => decide (r.length + hgt y ≤ h + 9 * c75 r) && fits h r
def chk (x : Int) (ys : List Int) (t : Nat) : Bool := fits (hgt x) ys && ys.all (fun y => sgs.contains y) && !(ys.tail.contains 76) && (decide (t = 0 ∨ t = 1)) && (decide (swt ys + 1 ≤ wgt x + 40 * t)) && (decide (t = 0 → swt ys + 1 ≤ wgt x)) && (decide (x = 50 → ys = [] ∨ (ys.getLast? = some 50 ∧ !(ys.dropLast.contains 50)))) && (decide (x ≠ 50 → !(ys.contains 50)))
theorem ex_chk {x nx : Int} {ys : List Int} {t : Nat} (h : ex x nx = some (ys, t)) : chk x ys t = true := by
  unfold ex at h
  by_cases q50 : x = 50
  · rw [if_pos q50] at h
    subst q50
    unfold ex50 at h
    by_cases c0 : nx = 0
    · rw [if_pos c0] at h; cases h; decide
    rw [if_neg c0] at h
    by_cases c1 : nx = 3 ∨ nx = 6
    · rw [if_pos c1] at h; cases h; decide
    rw [if_neg c1] at h
    by_cases c2 : nx = 4
    · rw [if_pos c2] at h; cases h; decide
    rw [if_neg c2] at h
    by_cases c3 : nx = 7 ∨ nx = 8
    · rw [if_pos c3] at h; cases h; decide
    rw [if_neg c3] at h
    by_cases c4 : nx = 11
    · rw [if_pos c4] at h; cases h; decide
    rw [if_neg c4] at h
    cases h
  rw [if_neg q50] at h
  by_cases q51 : x = 51
  · rw [if_pos q51] at h
    subst q51
    unfold ex51 at h
    cases h; decide
  rw [if_neg q51] at h
  by_cases q53 : x = 53
  · rw [if_pos q53] at h
    subst q53
    unfold ex53 at h
    by_cases c0 : nx = 5
    · rw [if_pos c0] at h; cases h; decide
    rw [if_neg c0] at h
    cases h; decide
  rw [if_neg q53] at h
  by_cases q54 : x = 54
  · rw [if_pos q54] at h
    subst q54
    unfold ex54 at h
    by_cases c0 : nx = 9
    · rw [if_pos c0] at h; cases h; decide
    rw [if_neg c0] at h
    cases h; decide
  rw [if_neg q54] at h
  by_cases q56 : x = 56
  · rw [if_pos q56] at h
    subst q56
    unfold ex56 at h
    cases h; decide
  rw [if_neg q56] at h
  by_cases q57 : x = 57
  · rw [if_pos q57] at h
    subst q57
    unfold ex57 at h
    by_cases c0 : nx = 24
    · rw [if_pos c0] at h; cases h; decide
    rw [if_neg c0] at h
    cases h; decide
  rw [if_neg q57] at h
  by_cases q58 : x = 58
  · rw [if_pos q58] at h
    subst q58
    unfold ex58 at h
    by_cases c0 : nx = 10
    · rw [if_pos c0] at h; cases h; decide
    rw [if_neg c0] at h
    cases h; decide
  rw [if_neg q58] at h
  by_cases q59 : x = 59
  · rw [if_pos q59] at h
    subst q59
    unfold ex59 at h
    by_cases c0 : nx = 36
    · rw [if_pos c0] at h; cases h; decide
    rw [if_neg c0] at h
    cases h
  rw [if_neg q59] at h
  by_cases q60 : x = 60
  · rw [if_pos q60] at h
    subst q60
    unfold ex60 at h
    by_cases c0 : nx = 29
    · rw [if_pos c0] at h; cases h; decide
    rw [if_neg c0] at h
    cases h; decide
  rw [if_neg q60] at h
  by_cases q61 : x = 61
  · rw [if_pos q61] at h
    subst q61
    unfold ex61 at h
    cases h; decide
  rw [if_neg q61] at h
  by_cases q62 : x = 62
  · rw [if_pos q62] at h
    subst q62
    unfold ex62 at h
    by_cases c0 : nx = 32
    · rw [if_pos c0] at h; cases h; decide
    rw [if_neg c0] at h
    cases h; decide
  rw [if_neg q62] at h
  by_cases q63 : x = 63
  · rw [if_pos q63] at h
    subst q63
    unfold ex63 at h
    cases h; decide
  rw [if_neg q63] at h
  by_cases q64 : x = 64
  · rw [if_pos q64] at h
    subst q64
    unfold ex64 at h
    by_cases c0 : nx = 30
    · rw [if_pos c0] at h; cases h; decide
    rw [if_neg c0] at h
    cases h; decide
  rw [if_neg q64] at h
  by_cases q65 : x = 65
  · rw [if_pos q65] at h
    subst q65
    unfold ex65 at h
    cases h; decide
  rw [if_neg q65] at h
  by_cases q66 : x = 66
  · rw [if_pos q66] at h
    subst q66
    unfold ex66 at h
    by_cases c0 : nx = 29
    · rw [if_pos c0] at h; cases h; decide
    rw [if_neg c0] at h
    cases h; decide
  rw [if_neg q66] at h
  by_cases q67 : x = 67
  · rw [if_pos q67] at h
    subst q67
    unfold ex67 at h
    by_cases c0 : nx = 31
    · rw [if_pos c0] at h; cases h; decide
    rw [if_neg c0] at h
    cases h; decide
  rw [if_neg q67] at h
  by_cases q68 : x = 68
  · rw [if_pos q68] at h
    subst q68
    unfold ex68 at h
    by_cases c0 : 18 ≤ nx ∧ nx ≤ 23
    · rw [if_pos c0] at h; cases h; decide
    rw [if_neg c0] at h
    cases h; decide
  rw [if_neg q68] at h
  by_cases q69 : x = 69
  · rw [if_pos q69] at h
    subst q69
    unfold ex69 at h
    cases h; decide
  rw [if_neg q69] at h
  by_cases q70 : x = 70
  · rw [if_pos q70] at h
    subst q70
    unfold ex70 at h
    by_cases c0 : nx = 24 ∨ nx = 25
    · rw [if_pos c0] at h; cases h; decide
    rw [if_neg c0] at h
    cases h; decide
  rw [if_neg q70] at h
  by_cases q71 : x = 71
  · rw [if_pos q71] at h
    subst q71
    unfold ex71 at h
    cases h; decide
  rw [if_neg q71] at h
  by_cases q72 : x = 72
  · rw [if_pos q72] at h
    subst q72
    unfold ex72 at h
    by_cases c0 : nx = 26 ∨ nx = 27 ∨ nx = 28
    · rw [if_pos c0] at h; cases h; decide
    rw [if_neg c0] at h
    cases h; decide
  rw [if_neg q72] at h
  by_cases q73 : x = 73
  · rw [if_pos q73] at h
    subst q73
    unfold ex73 at h
    by_cases c0 : nx = 1 ∨ nx = 2 ∨ nx = 12 ∨ nx = 13
    · rw [if_pos c0] at h; cases h; decide
    rw [if_neg c0] at h
    by_cases c1 : nx = 14 ∨ nx = 15
    · rw [if_pos c1] at h; cases h; decide
    rw [if_neg c1] at h
    by_cases c2 : nx = 25
    · rw [if_pos c2] at h; cases h; decide
    rw [if_neg c2] at h
    by_cases c3 : nx = 36
    · rw [if_pos c3] at h; cases h; decide
    rw [if_neg c3] at h
    cases h
  rw [if_neg q73] at h
  by_cases q74 : x = 74
  · rw [if_pos q74] at h
    subst q74
    unfold ex74 at h
    by_cases c0 : nx = 35
    · rw [if_pos c0] at h; cases h; decide
    rw [if_neg c0] at h
    cases h; decide
  rw [if_neg q74] at h
  by_cases q76 : x = 76
  · rw [if_pos q76] at h
    subst q76
    unfold ex76 at h
    by_cases c0 : nx = 36
    · rw [if_pos c0] at h; cases h; decide
    rw [if_neg c0] at h
    cases h
  rw [if_neg q76] at h
  cases h
end
section
/-! The reference: the pile of what is wanted. -/
/-- the list at p holds st, top first -/
def St (M : mM) (p : Nat) (st : List Int) : Prop := ln M p = st.length ∧ ∀ i, i < st.length → nt M p (st.length - 1 - i) = st.getD i 0
theorem St.add {M M' : mM} {p B : Nat} {v : Int} {st : List Int} (h : St M p st) (t : adB B M p v M') : St M' p (v :: st) := by
  obtain ⟨h1, h2⟩ := h
  obtain ⟨-, -, -, t4, t5, t6, -⟩ := t
  refine ⟨by rw [t4, h1, List.length_cons]; omega, fun i hi => ?_⟩
  rw [List.length_cons] at hi ⊢
  cases i with
  | zero =>
    rw [show st.length + 1 - 1 - 0 = (ln M p).toNat by omega, t6]
    rfl
  | succ i =>
    rw [t5 _ (by omega), show st.length + 1 - 1 - (i + 1) = st.length - 1 - i by omega, h2 i (by omega)]
    rfl
theorem St.take {M M' : mM} {p : Nat} {x y : Int} {st : List Int} (h : St M p (x :: st)) (t : tkQ M p y M') : St M' p st ∧ y = x := by
  obtain ⟨h1, h2⟩ := h
  obtain ⟨-, -, -, t4, t5, t6⟩ := t
  rw [List.length_cons] at h1 h2
  refine ⟨⟨by omega, fun i hi => ?_⟩, ?_⟩
  · rw [t5]
    have a := h2 (i + 1) (by omega)
    rw [show st.length + 1 - 1 - (i + 1) = st.length - 1 - i by omega] at a
    rw [a]
    rfl
  · have a := h2 0 (by omega)
    rw [t6, show (ln M p - 1).toNat = st.length + 1 - 1 - 0 by omega, a]
    rfl
theorem St.same {M M' : mM} {p : Nat} {st : List Int} (h : St M p st) (s : sameN M M' p) : St M' p st := by
  obtain ⟨h1, h2⟩ := h
  exact ⟨by rw [s.1]; exact h1, fun i hi => by rw [s.2.1]; exact h2 i hi⟩
abbrev qP (a : Nat) : Nat → Prop := fun x => x = a + 11
abbrev qS (a : Nat) : Nat → Prop := fun x => x = a
def SI (M : mM) (a : Nat) (st : List Int) (lv : Int) (M2 : mM) : Prop := Mv (qP a) (qS a) M a M2 ∧ (∀ j, j ≠ 7 → mI M2 a j = mI M a j) ∧ St M2 (a + 11) st ∧ mI M2 a 7 = lv
def dlv (x : Int) (ys : List Int) : Int := c75 ys - c76 ys + (if x = 76 then 1 else 0)
def pQ (M : mM) (a : Nat) (st : List Int) (x nx r : Int) (M' : mM) : Prop := Mv (qP a) (qS a) M a M' ∧ (∀ j, j ≠ 7 → mI M' a j = mI M a j) ∧ (r = -1 ∨ ∃ ys t, ex x nx = some (ys, t) ∧ r = (t : Int) ∧ St M' (a + 11) (ys ++ st) ∧ mI M' a 7 = mI M a 7 + dlv x ys ∧ (mI M' a 7 = mI M a 7 ∨ mI M' a 7 ≤ 40))
section PI
variable {G : mG} {d a : Nat} {M M2 : mM} {st : List Int} {lv : Int}
theorem q11 : a + 11 ∈ nums a := nums_o (by decide)
theorem SI.wd (h : SI M a st lv M2) : Wd M2 a := h.1.2.1
theorem SI.ok (h : SI M a st lv M2) : mOk M2 := h.1.1
theorem SI.k (h : SI M a st lv M2) : mK M2 a = 14 := h.wd.1.1
theorem SI.r6 (h : SI M a st lv M2) : mR M2 a 6 = a + 11 := h.wd.1.2.2.1.2.2.2
theorem SI.k6 (h : SI M a st lv M2) : mK M2 (a + 11) = 15 := (h.wd.nu q11).1
theorem SI.push {v : Int} (h : SI M a st lv M2) (hl : st.length ≤ 1000) (hv : i32 v) : Cv G y_MN_add d [vr (a + 11), vi v] M2 (fun M3 => SI M a (v :: st) lv M3) := by
  obtain ⟨m, f, s, l⟩ := h
  have w := m.2.1
  refine (s_MN_add hv m.1 (w.nu q11) (by rw [s.1]; omega)).mono (fun M3 t => ?_)
  have m3 := mv_add w q11 t
  have f3 := (m3.fld w (fun q hq => by rw [hq]; exact q11) (fun hq => hq)).1
  exact ⟨m.trans (m3.mono (fun q hq => hq) (fun x hx => hx.elim) (fun q hq => by rw [hq]; exact w.lt q11)), fun j hj => by rw [f3]; exact f j hj, s.add t, by rw [f3]; exact l⟩
/-- a step is done -/
theorem SI.done {x nx : Int} {ys : List Int} {t : Nat} (h : SI M a (ys ++ st) lv M2) (he : ex x nx = some (ys, t)) (hl : lv = mI M a 7 + dlv x ys) (h4 : lv = mI M a 7 ∨ lv ≤ 40) : pQ M a st x nx (t : Int) M2 :=
  ⟨h.1, h.2.1, Or.inr ⟨ys, t, he, rfl, h.2.2.1, by rw [h.2.2.2]; exact hl, by rw [h.2.2.2]; exact h4⟩⟩
theorem SI.fail {x nx : Int} {st' : List Int} (h : SI M a st' lv M2) : pQ M a st x nx (-1) M2 := ⟨h.1, h.2.1, Or.inl rfl⟩
theorem s_MM_want {u v w : Int} (h : SI M a st lv M2) (hl : st.length ≤ 900) (hu : i32 u) (hv : i32 v) (hw : i32 w) : Cv G y_MM_want (d + 1) [vr a, vi u, vi v, vi w] M2 (fun M3 => SI M a (u :: v :: w :: st) lv M3) := by
  refine k_MM_want h.ok hu hv hw ?_
  rw [h.r6]
  refine ⟨h.k, h.k6, (h.push (by omega) hw).mono (fun M3 h3 => ?_)⟩
  rw [h3.r6]
  refine ⟨h3.ok, h3.k, h3.k6, (h3.push (by rw [List.length_cons]; omega) hv).mono (fun M4 h4 => ?_)⟩
  rw [h4.r6]
  refine ⟨h4.ok, h4.k, h4.k6, (h4.push (by rw [List.length_cons, List.length_cons]; omega) hu).mono (fun M5 h5 => ⟨h5.ok, h5⟩)⟩
/-- two signs are put down -/
theorem SI.two {u v : Int} {Q : mM → Prop} (h : SI M a st lv M2) (hl : st.length ≤ 900) (hu : i32 u) (hv : i32 v) (hQ : ∀ M3, SI M a (v :: u :: st) lv M3 → Q M3) : Cv G y_MN_add d [vr (a + 11), vi u] M2 (fun M3 => mOk M3 ∧ (mK M3 a = 14 ∧ mK M3 (mR M3 a 6) = 15 ∧ Cv G y_MN_add d [vr (mR M3 a 6), vi v] M3 (fun M4 => mOk M4 ∧ Q M4))) := by
  refine (h.push (by omega) hu).mono (fun M3 h3 => ?_)
  rw [h3.r6]
  exact ⟨h3.ok, h3.k, h3.k6, (h3.push (by rw [List.length_cons]; omega) hv).mono (fun M4 h4 => ⟨h4.ok, hQ M4 h4⟩)⟩
theorem s_MM_again {g u v : Int} (h : SI M a st lv M2) (hl : st.length ≤ 900) (hg : i32 g) (hu : i32 u) (hv : i32 v) : Ci G y_MM_again (d + 1) [vr a, vi g, vi u, vi v] M2 (fun r M3 => (g = 0 ∧ r = 0 ∧ M3 = M2) ∨ (g ≠ 0 ∧ r = 1 ∧ SI M a (v :: u :: st) lv M3)) := by
  refine k_MM_again h.ok hg hu hv ?_
  rw [h.r6]
  exact ⟨fun w => Or.inl ⟨w, rfl, rfl⟩, fun w => ⟨h.k, h.k6, h.two hl hu hv (fun M3 h3 => Or.inr ⟨w, rfl, h3⟩)⟩⟩
theorem s_MM_isComparison {x : Int} (hx : i32 x) (hO : mOk M2) : Ci G y_MM_isComparison d [vi x] M2 (fun r M3 => M3 = M2 ∧ (r = 0 ∨ r = 1) ∧ (r ≠ 0 ↔ (18 ≤ x ∧ x ≤ 23))) := by
  refine k_MM_isComparison hO hx (fun v hv => ⟨rfl, ?_, ?_⟩)
  · split at hv <;> omega
  · split at hv <;> omega
end PI
end
section
/-! The reference: one step of the grammar. -/
section IT
variable {G : mG} {d a : Nat} {M : mM} {st : List Int} {nx : Int}
theorem SI.start (hO : mOk M) (h : Wd M a) (hs : St M (a + 11) st) : SI M a st (mI M a 7) M := ⟨Mv.refl hO h (fun q hq => by rw [hq]; exact h.lt q11), fun _ _ => rfl, hs, rfl⟩
theorem i32s {x : Int} (h0 : -100000 ≤ x) (h1 : x ≤ 100000) : i32 x := ⟨by omega, by omega⟩
theorem dl0 {M : mM} {a : Nat} {x : Int} {ys : List Int} (h1 : c75 ys = 0) (h2 : c76 ys = 0) (h3 : x ≠ 76) : mI M a 7 = mI M a 7 + dlv x ys := by unfold dlv; rw [h1, h2, if_neg h3]; omega
theorem dl1 {M : mM} {a : Nat} {x : Int} {ys : List Int} (h1 : c75 ys = 1) (h2 : c76 ys = 0) (h3 : x ≠ 76) : mI M a 7 + 1 = mI M a 7 + dlv x ys := by unfold dlv; rw [h1, h2, if_neg h3]; omega
end IT
end
