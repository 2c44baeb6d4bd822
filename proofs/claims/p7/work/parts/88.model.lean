section
section
/-! The reference: its places; feed and end. -/
/-- where its lists lie -/
def nuO : List Nat := [1, 3, 5, 7, 9, 11, 14, 16, 18, 20, 22, 24, 43, 45, 47, 50, 52, 54, 56, 58, 60, 79, 81, 83, 85, 87, 89, 91, 93, 95, 99, 109, 111, 113, 115]
def nums (a : Nat) : List Nat := nuO.map (fun o => a + o)
/-- a game's places -/
def Gp (M : mM) (g : Nat) : Prop := mK M g = 16 ∧ (mR M g 0 = g + 1 ∧ mR M g 1 = g + 3 ∧ mR M g 2 = g + 5 ∧ mR M g 3 = g + 7 ∧ mR M g 4 = g + 9 ∧ mR M g 5 = g + 11 ∧ mR M g 7 = g + 13 ∧ mR M g 8 = g + 14 ∧ mR M g 9 = g + 15 ∧ mR M g 10 = g + 16 ∧ mR M g 11 = g + 17)
  ∧ (mR M g 13 = g + 18 ∧ mR M g 14 = g + 19 ∧ mR M g 15 = g + 20 ∧ mR M g 16 = g + 21 ∧ mR M g 19 = g + 22 ∧ mR M g 20 = g + 23 ∧ mR M g 21 = g + 24 ∧ mR M g 22 = g + 25 ∧ mR M g 23 = g + 26 ∧ mR M g 24 = g + 27 ∧ mR M g 25 = g + 28 ∧ mR M g 26 = g + 29 ∧ mR M g 27 = g + 30 ∧ mR M g 28 = g + 32 ∧ mR M g 29 = g + 34)
  ∧ ((mK M (g + 13) = 31 ∧ mN M (g + 13) = 60) ∧ (mK M (g + 14) = 31 ∧ mN M (g + 14) = 60) ∧ (mK M (g + 15) = 30 ∧ mN M (g + 15) = 60) ∧ (mK M (g + 16) = 33 ∧ mN M (g + 16) = 60) ∧ (mK M (g + 17) = 33 ∧ mN M (g + 17) = 60))
  ∧ ((mK M (g + 18) = 31 ∧ mN M (g + 18) = 12) ∧ (mK M (g + 19) = 30 ∧ mN M (g + 19) = 12) ∧ (mK M (g + 20) = 30 ∧ mN M (g + 20) = 12) ∧ (mK M (g + 21) = 30 ∧ mN M (g + 21) = 12))
  ∧ ((mK M (g + 22) = 31 ∧ mN M (g + 22) = 60) ∧ (mK M (g + 23) = 30 ∧ mN M (g + 23) = 60) ∧ (mK M (g + 24) = 30 ∧ mN M (g + 24) = 60) ∧ (mK M (g + 25) = 30 ∧ mN M (g + 25) = 60) ∧ (mK M (g + 26) = 30 ∧ mN M (g + 26) = 480) ∧ (mK M (g + 27) = 30 ∧ mN M (g + 27) = 480) ∧ (mK M (g + 28) = 30 ∧ mN M (g + 28) = 480) ∧ (mK M (g + 29) = 30 ∧ mN M (g + 29) = 480))
/-- the reference's places -/
def Pl (M : mM) (a : Nat) : Prop := mK M a = 14 ∧ ((mR M a 1 = a + 1 ∧ mR M a 2 = a + 3) ∨ (mR M a 1 = a + 3 ∧ mR M a 2 = a + 1)) ∧ (mR M a 3 = a + 5 ∧ mR M a 4 = a + 7 ∧ mR M a 5 = a + 9 ∧ mR M a 6 = a + 11) ∧ ((mR M a 9 = a + 13 ∧ mR M a 10 = a + 49) ∨ (mR M a 9 = a + 49 ∧ mR M a 10 = a + 13))
  ∧ (mR M a 13 = a + 85 ∧ mR M a 14 = a + 87 ∧ mR M a 15 = a + 89 ∧ mR M a 18 = a + 91 ∧ mR M a 19 = a + 93 ∧ mR M a 20 = a + 95 ∧ mR M a 21 = a + 97 ∧ mR M a 22 = a + 98 ∧ mR M a 24 = a + 99 ∧ mR M a 25 = a + 101 ∧ mR M a 26 = a + 102 ∧ mR M a 27 = a + 103 ∧ mR M a 28 = a + 104)
  ∧ (mR M a 31 = a + 105 ∧ mR M a 32 = a + 106 ∧ mR M a 33 = a + 107 ∧ mR M a 34 = a + 108 ∧ mR M a 35 = a + 109 ∧ mR M a 36 = a + 111 ∧ mR M a 37 = a + 113 ∧ mR M a 38 = a + 115 ∧ mR M a 39 = a + 117)
  ∧ (mR M a 41 = a + 21185 ∧ mR M a 42 = a + 21186 ∧ mR M a 43 = a + 21187 ∧ mR M a 44 = a + 21188 ∧ mR M a 45 = a + 21189 ∧ mR M a 46 = a + 21190 ∧ mR M a 47 = a + 21191)
  ∧ ((mK M (a + 97) = 33 ∧ mN M (a + 97) = 16400) ∧ (mK M (a + 98) = 33 ∧ mN M (a + 98) = 16400) ∧ (mK M (a + 101) = 30 ∧ mN M (a + 101) = 12) ∧ (mK M (a + 102) = 31 ∧ mN M (a + 102) = 60) ∧ (mK M (a + 103) = 33 ∧ mN M (a + 103) = 60) ∧ (mK M (a + 104) = 33 ∧ mN M (a + 104) = 60))
  ∧ ((mK M (a + 105) = 30 ∧ mN M (a + 105) = 6144) ∧ (mK M (a + 106) = 30 ∧ mN M (a + 106) = 512) ∧ (mK M (a + 107) = 30 ∧ mN M (a + 107) = 512) ∧ (mK M (a + 108) = 30 ∧ mN M (a + 108) = 512))
  ∧ ((mK M (a + 21185) = 30 ∧ mN M (a + 21185) = 4096) ∧ (mK M (a + 21186) = 33 ∧ mN M (a + 21186) = 4096) ∧ (mK M (a + 21187) = 33 ∧ mN M (a + 21187) = 4096) ∧ (mK M (a + 21188) = 30 ∧ mN M (a + 21188) = 12) ∧ (mK M (a + 21189) = 33 ∧ mN M (a + 21189) = 8) ∧ (mK M (a + 21190) = 33 ∧ mN M (a + 21190) = 8) ∧ (mK M (a + 21191) = 30 ∧ mN M (a + 21191) = 900))
  ∧ Gp M (a + 13) ∧ Gp M (a + 49)
/-- how much a list may hold -/
def Bd (a p : Nat) : Nat := if p = a + 91 ∨ p = a + 93 ∨ p = a + 95 ∨ p = a + 99 then 131072 else 65536
/-- the reference's shape -/
def Wd (M : mM) (a : Nat) : Prop := Pl M a ∧ (∀ p, p ∈ nums a → Nu M p ∧ (mR M p 0 = p + 1 ∨ a + 21192 ≤ mR M p 0) ∧ cp M p ≤ Bd a p) ∧ Apt (nums a) M ∧ a + 21192 ≤ mZ M
theorem nums_off {a p : Nat} : p ∈ nums a ↔ ∃ o, o ∈ nuO ∧ p = a + o := by
  unfold nums
  rw [List.mem_map]
  exact ⟨fun ⟨o, h1, h2⟩ => ⟨o, h1, h2.symm⟩, fun ⟨o, h1, h2⟩ => ⟨o, h1, h2.symm⟩⟩
theorem nums_lt : ∀ o ∈ nuO, 1 ≤ o ∧ o ≤ 115 ∧ o + 1 ∉ nuO := by decide
theorem nums_nodup {a : Nat} : (nums a).Nodup := by
  have h : nuO.Nodup := by decide
  exact List.Pairwise.map _ (fun x y h => by omega) h
theorem nums_in {a p : Nat} (h : p ∈ nums a) : a < p ∧ p ≤ a + 115 ∧ p + 1 ∉ nums a := by
  obtain ⟨o, h1, h2⟩ := nums_off.1 h
  have := nums_lt o h1
  refine ⟨by omega, by omega, fun w => ?_⟩
  obtain ⟨o', h3, h4⟩ := nums_off.1 w
  have e : o' = o + 1 := by omega
  rw [e] at h3
  exact this.2.2 h3
theorem nums_o {a o : Nat} (h : o ∈ nuO) : a + o ∈ nums a := nums_off.2 ⟨o, h, rfl⟩
end
section
/-! The reference: its shape stays. -/
section WD
variable {M M' : mM} {a p : Nat} {S : Nat → Prop}
theorem pl_same (hz : a + 21192 ≤ mZ M) (hk : ∀ x, x < mZ M → mK M' x = mK M x) (hn : ∀ x, x < mZ M → mN M' x = mN M x) (hr : mR M' a = mR M a) (h1 : mR M' (a + 13) = mR M (a + 13)) (h2 : mR M' (a + 49) = mR M (a + 49)) : Pl M a → Pl M' a := by
  unfold Pl Gp
  simp (disch := omega) only [hk, hn, hr, h1, h2]
  exact id
theorem Wd.nu (h : Wd M a) (hp : p ∈ nums a) : Nu M p := (h.2.1 p hp).1
theorem Wd.bd (h : Wd M a) (hp : p ∈ nums a) : cp M p ≤ Bd a p := (h.2.1 p hp).2.2
theorem bd_lo : 65536 ≤ Bd a p := by unfold Bd; split <;> omega
theorem bd_hi (h : p = a + 91 ∨ p = a + 93 ∨ p = a + 95 ∨ p = a + 99) : Bd a p = 131072 := if_pos h
theorem Wd.arr (h : Wd M a) (hp : p ∈ nums a) : mR M p 0 ∉ nums a ∧ (mR M p 0 = p + 1 ∨ a + 21192 ≤ mR M p 0) := by
  refine ⟨fun w => ?_, (h.2.1 p hp).2.1⟩
  rcases (h.2.1 p hp).2.1 with q | q
  · exact (nums_in hp).2.2 (by rw [← q]; exact w)
  · have := nums_in w
    omega
/-- the same list, with the same numbers -/
def sameN (M M' : mM) (q : Nat) : Prop := ln M' q = ln M q ∧ (∀ j, nt M' q j = nt M q j) ∧ cp M' q = cp M q ∧ mR M' q = mR M q
theorem sameN.refl {q : Nat} : sameN M M q := ⟨rfl, fun _ => rfl, rfl, rfl⟩
theorem sameN.trans {M'' : mM} {q : Nat} (h : sameN M M' q) (k : sameN M' M'' q) : sameN M M'' q :=
  ⟨k.1.trans h.1, fun j => (k.2.1 j).trans (h.2.1 j), k.2.2.1.trans h.2.2.1, k.2.2.2.trans h.2.2.2⟩
theorem Wd.one (h : Wd M a) (hp : p ∈ nums a) (f : FN (fun x => x = p) S M M') (hN : Nu M' p) (hB : cp M' p ≤ Bd a p) (hS : ∀ q, q ∈ nums a → q ≠ p → ¬ S q ∧ ¬ S (mR M q 0)) : Wd M' a ∧ ∀ q, q ∈ nums a → q ≠ p → sameN M M' q := by
  obtain ⟨h1, h2, h3, h4⟩ := id h
  have hother : ∀ q, q ∈ nums a → q ≠ p → Nu M' q ∧ sameN M M' q := fun q hq hne => by
    have aq := h.arr hq
    have ap := h.arr hp
    have a := (h.nu hq).fn f hne (fun r w => by rw [w]; exact h3 q p hq hp hne) (fun w => aq.1 (by rw [w]; exact hp)) (fun r w e => by rw [w] at e; exact ap.1 (by rw [← e]; exact hq)) (hS q hq hne).1 (hS q hq hne).2
    exact ⟨a.1, a.2.1, a.2.2.1, a.2.2.2.1, a.2.2.2.2⟩
  obtain ⟨⟨f1, f0⟩, f2, f3, f4, f5⟩ := f
  have hpi := nums_in hp
  have o13 : a + 13 ≠ p := fun w => by
    obtain ⟨o, w1, w2⟩ := nums_off.1 hp
    have e : o = 13 := by omega
    rw [e] at w1
    exact absurd w1 (by decide)
  have o49 : a + 49 ≠ p := fun w => by
    obtain ⟨o, w1, w2⟩ := nums_off.1 hp
    have e : o = 49 := by omega
    rw [e] at w1
    exact absurd w1 (by decide)
  refine ⟨⟨pl_same h4 (fun x hx => (f2 x hx).1) (fun x hx => (f2 x hx).2) (f3 a (by omega) (by omega)) (f3 _ (by omega) o13) (f3 _ (by omega) o49) h1, fun q hq => ?_, fun q r hq hr hne => ?_, by omega⟩, fun q hq hne => (hother q hq hne).2⟩
  · by_cases z : q = p
    · subst z
      refine ⟨hN, ?_, hB⟩
      rcases f5 q rfl with w | w
      · rw [w]; exact (h2 q hq).2.1
      · exact Or.inr (by omega)
    · refine ⟨(hother q hq z).1, ?_, by rw [(hother q hq z).2.2.2.1]; exact (h2 q hq).2.2⟩
      rw [(hother q hq z).2.2.2.2]
      exact (h2 q hq).2.1
  · have low : ∀ t, t ∈ nums a → t ≠ p → mR M' t 0 = mR M t 0 ∧ mR M t 0 < mZ M := fun t ht z => ⟨by rw [(hother t ht z).2.2.2.2], (h.nu ht).2.2.1.2⟩
    by_cases z : q = p
    · have zr : r ≠ p := fun w => hne (z.trans w.symm)
      have lr := low r hr zr
      rcases f5 q z with w | w
      · rw [w, lr.1]; exact h3 q r hq hr hne
      · omega
    · have lq := low q hq z
      by_cases zr : r = p
      · rcases f5 r zr with w | w
        · rw [w, lq.1]; exact h3 q r hq hr hne
        · omega
      · have lr := low r hr zr
        rw [lq.1, lr.1]
        exact h3 q r hq hr hne
/-- only numbers have changed, of no list -/
theorem Wd.fi (h : Wd M a) (f : FI S M M') (hS : ∀ q, q ∈ nums a → ¬ S q ∧ ¬ S (mR M q 0)) : Wd M' a ∧ ∀ q, q ∈ nums a → sameN M M' q := by
  have k0 := (h.nu (p := a + 1) (nums_o (by decide))).fn f.fn (fun q => q) (fun q w => w.elim) (fun q => q) (fun q w => w.elim) (hS _ (nums_o (by decide))).1 (hS _ (nums_o (by decide))).2
  have hone := h.one (p := a + 1) (S := S) (nums_o (by decide)) (f.fn.mono (P' := fun x => x = a + 1) (fun p q => q.elim) (fun x q => q) (fun p q => by have := h.2.2.2; omega)) (by
    have k := (h.nu (p := a + 1) (nums_o (by decide))).fn f.fn (fun q => q) (fun q w => w.elim) (fun q => q) (fun q w => w.elim) (hS _ (nums_o (by decide))).1 (hS _ (nums_o (by decide))).2
    exact k.1) (by rw [k0.2.2.2.1]; exact h.bd (nums_o (by decide))) (fun q hq _ => hS q hq)
  refine ⟨hone.1, fun q hq => ?_⟩
  have k := (h.nu hq).fn f.fn (fun q => q) (fun q w => w.elim) (fun q => q) (fun q w => w.elim) (hS q hq).1 (hS q hq).2
  exact ⟨k.2.1, k.2.2.1, k.2.2.2.1, k.2.2.2.2⟩
/-- one list's length has been set -/
theorem Wd.set (h : Wd M a) (hp : p ∈ nums a) {v : Int} (h0 : 0 ≤ v) (h1 : v ≤ ln M p) (e : M' = mUI M p 1 v) : Wd M' a ∧ FI (fun y => y = p) M M' ∧ ln M' p = v ∧ (∀ j, nt M' p j = nt M p j) ∧ cp M' p = cp M p ∧ ∀ q, q ∈ nums a → q ≠ p → sameN M M' q := by
  obtain ⟨a1, a2, a3, a4, a5⟩ := nu_set (h.nu hp) h0 h1 e
  have k := h.one (S := fun y => y = p) hp (a2.fn.mono (P' := fun x => x = p) (fun p q => q.elim) (fun x q => q) (fun q w => by rw [w]; exact (h.nu hp).2.2.1.1)) a1 (by rw [a5]; exact h.bd hp) (fun q hq hne => ⟨hne, fun w => (h.arr hq).1 (by rw [w]; exact hp)⟩)
  exact ⟨k.1, a2, a3, a4, a5, k.2⟩
theorem Wd.take (h : Wd M a) (hp : p ∈ nums a) {x : Int} (t : tkQ M p x M') : Wd M' a ∧ ∀ q, q ∈ nums a → q ≠ p → sameN M M' q := by
  obtain ⟨t1, t2, t3, -⟩ := t
  exact h.one (S := fun y => y = p) hp (t3.fn.mono (P' := fun x => x = p) (fun p q => q.elim) (fun x q => q) (fun q w => by rw [w]; exact (h.nu hp).2.2.1.1)) t2 (by rw [show cp M' p = cp M p by unfold cp; rw [t3.2.2.1, t3.2.1]]; exact h.bd hp) (fun q hq hne => ⟨hne, fun w => (h.arr hq).1 (by rw [w]; exact hp)⟩)
theorem Wd.add (h : Wd M a) (hp : p ∈ nums a) {v : Int} {B : Nat} (t : adB B M p v M') (hB : 2 * B ≤ Bd a p) : Wd M' a ∧ RmL (nums a) M M' ∧ ∀ q, q ∈ nums a → q ≠ p → sameN M M' q := by
  obtain ⟨t1, t2, t3, t4, t5, t6, t7, t8⟩ := t
  have k := h.one (S := fun _ => False) hp t3 t2 (by rcases t8 with u | u; · rw [u]; exact h.bd hp
                                                     · omega) (fun q hq hne => ⟨fun w => w, fun w => w⟩)
  refine ⟨k.1, ?_, k.2⟩
  have s1 := psum_one (f := cp M) (g := cp M') (nums a) nums_nodup hp (fun q hq hne => (k.2 q hq hne).2.2.1)
  have s2 := psum_one (f := fun q => cp M q / 16) (g := fun q => cp M' q / 16) (nums a) nums_nodup hp (fun q hq hne => by show cp M' q / 16 = cp M q / 16; rw [(k.2 q hq hne).2.2.1])
  have s2' : psum (fun q => cp M' q / 16) (nums a) + cp M p / 16 = psum (fun q => cp M q / 16) (nums a) + cp M' p / 16 := s2
  exact ⟨by omega, by omega⟩
end WD
end
section
/-! The reference: feed and end. -/
/-- a step of the reference: lists P have changed, and numbers of cells S -/
def Mv (P S : Nat → Prop) (M : mM) (a : Nat) (M' : mM) : Prop := mOk M' ∧ Wd M' a ∧ RmL (nums a) M M' ∧ FN P S M M' ∧ ∀ q, q ∈ nums a → ¬ P q → sameN M M' q
section MV
variable {P S P' S' : Nat → Prop} {M M1 M2 : mM} {a p : Nat}
theorem Mv.trans (h : Mv P S M a M1) (k : Mv P S M1 a M2) : Mv P S M a M2 :=
  ⟨k.1, k.2.1, h.2.2.1.trans k.2.2.1, h.2.2.2.1.trans k.2.2.2.1, fun q hq hp => (h.2.2.2.2 q hq hp).trans (k.2.2.2.2 q hq hp)⟩
theorem Mv.refl (hO : mOk M) (h : Wd M a) (hP : ∀ q, P q → q < mZ M) : Mv P S M a M :=
  ⟨hO, h, RmL.fi (S := fun _ => False) FI.refl, FN.refl hP, fun q _ _ => sameN.refl⟩
theorem Mv.mono (h : Mv P S M a M1) (hp : ∀ q, P q → P' q) (hs : ∀ x, S x → S' x) (h0 : ∀ q, P' q → q < mZ M) : Mv P' S' M a M1 :=
  ⟨h.1, h.2.1, h.2.2.1, h.2.2.2.1.mono hp hs h0, fun q hq hq' => h.2.2.2.2 q hq (fun w => hq' (hp q w))⟩
theorem Wd.lt (h : Wd M a) (hp : p ∈ nums a) : p < mZ M := (h.nu hp).2.2.1.1
theorem FN.drop (h : FN P S M M1) (hs : ∀ x, S x → P x) : FN P (fun _ => False) M M1 :=
  ⟨h.1, h.2.1, h.2.2.1, fun x hx hp hq _ => h.2.2.2.1 x hx hp hq (fun w => hp (hs x w)), h.2.2.2.2⟩
theorem mv_add {v : Int} (h : Wd M a) (hp : p ∈ nums a) (t : adQ M p v M1) : Mv (fun x => x = p) (fun _ => False) M a M1 := by
  obtain ⟨k1, k2, k3⟩ := h.add (B := 32768) hp t bd_lo
  exact ⟨t.1, k1, k2, t.2.2.1, fun q hq hne => k3 q hq hne⟩
theorem mv_addB {v : Int} (h : Wd M a) (hp : p ∈ nums a) (hb : p = a + 91 ∨ p = a + 93 ∨ p = a + 95 ∨ p = a + 99) (t : adB 65536 M p v M1) : Mv (fun x => x = p) (fun _ => False) M a M1 := by
  obtain ⟨k1, k2, k3⟩ := h.add hp t (by rw [bd_hi hb]; decide)
  exact ⟨t.1, k1, k2, t.2.2.1, fun q hq hne => k3 q hq hne⟩
theorem mv_set {v : Int} (hO : mOk M) (h : Wd M a) (hp : p ∈ nums a) (h0 : 0 ≤ v) (h1 : v ≤ ln M p) (e : M1 = mUI M p 1 v) : Mv (fun x => x = p) (fun _ => False) M a M1 ∧ ln M1 p = v ∧ (∀ j, nt M1 p j = nt M p j) ∧ cp M1 p = cp M p := by
  obtain ⟨k1, k2, k3, k4, k5, k6⟩ := h.set hp h0 h1 e
  have hN := (h.nu hp).2.2.2
  have o1 : mOk M1 := by rw [e]; exact mOk_UI hO ⟨by omega, by unfold ln at h1; omega⟩
  refine ⟨⟨o1, k1, RmL.fi k2, (k2.fn.mono (P' := fun x => x = p) (fun p q => q.elim) (fun x q => q) (fun q w => by rw [w]; exact h.lt hp)).drop (fun x w => w), fun q hq hne => k6 q hq hne⟩, k3, k4, k5⟩
theorem mv_take {x : Int} (h : Wd M a) (hp : p ∈ nums a) (t : tkQ M p x M1) : Mv (fun x => x = p) (fun _ => False) M a M1 := by
  obtain ⟨k1, k2⟩ := h.take hp t
  exact ⟨t.1, k1, RmL.fi t.2.2.1, (t.2.2.1.fn.mono (P' := fun x => x = p) (fun p q => q.elim) (fun x q => q) (fun q w => by rw [w]; exact h.lt hp)).drop (fun x w => w), fun q hq hne => k2 q hq hne⟩
/-- a number of a cell that belongs to no list -/
theorem mv_fi (o1 : mOk M1) (h : Wd M a) (f : FI S M M1) (hS : ∀ x, S x → a ≤ x ∧ x ≤ a + 21191 ∧ x ∉ nums a ∧ (∀ q, q ∈ nums a → x ≠ q + 1)) : Mv (fun _ => False) S M a M1 := by
  obtain ⟨k1, k2⟩ := h.fi f (fun q hq => ⟨fun w => (hS q w).2.2.1 hq, fun w => by
    rcases (h.arr hq).2 with z | z
    · exact (hS _ w).2.2.2 q hq z
    · have := (hS _ w).2.1; omega⟩)
  exact ⟨o1, k1, RmL.fi f, f.fn, fun q hq _ => k2 q hq⟩
theorem a_free : ∀ q, q ∈ nums a → a ≠ q + 1 := fun q hq => by have := nums_in hq; omega
theorem a_free2 : a ∉ nums a := fun w => by have := nums_in w; omega
/-- a field of the reference itself -/
theorem mv_fld {j : Nat} {v : Int} (hv : i32 v) (hO : mOk M) (h : Wd M a) (e : M1 = mUI M a j v) : Mv (fun _ => False) (fun x => x = a) M a M1 ∧ (∀ i, mI M1 a i = if i = j then v else mI M a i) := by
  have f : FI (fun x => x = a) M M1 := by rw [e]; exact FI.ui rfl
  have o1 : mOk M1 := by rw [e]; exact mOk_UI hO hv
  refine ⟨mv_fi o1 h f (fun x w => by rw [w]; exact ⟨by omega, by omega, a_free2, a_free⟩), fun i => ?_⟩
  rw [e, mI_UI]
  by_cases z : i = j
  · rw [if_pos ⟨rfl, z⟩, if_pos z]
  · rw [if_neg (fun w => z w.2), if_neg z]
theorem Mv.fld (h : Mv P S M a M1) (hw : Wd M a) (hP : ∀ q, P q → q ∈ nums a) (hS : ¬ S a) : mI M1 a = mI M a ∧ mR M1 a = mR M a := by
  have hz := hw.2.2.2
  have f := h.2.2.2.1
  have hp : ¬ P a := fun w => a_free2 (hP a w)
  refine ⟨(f.2.2.2.1 a (by omega) hp (fun q hq w => ?_) hS).1, f.2.2.1 a (by omega) hp⟩
  rcases (hw.arr (hP q hq)).2 with z | z
  · have := nums_in (hP q hq); omega
  · omega
theorem Mv.rfl_a (h : Mv P S M a M1) (hw : Wd M a) (hP : ∀ q, P q → q ∈ nums a) : mR M1 a = mR M a :=
  h.2.2.2.1.2.2.1 a (by have := hw.2.2.2; omega) (fun w => a_free2 (hP a w))
end MV
section FE
variable {G : mG} {d a : Nat} {M : mM}
theorem Wd.tape (h : Wd M a) : mR M a 1 ∈ nums a ∧ mR M a 2 ∈ nums a ∧ mR M a 1 ≠ mR M a 2 := by
  obtain ⟨⟨-, h1, -⟩, -⟩ := h
  rcases h1 with ⟨e1, e2⟩ | ⟨e1, e2⟩ <;> rw [e1, e2]
  · exact ⟨nums_o (by decide), nums_o (by decide), by omega⟩
  · exact ⟨nums_o (by decide), nums_o (by decide), by omega⟩
/-- v's four bytes -/
def byt (v : Int) (j : Nat) : Int := shrI v (24 - 8 * (j : Int)) % 256
theorem s_MM_add4 {v : Int} (hv : i32 v) (hO : mOk M) (h : Wd M a) (hs : ln M (mR M a 1) ≤ 16380) : Cv G y_MM_add4 (d + 1) [vr a, vi v] M (fun M' => Mv (fun x => x = mR M a 1) (fun _ => False) M a M' ∧ ln M' (mR M a 1) = ln M (mR M a 1) + 4 ∧ (∀ j : Nat, (j : Int) < ln M (mR M a 1) → nt M' (mR M a 1) j = nt M (mR M a 1) j) ∧ ∀ j, j < 4 → nt M' (mR M a 1) ((ln M (mR M a 1)).toNat + j) = byt v j) := by
  have hp := h.tape.1
  generalize hpe : mR M a 1 = p at *
  have hl0 : 0 ≤ ln M p := (h.nu hp).2.2.2.1.1
  refine k_MM_add4 hO hv ?_
  suffices H : ∀ (c i : Nat) (M2 : mM), i + c = 4 → Mv (fun x => x = p) (fun _ => False) M a M2 → ln M2 p = ln M p + i → (∀ j : Nat, (j : Int) < ln M p → nt M2 p j = nt M p j) → (∀ j, j < i → nt M2 p ((ln M p).toNat + j) = byt v j) → h_MM_add4_3 G d a v (24 - 8 * (i : Int)) M2 (fun M' => Mv (fun x => x = p) (fun _ => False) M a M' ∧ ln M' p = ln M p + 4 ∧ (∀ j : Nat, (j : Int) < ln M p → nt M' p j = nt M p j) ∧ ∀ j, j < 4 → nt M' p ((ln M p).toNat + j) = byt v j) from
    H 4 0 M (by omega) (Mv.refl hO h (fun q w => by rw [w]; exact h.lt hp)) (by omega) (fun j hj => rfl) (fun j hj => by omega)
  intro c
  induction c with
  | zero =>
    intro i M2 hi h2 l2 b2 n2
    have ei : i = 4 := by omega
    subst ei
    exact k_MM_add4_3 h2.1 hv ⟨by omega, by omega⟩ ⟨fun _ => ⟨h2, l2, b2, n2⟩, fun w => by omega⟩
  | succ c ih =>
    intro i M2 hi h2 l2 b2 n2
    have w2 := h2.2.1
    have hr2 : mR M2 a = mR M a := h2.rfl_a h (fun q w => by rw [w]; exact hp)
    have hN := w2.nu hp
    refine k_MM_add4_3 h2.1 hv ⟨by omega, by omega⟩ ⟨fun w => by omega, fun _ => ?_⟩
    rw [hr2, hpe]
    have e255 : andI (shrI v (24 - 8 * (i : Int))) 255 = byt v i := by
      unfold byt
      exact i_and 8 (by omega) 255 (by decide) ⟨by omega, by omega⟩
    have hb : 0 ≤ byt v i ∧ byt v i < 256 := by unfold byt; omega
    rw [e255]
    refine ⟨w2.1.1, hN.1, (s_MN_add ⟨by omega, by omega⟩ h2.1 hN (by omega)).mono (fun M3 t => ?_)⟩
    have m3 := mv_add w2 hp t
    obtain ⟨t1, t2, t3, t4, t5, t6, -⟩ := t
    have k3 := h2.trans m3
    have a := ih (i + 1) M3 (by omega) k3 (by omega) (fun j hj => by rw [t5 j (by omega)]; exact b2 j hj) (fun j hj => by
      by_cases z : j = i
      · rw [z, show (ln M p).toNat + i = (ln M2 p).toNat by first | rfl | omega]
        exact t6
      · rw [t5 _ (by omega)]
        exact n2 j (by omega))
    rw [show 24 - 8 * ((i + 1 : Nat) : Int) = 24 - 8 * (i : Int) + (-8) by first | rfl | omega] at a
    exact ⟨t1, a⟩
/-- feed's answer, and the tape after it -/
def fdQ (M : mM) (a : Nat) (v : Nat → Int) (r : Int) (M' : mM) : Prop := Mv (fun x => x = mR M a 1) (fun x => x = a) M a M' ∧ (∀ i, i ≠ 0 → mI M' a i = mI M a i) ∧ mI M' a 0 = 0 ∧ ((ln M (mR M a 1) + 20 ≤ 16384 ∧ r = ln M (mR M a 1) + 20 ∧ ln M' (mR M a 1) = r ∧ (∀ j : Nat, (j : Int) < ln M (mR M a 1) → nt M' (mR M a 1) j = nt M (mR M a 1) j) ∧ ∀ i j, i < 5 → j < 4 → nt M' (mR M a 1) ((ln M (mR M a 1)).toNat + 4 * i + j) = byt (v i) j) ∨ (16384 < ln M (mR M a 1) + 20 ∧ r = -1 ∧ sameN M M' (mR M a 1)))
theorem s_MM_feed {v : Nat → Int} (hv : ∀ i, i32 (v i)) (hO : mOk M) (h : Wd M a) (hs : ln M (mR M a 1) ≤ 16384) : Ci G y_MM_feed (d + 2) [vr a, vi (v 0), vi (v 1), vi (v 2), vi (v 3), vi (v 4)] M (fdQ M a v) := by
  have hp := h.tape.1
  have hl0 : 0 ≤ ln M (mR M a 1) := (h.nu hp).2.2.2.1.1
  have hpl : ∀ q, q = mR M a 1 → q < mZ M := fun q w => by rw [w]; exact h.lt hp
  refine k_MM_feed hO (hv 0) (hv 1) (hv 2) (hv 3) (hv 4) ⟨h.1.1, fun M1 e1 => ?_⟩
  obtain ⟨m1, f1⟩ := mv_fld ⟨by omega, by omega⟩ hO h e1
  have r1 : mR M1 a = mR M a := m1.rfl_a h (fun q w => w.elim)
  have s1 := m1.2.2.2.2 (mR M a 1) hp (fun w => w)
  have l1 : mI M1 (mR M a 1) 1 = ln M (mR M a 1) := s1.1
  have m1' : Mv (fun x => x = mR M a 1) (fun x => x = a) M a M1 := m1.mono (fun q w => w.elim) (fun x w => w) hpl
  have w1 := m1.2.1
  rw [r1, l1]
  have ha0 : mI M1 a 0 = 0 := by rw [f1, if_pos rfl]
  have ha1 : ∀ i, i ≠ 0 → mI M1 a i = mI M a i := fun i hi => by rw [f1, if_neg hi]
  refine ⟨(w1.nu hp).1, ⟨by omega, by omega⟩, fun hle => ?_, fun hgt => ⟨m1', ha1, ha0, Or.inr ⟨by omega, rfl, s1⟩⟩⟩
  -- five times four bytes
  have step : ∀ (i : Nat) (Mi : mM), i < 5 → Mv (fun x => x = mR M a 1) (fun x => x = a) M a Mi → mI Mi a = mI M1 a → ln Mi (mR M a 1) = ln M (mR M a 1) + 4 * i → (∀ j : Nat, (j : Int) < ln M (mR M a 1) → nt Mi (mR M a 1) j = nt M (mR M a 1) j) → (∀ k j, k < i → j < 4 → nt Mi (mR M a 1) ((ln M (mR M a 1)).toNat + 4 * k + j) = byt (v k) j) → Cv G y_MM_add4 (d + 1) [vr a, vi (v i)] Mi (fun Mj => mOk Mj ∧ Mv (fun x => x = mR M a 1) (fun x => x = a) M a Mj ∧ mI Mj a = mI M1 a ∧ ln Mj (mR M a 1) = ln M (mR M a 1) + 4 * ((i : Int) + 1) ∧ (∀ j : Nat, (j : Int) < ln M (mR M a 1) → nt Mj (mR M a 1) j = nt M (mR M a 1) j) ∧ (∀ k j, k < i + 1 → j < 4 → nt Mj (mR M a 1) ((ln M (mR M a 1)).toNat + 4 * k + j) = byt (v k) j)) := by
    intro i Mi hi mi ai li bi ni
    have ri : mR Mi a = mR M a := mi.rfl_a h (fun q w => by rw [w]; exact hp)
    have key := s_MM_add4 (G := G) (d := d) (hv i) mi.1 mi.2.1 (by rw [ri]; omega)
    rw [ri] at key
    refine key.mono (fun Mj hj => ?_)
    obtain ⟨mj, lj, bj, nj⟩ := hj
    refine ⟨mj.1, mi.trans (mj.mono (fun q w => w) (fun x w => w.elim) (fun q w => by rw [w]; exact mi.2.1.lt hp)), ?_, by omega, fun j hj => by rw [bj j (by omega)]; exact bi j hj, fun k j hk hj => ?_⟩
    · rw [← ai]
      exact (mj.fld mi.2.1 (fun q w => by rw [w]; exact hp) (fun w => w)).1
    · by_cases z : k = i
      · subst z
        have := nj j hj
        rw [show (ln Mi (mR M a 1)).toNat + j = (ln M (mR M a 1)).toNat + 4 * k + j by first | rfl | omega] at this
        exact this
      · rw [bj _ (by omega)]
        exact ni k j (by omega) hj
  refine (step 0 M1 (by omega) m1' rfl (by rw [s1.1]; omega) (fun j _ => s1.2.1 j) (fun k j hk => by omega)).mono (fun M2 h2 => ?_)
  obtain ⟨o2, m2, a2, l2, b2, n2⟩ := h2
  refine ⟨o2, m2.2.1.1.1, (step 1 M2 (by omega) m2 a2 (by omega) b2 n2).mono (fun M3 h3 => ?_)⟩
  obtain ⟨o3, m3, a3, l3, b3, n3⟩ := h3
  refine ⟨o3, m3.2.1.1.1, (step 2 M3 (by omega) m3 a3 (by omega) b3 n3).mono (fun M4 h4 => ?_)⟩
  obtain ⟨o4, m4, a4, l4, b4, n4⟩ := h4
  refine ⟨o4, m4.2.1.1.1, (step 3 M4 (by omega) m4 a4 (by omega) b4 n4).mono (fun M5 h5 => ?_)⟩
  obtain ⟨o5, m5, a5, l5, b5, n5⟩ := h5
  refine ⟨o5, m5.2.1.1.1, (step 4 M5 (by omega) m5 a5 (by omega) b5 n5).mono (fun M6 h6 => ?_)⟩
  obtain ⟨o6, m6, a6, l6, b6, n6⟩ := h6
  have r6 : mR M6 a = mR M a := m6.rfl_a h (fun q w => by rw [w]; exact hp)
  rw [r6]
  have l6' : mI M6 (mR M a 1) 1 = ln M (mR M a 1) + 20 := by
    have : mI M6 (mR M a 1) 1 = ln M6 (mR M a 1) := rfl
    omega
  rw [l6']
  refine ⟨o6, m6.2.1.1.1, (m6.2.1.nu hp).1, m6, fun i hi => by rw [a6]; exact ha1 i hi, by rw [a6]; exact ha0, Or.inl ⟨hle, rfl, l6', b6, fun i j hi hj => n6 i j (by omega) hj⟩⟩
/-- end's answer -/
theorem s_MM_end {n : Int} (hn : i32 n) (hO : mOk M) (h : Wd M a) (hs : ln M (mR M a 1) ≤ 16384) : Ci G y_MM_end d [vr a, vi n] M (fun r M' => Mv (fun x => x = mR M a 1) (fun x => x = a) M a M' ∧ (∀ i, i ≠ 0 → mI M' a i = mI M a i) ∧ ((0 ≤ n ∧ n ≤ 20 ∧ 20 ≤ ln M (mR M a 1) ∧ mI M' a 0 = 0 ∧ r = ln M (mR M a 1) - 20 + n ∧ ln M' (mR M a 1) = r ∧ ∀ j, nt M' (mR M a 1) j = nt M (mR M a 1) j) ∨ (¬ (0 ≤ n ∧ n ≤ 20 ∧ 20 ≤ ln M (mR M a 1)) ∧ mI M' a 0 = 1 ∧ r = 0 ∧ sameN M M' (mR M a 1)))) := by
  have hp := h.tape.1
  have hl0 : 0 ≤ ln M (mR M a 1) := (h.nu hp).2.2.2.1.1
  have hpl : ∀ q, q = mR M a 1 → q < mZ M := fun q w => by rw [w]; exact h.lt hp
  have el : mI M (mR M a 1) 1 = ln M (mR M a 1) := rfl
  refine k_MM_end hO hn ?_
  rw [el]
  refine ⟨fun _ _ => ⟨h.1.1, (h.nu hp).1⟩, fun v hv => ⟨h.1.1, fun M1 e1 => ?_⟩⟩
  obtain ⟨m1, f1⟩ := mv_fld (v := v) ⟨by split at hv <;> omega, by split at hv <;> omega⟩ hO h e1
  have r1 : mR M1 a = mR M a := m1.rfl_a h (fun q w => w.elim)
  have s1 := m1.2.2.2.2 (mR M a 1) hp (fun w => w)
  have l1 : mI M1 (mR M a 1) 1 = ln M (mR M a 1) := s1.1
  have m1' : Mv (fun x => x = mR M a 1) (fun x => x = a) M a M1 := m1.mono (fun q w => w.elim) (fun x w => w) hpl
  have w1 := m1.2.1
  have ha0 : mI M1 a 0 = v := by rw [f1, if_pos rfl]
  have ha1 : ∀ i, i ≠ 0 → mI M1 a i = mI M a i := fun i hi => by rw [f1, if_neg hi]
  rw [ha0, r1, l1]
  by_cases q : n < 0 ∨ (20 < n ∨ ¬ (20 ≤ ln M (mR M a 1)))
  · rw [if_pos q] at hv
    exact ⟨fun w => by omega, fun _ => ⟨m1', ha1, Or.inr ⟨by omega, hv, rfl, s1⟩⟩⟩
  · rw [if_neg q] at hv
    refine ⟨fun _ => ⟨(w1.nu hp).1, ⟨by omega, by omega⟩, fun M2 e2 => ?_⟩, fun w => by omega⟩
    obtain ⟨m2, l2, n2, -⟩ := mv_set m1.1 w1 hp (v := ln M (mR M a 1) - 20 + n) (by omega) (by rw [s1.1]; omega) e2
    have r2 : mR M2 a = mR M1 a := m2.rfl_a w1 (fun q w => by rw [w]; exact hp)
    have i2 := (m2.fld w1 (fun q w => by rw [w]; exact hp) (fun w => w)).1
    rw [r2, r1]
    have l2' : mI M2 (mR M a 1) 1 = ln M (mR M a 1) - 20 + n := l2
    rw [l2']
    exact ⟨(m2.2.1.nu hp).1, m1'.trans (m2.mono (fun q w => w) (fun x w => w.elim) (fun q w => by rw [w]; exact w1.lt hp)), fun i hi => by rw [i2]; exact ha1 i hi, Or.inl ⟨by omega, by omega, by omega, by rw [i2, ha0, hv], rfl, l2, fun j => by rw [n2 j]; exact s1.2.1 j⟩⟩
end FE
end
section
/-! The reference: cutting the text into words. -/
/-- the letter at i -/
def lt (M : mM) (a i : Nat) : Int := if (i : Int) < ln M (mR M a 2) then nt M (mR M a 2) i else 0
def isL (c : Int) : Prop := (97 ≤ c ∧ c ≤ 122) ∨ (65 ≤ c ∧ c ≤ 90)
section LX
variable {G : mG} {d a : Nat} {M : mM}
theorem Wd.t0 (h : Wd M a) : 0 ≤ ln M (mR M a 2) := (h.nu h.tape.2.1).2.2.2.1.1
theorem s_MM_letter {i : Nat} (hi : (i : Int) < 2147483648) (hO : mOk M) (h : Wd M a) : Ci G y_MM_letter (d + 1) [vr a, vi i] M (fun x M' => M' = M ∧ x = lt M a i) := by
  have hp := h.tape.2.1
  have el : mI M (mR M a 2) 1 = ln M (mR M a 2) := rfl
  refine k_MM_letter hO ⟨by omega, by omega⟩ ?_
  rw [el]
  unfold lt
  refine ⟨h.1.1, (h.nu hp).1, fun w => ⟨rfl, by rw [if_neg (by omega)]⟩, fun w => (s_MN_at hO (h.nu hp) (by omega)).mono (fun x M1 h1 => ?_)⟩
  obtain ⟨e1, hx⟩ := h1
  subst e1
  refine ⟨?_, hO, rfl, by rw [if_pos (by omega)]; exact hx⟩
  rw [hx]
  exact (hO _ _).1
theorem lt_i32 (hO : mOk M) {i : Nat} : i32 (lt M a i) := by
  unfold lt
  split
  · exact (hO _ _).1
  · exact ⟨by omega, by omega⟩
end LX
end
section
/-! The reference: the words of the text. -/
/-- a word: kind, place, end; T letters in all -/
def wok (M : mM) (a : Nat) (k p e : Int) : Prop := (0 ≤ k ∧ k ≤ 39) ∧ (0 ≤ p ∧ p ≤ e ∧ e ≤ ln M (mR M a 2)) ∧ (1 ≤ k → p < e) ∧ (k = 2 → e ≤ p + 9 ∧ ∀ j : Nat, p ≤ j → (j : Int) < e → 48 ≤ nt M (mR M a 2) j ∧ nt M (mR M a 2) j ≤ 57) ∧ (k = 1 → e ≤ p + 40)
abbrev wP (a : Nat) : Nat → Prop := fun x => x = a + 5 ∨ x = a + 7 ∨ x = a + 9
theorem wP_in {a q : Nat} (h : wP a q) : q ∈ nums a := by
  rcases h with h | h | h <;> rw [h]
  · exact nums_o (by decide)
  · exact nums_o (by decide)
  · exact nums_o (by decide)
section WO
variable {G : mG} {d a : Nat} {M : mM}
/-- c words -/
def wds (M : mM) (a c : Nat) : Prop := ln M (a + 5) = c ∧ ln M (a + 7) = c ∧ ln M (a + 9) = c
theorem s_MM_word0 {k p e : Int} {c : Nat} (hk : i32 k) (hp : i32 p) (he : i32 e) (hO : mOk M) (h : Wd M a) (hc : wds M a c) (hc5 : c ≤ 20000) : Cv G y_MM_word0 (d + 1) [vr a, vi k, vi p, vi e] M (fun M' => Mv (wP a) (fun _ => False) M a M' ∧ wds M' a (c + 1) ∧ (∀ j, j < c → nt M' (a + 5) j = nt M (a + 5) j ∧ nt M' (a + 7) j = nt M (a + 7) j ∧ nt M' (a + 9) j = nt M (a + 9) j) ∧ nt M' (a + 5) c = k ∧ nt M' (a + 7) c = p ∧ nt M' (a + 9) c = e) := by
  obtain ⟨c1, c2, c3⟩ := hc
  have i5 : a + 5 ∈ nums a := nums_o (by decide)
  have i7 : a + 7 ∈ nums a := nums_o (by decide)
  have i9 : a + 9 ∈ nums a := nums_o (by decide)
  have hwl : ∀ (M2 : mM), Wd M2 a → ∀ q, wP a q → q < mZ M2 := fun M2 w q hq => w.lt (wP_in hq)
  refine k_MM_word0 hO hk hp he ?_
  rw [h.1.2.2.1.1]
  refine ⟨h.1.1, (h.nu i5).1, (s_MN_add hk hO (h.nu i5) (by omega)).mono (fun M1 t1 => ?_)⟩
  have m1 := mv_add h i5 t1
  have w1 := m1.2.1
  have s17 := m1.2.2.2.2 (a + 7) i7 (by omega)
  have s19 := m1.2.2.2.2 (a + 9) i9 (by omega)
  obtain ⟨o1, -, -, l1, b1, v1, -⟩ := t1
  rw [w1.1.2.2.1.2.1]
  refine ⟨o1, w1.1.1, (w1.nu i7).1, (s_MN_add hp o1 (w1.nu i7) (by rw [s17.1]; omega)).mono (fun M2 t2 => ?_)⟩
  have m2 := mv_add w1 i7 t2
  have w2 := m2.2.1
  have s25 := m2.2.2.2.2 (a + 5) i5 (by omega)
  have s29 := m2.2.2.2.2 (a + 9) i9 (by omega)
  obtain ⟨o2, -, -, l2, b2, v2, -⟩ := t2
  rw [w2.1.2.2.1.2.2.1]
  refine ⟨o2, w2.1.1, (w2.nu i9).1, (s_MN_add he o2 (w2.nu i9) (by rw [s29.1, s19.1]; omega)).mono (fun M3 t3 => ?_)⟩
  have m3 := mv_add w2 i9 t3
  have s35 := m3.2.2.2.2 (a + 5) i5 (by omega)
  have s37 := m3.2.2.2.2 (a + 7) i7 (by omega)
  obtain ⟨o3, -, -, l3, b3, v3, -⟩ := t3
  have e1 : (ln M (a + 5)).toNat = c := by omega
  have e2 : (ln M1 (a + 7)).toNat = c := by rw [s17.1]; omega
  have e3 : (ln M2 (a + 9)).toNat = c := by rw [s29.1, s19.1]; omega
  rw [e1] at v1
  rw [e2] at v2
  rw [e3] at v3
  refine ⟨o3, ((m1.mono (fun q w => Or.inl w) (fun x w => w) (hwl M h)).trans (m2.mono (fun q w => Or.inr (Or.inl w)) (fun x w => w) (hwl M1 w1))).trans (m3.mono (fun q w => Or.inr (Or.inr w)) (fun x w => w) (hwl M2 w2)), ⟨by rw [s35.1, s25.1]; omega, by rw [s37.1]; have := s17.1; omega, by have := s29.1; have := s19.1; omega⟩, fun j hj => ⟨?_, ?_, ?_⟩, ?_, ?_, v3⟩
  · rw [s35.2.1, s25.2.1, b1 j (by omega)]
  · rw [s37.2.1, b2 j (by rw [s17.1]; omega), s17.2.1]
  · rw [b3 j (by rw [s29.1, s19.1]; omega), s29.2.1, s19.2.1]
  · rw [s35.2.1, s25.2.1, v1]
  · rw [s37.2.1, v2]
/-- the text stays -/
theorem Mv.text {M1 : mM} (h : Mv (wP a) (fun _ => False) M a M1) (hw : Wd M a) : mR M1 a = mR M a ∧ sameN M M1 (mR M a 2) := by
  refine ⟨h.rfl_a hw (fun q w => wP_in w), h.2.2.2.2 _ hw.tape.2.1 (fun w => ?_)⟩
  rcases hw.1.2.1 with ⟨e1, e2⟩ | ⟨e1, e2⟩ <;> rw [e2] at w <;> omega
theorem wok.same {M1 : mM} {k p e : Int} (h : wok M a k p e) (hr : mR M1 a = mR M a) (hs : sameN M M1 (mR M a 2)) : wok M1 a k p e := by
  unfold wok at h ⊢
  rw [hr, hs.1]
  obtain ⟨h1, h2, h3, h4, h5⟩ := h
  exact ⟨h1, h2, h3, fun w => ⟨(h4 w).1, fun j a1 a2 => by rw [hs.2.1]; exact (h4 w).2 j a1 a2⟩, h5⟩
/-- the words so far are sound, and none is wrong or the last -/
def wgd (M : mM) (a c : Nat) : Prop := ∀ j, j < c → wok M a (nt M (a + 5) j) (nt M (a + 7) j) (nt M (a + 9) j) ∧ 1 ≤ nt M (a + 5) j ∧ nt M (a + 5) j ≠ 39
/-- after cutting: the last word is the end, or wrong -/
def cutQ (M : mM) (a : Nat) (M' : mM) : Prop := Mv (wP a) (fun _ => False) M a M' ∧ ∃ c, wds M' a (c + 1) ∧ (c : Int) ≤ ln M (mR M a 2) ∧ wgd M' a c ∧ wok M' a (nt M' (a + 5) c) (nt M' (a + 7) c) (nt M' (a + 9) c) ∧ (nt M' (a + 5) c = 0 ∨ nt M' (a + 5) c = 39)
def cuI (M : mM) (a c : Nat) (M2 : mM) : Prop := Mv (wP a) (fun _ => False) M a M2 ∧ wds M2 a c ∧ wgd M2 a c
/-- kinds of words told by their letters -/
def WKs (G : mG) : Prop := ∀ (d a f e : Nat) (M : mM), mOk M → Wd M a → f < e → (e : Int) ≤ ln M (mR M a 2) → e ≤ f + 40 → ln M (mR M a 2) ≤ 16384 → Ci G y_MM_wordKind (d + 5) [vr a, vi f, vi e] M (fun x M' => M' = M ∧ 1 ≤ x ∧ x ≤ 15 ∧ x ≠ 2)
end WO
end
section
/-! The reference: the grammar of the text. -/
def ex50 (nx : Int) : Option (List Int × Nat) := if nx = 0 then some ([], 1) else if nx = 3 ∨ nx = 6 then some ([51, 34, 50], 1) else if nx = 4 then some ([1, 33, 53, 54, 34, 50], 1) else if nx = 7 ∨ nx = 8 then some ([61, 17, 56, 57, 34, 50], 1) else if nx = 11 then some ([61, 34, 50], 1) else none
def ex51 (nx : Int) : Option (List Int × Nat) := some ([1, 23, 61], 0)
def ex53 (nx : Int) : Option (List Int × Nat) := if nx = 5 then some ([], 1) else some ([61, 16, 61], 0)
def ex54 (nx : Int) : Option (List Int × Nat) := if nx = 9 then some ([61], 1) else some ([], 0)
def ex56 (nx : Int) : Option (List Int × Nat) := some ([63, 33, 58], 0)
def ex57 (nx : Int) : Option (List Int × Nat) := if nx = 24 then some ([56, 57], 1) else some ([], 0)
def ex58 (nx : Int) : Option (List Int × Nat) := if nx = 10 then some ([], 1) else some ([59, 60], 0)
def ex59 (nx : Int) : Option (List Int × Nat) := if nx = 36 then some ([1, 38, 23, 61, 37, 75], 1) else none
def ex60 (nx : Int) : Option (List Int × Nat) := if nx = 29 then some ([59, 60], 1) else some ([], 0)
def ex61 (nx : Int) : Option (List Int × Nat) := some ([63, 62], 0)
def ex62 (nx : Int) : Option (List Int × Nat) := if nx = 32 then some ([61, 33, 61, 75], 1) else some ([], 0)
def ex63 (nx : Int) : Option (List Int × Nat) := some ([65, 64], 0)
def ex64 (nx : Int) : Option (List Int × Nat) := if nx = 30 then some ([65, 64], 1) else some ([], 0)
def ex65 (nx : Int) : Option (List Int × Nat) := some ([67, 66], 0)
def ex66 (nx : Int) : Option (List Int × Nat) := if nx = 29 then some ([67, 66], 1) else some ([], 0)
def ex67 (nx : Int) : Option (List Int × Nat) := if nx = 31 then some ([67, 75], 1) else some ([69, 68], 0)
def ex68 (nx : Int) : Option (List Int × Nat) := if 18 ≤ nx ∧ nx ≤ 23 then some ([69], 1) else some ([], 0)
def ex69 (nx : Int) : Option (List Int × Nat) := some ([71, 70], 0)
def ex70 (nx : Int) : Option (List Int × Nat) := if nx = 24 ∨ nx = 25 then some ([71, 70], 1) else some ([], 0)
def ex71 (nx : Int) : Option (List Int × Nat) := some ([73, 72], 0)
def ex72 (nx : Int) : Option (List Int × Nat) := if nx = 26 ∨ nx = 27 ∨ nx = 28 then some ([73, 72], 1) else some ([], 0)
def ex73 (nx : Int) : Option (List Int × Nat) := if nx = 1 ∨ nx = 2 ∨ nx = 12 ∨ nx = 13 then some ([], 1) else if nx = 14 ∨ nx = 15 then some ([76, 61, 74, 37, 75], 1) else if nx = 25 then some ([73, 75], 1) else if nx = 36 then some ([61, 37, 75], 1) else none
def ex74 (nx : Int) : Option (List Int × Nat) := if nx = 35 then some ([61, 74], 1) else some ([], 0)
def ex76 (nx : Int) : Option (List Int × Nat) := if nx = 36 then some ([], 1) else none
/-- what a sign of the grammar becomes before the word nx, top first, and how many words it takes -/
def ex (x nx : Int) : Option (List Int × Nat) := if x = 50 then ex50 nx else if x = 51 then ex51 nx else if x = 53 then ex53 nx else if x = 54 then ex54 nx else if x = 56 then ex56 nx else if x = 57 then ex57 nx else if x = 58 then ex58 nx else if x = 59 then ex59 nx else if x = 60 then ex60 nx else if x = 61 then ex61 nx else if x = 62 then ex62 nx else if x = 63 then ex63 nx else if x = 64 then ex64 nx else if x = 65 then ex65 nx else if x = 66 then ex66 nx else if x = 67 then ex67 nx else if x = 68 then ex68 nx else if x = 69 then ex69 nx else if x = 70 then ex70 nx else if x = 71 then ex71 nx else if x = 72 then ex72 nx else if x = 73 then ex73 nx else if x = 74 then ex74 nx else if x = 76 then ex76 nx else none
theorem ex_50 {nx : Int} : ex 50 nx = ex50 nx := rfl
theorem ex_51 {nx : Int} : ex 51 nx = ex51 nx := rfl
theorem ex_53 {nx : Int} : ex 53 nx = ex53 nx := rfl
theorem ex_54 {nx : Int} : ex 54 nx = ex54 nx := rfl
theorem ex_56 {nx : Int} : ex 56 nx = ex56 nx := rfl
theorem ex_57 {nx : Int} : ex 57 nx = ex57 nx := rfl
theorem ex_58 {nx : Int} : ex 58 nx = ex58 nx := rfl
theorem ex_59 {nx : Int} : ex 59 nx = ex59 nx := rfl
theorem ex_60 {nx : Int} : ex 60 nx = ex60 nx := rfl
theorem ex_61 {nx : Int} : ex 61 nx = ex61 nx := rfl
theorem ex_62 {nx : Int} : ex 62 nx = ex62 nx := rfl
theorem ex_63 {nx : Int} : ex 63 nx = ex63 nx := rfl
theorem ex_64 {nx : Int} : ex 64 nx = ex64 nx := rfl
theorem ex_65 {nx : Int} : ex 65 nx = ex65 nx := rfl
theorem ex_66 {nx : Int} : ex 66 nx = ex66 nx := rfl
theorem ex_67 {nx : Int} : ex 67 nx = ex67 nx := rfl
theorem ex_68 {nx : Int} : ex 68 nx = ex68 nx := rfl
theorem ex_69 {nx : Int} : ex 69 nx = ex69 nx := rfl
theorem ex_70 {nx : Int} : ex 70 nx = ex70 nx := rfl
theorem ex_71 {nx : Int} : ex 71 nx = ex71 nx := rfl
theorem ex_72 {nx : Int} : ex 72 nx = ex72 nx := rfl
theorem ex_73 {nx : Int} : ex 73 nx = ex73 nx := rfl
theorem ex_74 {nx : Int} : ex 74 nx = ex74 nx := rfl
theorem ex_76 {nx : Int} : ex 76 nx = ex76 nx := rfl
/-- the signs -/
def sgs : List Int := [50, 51, 53, 54, 56, 57, 58, 59, 60, 61, 62, 63, 64, 65, 66, 67, 68, 69, 70, 71, 72, 73, 74, 75, 76, 1, 16, 17, 23, 33, 34, 37, 38]
/-- how high the pile grows over a sign -/
def hgt (x : Int) : Nat := if x = 50 then 11 else if x = 51 then 6 else if x = 53 then 8 else if x = 54 then 6 else if x = 56 then 7 else if x = 57 then 8 else if x = 58 then 1 else if x = 60 then 1 else if x = 61 then 6 else if x = 63 then 5 else if x = 64 then 5 else if x = 65 then 4 else if x = 66 then 4 else if x = 67 then 3 else if x = 68 then 2 else if x = 69 then 2 else if x = 70 then 2 else if x = 71 then 1 else if x = 72 then 1 else if x = 74 then 7 else 0
/-- how much there is to do for a sign -/
def wgt (x : Int) : Nat := if x = 51 then 16 else if x = 53 then 28 else if x = 56 then 16 else if x = 58 then 3 else if x = 61 then 13 else if x = 63 then 11 else if x = 65 then 9 else if x = 67 then 7 else if x = 69 then 5 else if x = 71 then 3 else 1
def c75 : List Int → Nat
  | [] => 0
  | x :: r => (if x = 75 then 1 else 0) + c75 r
def c76 : List Int → Nat
  | [] => 0
  | x :: r => (if x = 76 then 1 else 0) + c76 r
def swt : List Int → Nat
  | [] => 0
  | x :: r => wgt x + swt r
/-- the pile is not too high anywhere -/
def hbd : List Int → Prop
  | [] => True
  | x :: r => r.length + hgt x ≤ 11 + 9 * c75 r ∧ hbd r
/-- what is put down in place of x fits below h -/
def fits (h : Nat) : List Int → Bool
  | [] => true
  | y :: r => decide (r.length + hgt y ≤ h + 9 * c75 r) && fits h r
def chk (x : Int) (ys : List Int) (t : Nat) : Bool := fits (hgt x) ys && ys.all (fun y => sgs.contains y) && !(ys.tail.contains 76) && (decide (t = 0 ∨ t = 1)) && (decide (swt ys + 1 ≤ wgt x + 40 * t)) && (decide (t = 0 → swt ys + 1 ≤ wgt x)) && (decide (x = 50 → ys = [] ∨ (ys.getLast? = some 50 ∧ !(ys.dropLast.contains 50)))) && (decide (x ≠ 50 → !(ys.contains 50)))
theorem ex_chk {x nx : Int} {ys : List Int} {t : Nat} (h : ex x nx = some (ys, t)) : chk x ys t = true := by
  unfold ex at h
  by_cases q50 : x = 50
  · rw [if_pos q50] at h
    subst q50
    unfold ex50 at h
    by_cases c0 : nx = 0
    · rw [if_pos c0] at h; cases h; decide
    rw [if_neg c0] at h
    by_cases c1 : nx = 3 ∨ nx = 6
    · rw [if_pos c1] at h; cases h; decide
    rw [if_neg c1] at h
    by_cases c2 : nx = 4
    · rw [if_pos c2] at h; cases h; decide
    rw [if_neg c2] at h
    by_cases c3 : nx = 7 ∨ nx = 8
    · rw [if_pos c3] at h; cases h; decide
    rw [if_neg c3] at h
    by_cases c4 : nx = 11
    · rw [if_pos c4] at h; cases h; decide
    rw [if_neg c4] at h
    cases h
  rw [if_neg q50] at h
  by_cases q51 : x = 51
  · rw [if_pos q51] at h
    subst q51
    unfold ex51 at h
    cases h; decide
  rw [if_neg q51] at h
  by_cases q53 : x = 53
  · rw [if_pos q53] at h
    subst q53
    unfold ex53 at h
    by_cases c0 : nx = 5
    · rw [if_pos c0] at h; cases h; decide
    rw [if_neg c0] at h
    cases h; decide
  rw [if_neg q53] at h
  by_cases q54 : x = 54
  · rw [if_pos q54] at h
    subst q54
    unfold ex54 at h
    by_cases c0 : nx = 9
    · rw [if_pos c0] at h; cases h; decide
    rw [if_neg c0] at h
    cases h; decide
  rw [if_neg q54] at h
  by_cases q56 : x = 56
  · rw [if_pos q56] at h
    subst q56
    unfold ex56 at h
    cases h; decide
  rw [if_neg q56] at h
  by_cases q57 : x = 57
  · rw [if_pos q57] at h
    subst q57
    unfold ex57 at h
    by_cases c0 : nx = 24
    · rw [if_pos c0] at h; cases h; decide
    rw [if_neg c0] at h
    cases h; decide
  rw [if_neg q57] at h
  by_cases q58 : x = 58
  · rw [if_pos q58] at h
    subst q58
    unfold ex58 at h
    by_cases c0 : nx = 10
    · rw [if_pos c0] at h; cases h; decide
    rw [if_neg c0] at h
    cases h; decide
  rw [if_neg q58] at h
  by_cases q59 : x = 59
  · rw [if_pos q59] at h
    subst q59
    unfold ex59 at h
    by_cases c0 : nx = 36
    · rw [if_pos c0] at h; cases h; decide
    rw [if_neg c0] at h
    cases h
  rw [if_neg q59] at h
  by_cases q60 : x = 60
  · rw [if_pos q60] at h
    subst q60
    unfold ex60 at h
    by_cases c0 : nx = 29
    · rw [if_pos c0] at h; cases h; decide
    rw [if_neg c0] at h
    cases h; decide
  rw [if_neg q60] at h
  by_cases q61 : x = 61
  · rw [if_pos q61] at h
    subst q61
    unfold ex61 at h
    cases h; decide
  rw [if_neg q61] at h
  by_cases q62 : x = 62
  · rw [if_pos q62] at h
    subst q62
    unfold ex62 at h
    by_cases c0 : nx = 32
    · rw [if_pos c0] at h; cases h; decide
    rw [if_neg c0] at h
    cases h; decide
  rw [if_neg q62] at h
  by_cases q63 : x = 63
  · rw [if_pos q63] at h
    subst q63
    unfold ex63 at h
    cases h; decide
  rw [if_neg q63] at h
  by_cases q64 : x = 64
  · rw [if_pos q64] at h
    subst q64
    unfold ex64 at h
    by_cases c0 : nx = 30
    · rw [if_pos c0] at h; cases h; decide
    rw [if_neg c0] at h
    cases h; decide
  rw [if_neg q64] at h
  by_cases q65 : x = 65
  · rw [if_pos q65] at h
    subst q65
    unfold ex65 at h
    cases h; decide
  rw [if_neg q65] at h
  by_cases q66 : x = 66
  · rw [if_pos q66] at h
    subst q66
    unfold ex66 at h
    by_cases c0 : nx = 29
    · rw [if_pos c0] at h; cases h; decide
    rw [if_neg c0] at h
    cases h; decide
  rw [if_neg q66] at h
  by_cases q67 : x = 67
  · rw [if_pos q67] at h
    subst q67
    unfold ex67 at h
    by_cases c0 : nx = 31
    · rw [if_pos c0] at h; cases h; decide
    rw [if_neg c0] at h
    cases h; decide
  rw [if_neg q67] at h
  by_cases q68 : x = 68
  · rw [if_pos q68] at h
    subst q68
    unfold ex68 at h
    by_cases c0 : 18 ≤ nx ∧ nx ≤ 23
    · rw [if_pos c0] at h; cases h; decide
    rw [if_neg c0] at h
    cases h; decide
  rw [if_neg q68] at h
  by_cases q69 : x = 69
  · rw [if_pos q69] at h
    subst q69
    unfold ex69 at h
    cases h; decide
  rw [if_neg q69] at h
  by_cases q70 : x = 70
  · rw [if_pos q70] at h
    subst q70
    unfold ex70 at h
    by_cases c0 : nx = 24 ∨ nx = 25
    · rw [if_pos c0] at h; cases h; decide
    rw [if_neg c0] at h
    cases h; decide
  rw [if_neg q70] at h
  by_cases q71 : x = 71
  · rw [if_pos q71] at h
    subst q71
    unfold ex71 at h
    cases h; decide
  rw [if_neg q71] at h
  by_cases q72 : x = 72
  · rw [if_pos q72] at h
    subst q72
    unfold ex72 at h
    by_cases c0 : nx = 26 ∨ nx = 27 ∨ nx = 28
    · rw [if_pos c0] at h; cases h; decide
    rw [if_neg c0] at h
    cases h; decide
  rw [if_neg q72] at h
  by_cases q73 : x = 73
  · rw [if_pos q73] at h
    subst q73
    unfold ex73 at h
    by_cases c0 : nx = 1 ∨ nx = 2 ∨ nx = 12 ∨ nx = 13
    · rw [if_pos c0] at h; cases h; decide
    rw [if_neg c0] at h
    by_cases c1 : nx = 14 ∨ nx = 15
    · rw [if_pos c1] at h; cases h; decide
    rw [if_neg c1] at h
    by_cases c2 : nx = 25
    · rw [if_pos c2] at h; cases h; decide
    rw [if_neg c2] at h
    by_cases c3 : nx = 36
    · rw [if_pos c3] at h; cases h; decide
    rw [if_neg c3] at h
    cases h
  rw [if_neg q73] at h
  by_cases q74 : x = 74
  · rw [if_pos q74] at h
    subst q74
    unfold ex74 at h
    by_cases c0 : nx = 35
    · rw [if_pos c0] at h; cases h; decide
    rw [if_neg c0] at h
    cases h; decide
  rw [if_neg q74] at h
  by_cases q76 : x = 76
  · rw [if_pos q76] at h
    subst q76
    unfold ex76 at h
    by_cases c0 : nx = 36
    · rw [if_pos c0] at h; cases h; decide
    rw [if_neg c0] at h
    cases h
  rw [if_neg q76] at h
  cases h
end
section
/-! The reference: the pile of what is wanted. -/
/-- the list at p holds st, top first -/
def St (M : mM) (p : Nat) (st : List Int) : Prop := ln M p = st.length ∧ ∀ i, i < st.length → nt M p (st.length - 1 - i) = st.getD i 0
theorem St.add {M M' : mM} {p B : Nat} {v : Int} {st : List Int} (h : St M p st) (t : adB B M p v M') : St M' p (v :: st) := by
  obtain ⟨h1, h2⟩ := h
  obtain ⟨-, -, -, t4, t5, t6, -⟩ := t
  refine ⟨by rw [t4, h1, List.length_cons]; omega, fun i hi => ?_⟩
  rw [List.length_cons] at hi ⊢
  cases i with
  | zero =>
    rw [show st.length + 1 - 1 - 0 = (ln M p).toNat by first | rfl | omega, t6]
    rfl
  | succ i =>
    rw [t5 _ (by omega), show st.length + 1 - 1 - (i + 1) = st.length - 1 - i by first | rfl | omega, h2 i (by omega)]
    rfl
theorem St.take {M M' : mM} {p : Nat} {x y : Int} {st : List Int} (h : St M p (x :: st)) (t : tkQ M p y M') : St M' p st ∧ y = x := by
  obtain ⟨h1, h2⟩ := h
  obtain ⟨-, -, -, t4, t5, t6⟩ := t
  rw [List.length_cons] at h1 h2
  refine ⟨⟨by omega, fun i hi => ?_⟩, ?_⟩
  · rw [t5]
    have a := h2 (i + 1) (by omega)
    rw [show st.length + 1 - 1 - (i + 1) = st.length - 1 - i by first | rfl | omega] at a
    rw [a]
    rfl
  · have a := h2 0 (by omega)
    rw [t6, show (ln M p - 1).toNat = st.length + 1 - 1 - 0 by first | rfl | omega, a]
    rfl
theorem St.same {M M' : mM} {p : Nat} {st : List Int} (h : St M p st) (s : sameN M M' p) : St M' p st := by
  obtain ⟨h1, h2⟩ := h
  exact ⟨by rw [s.1]; exact h1, fun i hi => by rw [s.2.1]; exact h2 i hi⟩
abbrev qP (a : Nat) : Nat → Prop := fun x => x = a + 11
abbrev qS (a : Nat) : Nat → Prop := fun x => x = a
def SI (M : mM) (a : Nat) (st : List Int) (lv : Int) (M2 : mM) : Prop := Mv (qP a) (qS a) M a M2 ∧ (∀ j, j ≠ 7 → mI M2 a j = mI M a j) ∧ St M2 (a + 11) st ∧ mI M2 a 7 = lv
def dlv (x : Int) (ys : List Int) : Int := c75 ys - c76 ys + (if x = 76 then 1 else 0)
def pQ (M : mM) (a : Nat) (st : List Int) (x nx r : Int) (M' : mM) : Prop := Mv (qP a) (qS a) M a M' ∧ (∀ j, j ≠ 7 → mI M' a j = mI M a j) ∧ (r = -1 ∨ ∃ ys t, ex x nx = some (ys, t) ∧ r = (t : Int) ∧ St M' (a + 11) (ys ++ st) ∧ mI M' a 7 = mI M a 7 + dlv x ys ∧ (mI M' a 7 = mI M a 7 ∨ mI M' a 7 ≤ 40))
section PI
variable {G : mG} {d a : Nat} {M M2 : mM} {st : List Int} {lv : Int}
theorem q11 : a + 11 ∈ nums a := nums_o (by decide)
theorem SI.wd (h : SI M a st lv M2) : Wd M2 a := h.1.2.1
theorem SI.ok (h : SI M a st lv M2) : mOk M2 := h.1.1
theorem SI.k (h : SI M a st lv M2) : mK M2 a = 14 := h.wd.1.1
theorem SI.r6 (h : SI M a st lv M2) : mR M2 a 6 = a + 11 := h.wd.1.2.2.1.2.2.2
theorem SI.k6 (h : SI M a st lv M2) : mK M2 (a + 11) = 15 := (h.wd.nu q11).1
theorem SI.push {v : Int} (h : SI M a st lv M2) (hl : st.length ≤ 1000) (hv : i32 v) : Cv G y_MN_add d [vr (a + 11), vi v] M2 (fun M3 => SI M a (v :: st) lv M3) := by
  obtain ⟨m, f, s, l⟩ := h
  have w := m.2.1
  refine (s_MN_add hv m.1 (w.nu q11) (by rw [s.1]; omega)).mono (fun M3 t => ?_)
  have m3 := mv_add w q11 t
  have f3 := (m3.fld w (fun q hq => by rw [hq]; exact q11) (fun hq => hq)).1
  exact ⟨m.trans (m3.mono (fun q hq => hq) (fun x hx => hx.elim) (fun q hq => by rw [hq]; exact w.lt q11)), fun j hj => by rw [f3]; exact f j hj, s.add t, by rw [f3]; exact l⟩
/-- a step is done -/
theorem SI.done {x nx : Int} {ys : List Int} {t : Nat} (h : SI M a (ys ++ st) lv M2) (he : ex x nx = some (ys, t)) (hl : lv = mI M a 7 + dlv x ys) (h4 : lv = mI M a 7 ∨ lv ≤ 40) : pQ M a st x nx (t : Int) M2 :=
  ⟨h.1, h.2.1, Or.inr ⟨ys, t, he, rfl, h.2.2.1, by rw [h.2.2.2]; exact hl, by rw [h.2.2.2]; exact h4⟩⟩
theorem SI.fail {x nx : Int} {st' : List Int} (h : SI M a st' lv M2) : pQ M a st x nx (-1) M2 := ⟨h.1, h.2.1, Or.inl rfl⟩
theorem s_MM_want {u v w : Int} (h : SI M a st lv M2) (hl : st.length ≤ 900) (hu : i32 u) (hv : i32 v) (hw : i32 w) : Cv G y_MM_want (d + 1) [vr a, vi u, vi v, vi w] M2 (fun M3 => SI M a (u :: v :: w :: st) lv M3) := by
  refine k_MM_want h.ok hu hv hw ?_
  rw [h.r6]
  refine ⟨h.k, h.k6, (h.push (by omega) hw).mono (fun M3 h3 => ?_)⟩
  rw [h3.r6]
  refine ⟨h3.ok, h3.k, h3.k6, (h3.push (by rw [List.length_cons]; omega) hv).mono (fun M4 h4 => ?_)⟩
  rw [h4.r6]
  refine ⟨h4.ok, h4.k, h4.k6, (h4.push (by rw [List.length_cons, List.length_cons]; omega) hu).mono (fun M5 h5 => ⟨h5.ok, h5⟩)⟩
/-- two signs are put down -/
theorem SI.two {u v : Int} {Q : mM → Prop} (h : SI M a st lv M2) (hl : st.length ≤ 900) (hu : i32 u) (hv : i32 v) (hQ : ∀ M3, SI M a (v :: u :: st) lv M3 → Q M3) : Cv G y_MN_add d [vr (a + 11), vi u] M2 (fun M3 => mOk M3 ∧ (mK M3 a = 14 ∧ mK M3 (mR M3 a 6) = 15 ∧ Cv G y_MN_add d [vr (mR M3 a 6), vi v] M3 (fun M4 => mOk M4 ∧ Q M4))) := by
  refine (h.push (by omega) hu).mono (fun M3 h3 => ?_)
  rw [h3.r6]
  exact ⟨h3.ok, h3.k, h3.k6, (h3.push (by rw [List.length_cons]; omega) hv).mono (fun M4 h4 => ⟨h4.ok, hQ M4 h4⟩)⟩
theorem s_MM_again {g u v : Int} (h : SI M a st lv M2) (hl : st.length ≤ 900) (hg : i32 g) (hu : i32 u) (hv : i32 v) : Ci G y_MM_again (d + 1) [vr a, vi g, vi u, vi v] M2 (fun r M3 => (g = 0 ∧ r = 0 ∧ M3 = M2) ∨ (g ≠ 0 ∧ r = 1 ∧ SI M a (v :: u :: st) lv M3)) := by
  refine k_MM_again h.ok hg hu hv ?_
  rw [h.r6]
  exact ⟨fun w => Or.inl ⟨w, rfl, rfl⟩, fun w => ⟨h.k, h.k6, h.two hl hu hv (fun M3 h3 => Or.inr ⟨w, rfl, h3⟩)⟩⟩
theorem s_MM_isComparison {x : Int} (hx : i32 x) (hO : mOk M2) : Ci G y_MM_isComparison d [vi x] M2 (fun r M3 => M3 = M2 ∧ (r = 0 ∨ r = 1) ∧ (r ≠ 0 ↔ (18 ≤ x ∧ x ≤ 23))) := by
  refine k_MM_isComparison hO hx (fun v hv => ⟨rfl, ?_, ?_⟩)
  · split at hv <;> omega
  · split at hv <;> omega
end PI
end
section
/-! The reference: one step of the grammar. -/
section IT
variable {G : mG} {d a : Nat} {M : mM} {st : List Int} {nx : Int}
theorem SI.start (hO : mOk M) (h : Wd M a) (hs : St M (a + 11) st) : SI M a st (mI M a 7) M := ⟨Mv.refl hO h (fun q hq => by rw [hq]; exact h.lt q11), fun _ _ => rfl, hs, rfl⟩
theorem i32s {x : Int} (h0 : -100000 ≤ x) (h1 : x ≤ 100000) : i32 x := ⟨by omega, by omega⟩
theorem dl0 {M : mM} {a : Nat} {x : Int} {ys : List Int} (h1 : c75 ys = 0) (h2 : c76 ys = 0) (h3 : x ≠ 76) : mI M a 7 = mI M a 7 + dlv x ys := by unfold dlv; rw [h1, h2, if_neg h3]; omega
theorem dl1 {M : mM} {a : Nat} {x : Int} {ys : List Int} (h1 : c75 ys = 1) (h2 : c76 ys = 0) (h3 : x ≠ 76) : mI M a 7 + 1 = mI M a 7 + dlv x ys := by unfold dlv; rw [h1, h2, if_neg h3]; omega
end IT
end
end
section
section
/-! The reference: one step of the grammar of rules. -/
section RU
variable {G : mG} {d a : Nat} {M : mM} {st : List Int} {nx : Int}
theorem pq_i32 {x r : Int} {M2 : mM} (h : pQ M a st x nx r M2) : i32 r := by
  rcases h.2.2 with q | ⟨ys, t, e, q, -⟩
  · rw [q]; exact i32s (by omega) (by omega)
  · have c := ex_chk e
    unfold chk at c
    simp only [Bool.and_eq_true, decide_eq_true_eq] at c
    exact i32s (by omega) (by omega)
end RU
end
section
/-! The reference: reading the text by its grammar. -/
theorem ex_t1 {x nx : Int} {ys : List Int} (h : ex x nx = some (ys, 1)) (hn : nx = 0 ∨ nx = 39) : x = 50 ∧ nx = 0 ∧ ys = [] := by
  unfold ex at h
  by_cases q50 : x = 50
  · rw [if_pos q50] at h
    unfold ex50 at h
    by_cases c0 : nx = 0
    · rw [if_pos c0] at h; cases h; exact ⟨q50, c0, rfl⟩
    rw [if_neg c0] at h
    rw [if_neg (by omega)] at h
    rw [if_neg (by omega)] at h
    rw [if_neg (by omega)] at h
    rw [if_neg (by omega)] at h
    cases h
  rw [if_neg q50] at h
  by_cases q51 : x = 51
  · rw [if_pos q51] at h
    unfold ex51 at h
    cases h
  rw [if_neg q51] at h
  by_cases q53 : x = 53
  · rw [if_pos q53] at h
    unfold ex53 at h
    rw [if_neg (by omega)] at h
    cases h
  rw [if_neg q53] at h
  by_cases q54 : x = 54
  · rw [if_pos q54] at h
    unfold ex54 at h
    rw [if_neg (by omega)] at h
    cases h
  rw [if_neg q54] at h
  by_cases q56 : x = 56
  · rw [if_pos q56] at h
    unfold ex56 at h
    cases h
  rw [if_neg q56] at h
  by_cases q57 : x = 57
  · rw [if_pos q57] at h
    unfold ex57 at h
    rw [if_neg (by omega)] at h
    cases h
  rw [if_neg q57] at h
  by_cases q58 : x = 58
  · rw [if_pos q58] at h
    unfold ex58 at h
    rw [if_neg (by omega)] at h
    cases h
  rw [if_neg q58] at h
  by_cases q59 : x = 59
  · rw [if_pos q59] at h
    unfold ex59 at h
    rw [if_neg (by omega)] at h
    cases h
  rw [if_neg q59] at h
  by_cases q60 : x = 60
  · rw [if_pos q60] at h
    unfold ex60 at h
    rw [if_neg (by omega)] at h
    cases h
  rw [if_neg q60] at h
  by_cases q61 : x = 61
  · rw [if_pos q61] at h
    unfold ex61 at h
    cases h
  rw [if_neg q61] at h
  by_cases q62 : x = 62
  · rw [if_pos q62] at h
    unfold ex62 at h
    rw [if_neg (by omega)] at h
    cases h
  rw [if_neg q62] at h
  by_cases q63 : x = 63
  · rw [if_pos q63] at h
    unfold ex63 at h
    cases h
  rw [if_neg q63] at h
  by_cases q64 : x = 64
  · rw [if_pos q64] at h
    unfold ex64 at h
    rw [if_neg (by omega)] at h
    cases h
  rw [if_neg q64] at h
  by_cases q65 : x = 65
  · rw [if_pos q65] at h
    unfold ex65 at h
    cases h
  rw [if_neg q65] at h
  by_cases q66 : x = 66
  · rw [if_pos q66] at h
    unfold ex66 at h
    rw [if_neg (by omega)] at h
    cases h
  rw [if_neg q66] at h
  by_cases q67 : x = 67
  · rw [if_pos q67] at h
    unfold ex67 at h
    rw [if_neg (by omega)] at h
    cases h
  rw [if_neg q67] at h
  by_cases q68 : x = 68
  · rw [if_pos q68] at h
    unfold ex68 at h
    rw [if_neg (by omega)] at h
    cases h
  rw [if_neg q68] at h
  by_cases q69 : x = 69
  · rw [if_pos q69] at h
    unfold ex69 at h
    cases h
  rw [if_neg q69] at h
  by_cases q70 : x = 70
  · rw [if_pos q70] at h
    unfold ex70 at h
    rw [if_neg (by omega)] at h
    cases h
  rw [if_neg q70] at h
  by_cases q71 : x = 71
  · rw [if_pos q71] at h
    unfold ex71 at h
    cases h
  rw [if_neg q71] at h
  by_cases q72 : x = 72
  · rw [if_pos q72] at h
    unfold ex72 at h
    rw [if_neg (by omega)] at h
    cases h
  rw [if_neg q72] at h
  by_cases q73 : x = 73
  · rw [if_pos q73] at h
    unfold ex73 at h
    rw [if_neg (by omega)] at h
    rw [if_neg (by omega)] at h
    rw [if_neg (by omega)] at h
    rw [if_neg (by omega)] at h
    cases h
  rw [if_neg q73] at h
  by_cases q74 : x = 74
  · rw [if_pos q74] at h
    unfold ex74 at h
    rw [if_neg (by omega)] at h
    cases h
  rw [if_neg q74] at h
  by_cases q76 : x = 76
  · rw [if_pos q76] at h
    unfold ex76 at h
    rw [if_neg (by omega)] at h
    cases h
  rw [if_neg q76] at h
  cases h
/-- the words from k on, up to n, are what st wants; in f steps -/
def Ac (w : Nat → Int) (n : Nat) : Nat → List Int → Nat → Prop
  | 0, st, k => st = [] ∧ k = n
  | _ + 1, [], _ => False
  | f + 1, x :: r, k => if x = 75 then Ac w n f r k else if x < 50 then w k = x ∧ Ac w n f r (k + 1) else ∃ ys t, ex x (w k) = some (ys, t) ∧ Ac w n f (ys ++ r) (k + t)
theorem c75_app : ∀ (u v : List Int), c75 (u ++ v) = c75 u + c75 v
  | [], v => by show c75 v = 0 + c75 v; omega
  | x :: u, v => by show (if x = 75 then 1 else 0) + c75 (u ++ v) = (if x = 75 then 1 else 0) + c75 u + c75 v; rw [c75_app u v]; omega
theorem c76_app : ∀ (u v : List Int), c76 (u ++ v) = c76 u + c76 v
  | [], v => by show c76 v = 0 + c76 v; omega
  | x :: u, v => by show (if x = 76 then 1 else 0) + c76 (u ++ v) = (if x = 76 then 1 else 0) + c76 u + c76 v; rw [c76_app u v]; omega
theorem swt_app : ∀ (u v : List Int), swt (u ++ v) = swt u + swt v
  | [], v => by show swt v = 0 + swt v; omega
  | x :: u, v => by show wgt x + swt (u ++ v) = wgt x + swt u + swt v; rw [swt_app u v]; omega
theorem c76_no : ∀ (u : List Int), 76 ∉ u → c76 u = 0
  | [], _ => rfl
  | x :: u, h => by
    show (if x = 76 then 1 else 0) + c76 u = 0
    rw [if_neg (fun q => h (by rw [q]; exact List.mem_cons_self ..)), c76_no u (fun q => h (List.mem_cons_of_mem _ q))]
theorem hbd_app {h : Nat} {r : List Int} (hr : hbd r) (hh : r.length + h ≤ 11 + 9 * c75 r) : ∀ (ys : List Int), fits h ys = true → hbd (ys ++ r)
  | [], _ => hr
  | y :: ys, hf => by
    unfold fits at hf
    simp only [Bool.and_eq_true, decide_eq_true_eq] at hf
    refine ⟨?_, hbd_app hr hh ys hf.2⟩
    show (ys ++ r).length + hgt y ≤ 11 + 9 * c75 (ys ++ r)
    rw [List.length_append, c75_app]
    omega
theorem wgt_pos {x : Int} : 1 ≤ wgt x := by unfold wgt; (repeat' split) <;> decide
/-- a pile in order -/
def gdS (st : List Int) : Prop := hbd st ∧ (∀ x, x ∈ st → x ∈ sgs) ∧ 76 ∉ st.tail
theorem gdS.len {st : List Int} (h : gdS st) {lv : Int} (hl : lv = (c75 st : Int) - c76 st) (h4 : lv ≤ 40) : st.length ≤ 400 ∧ -2 ≤ lv := by
  obtain ⟨h1, -, h3⟩ := h
  cases st with
  | nil => exact ⟨Nat.zero_le _, by rw [hl]; show (-2 : Int) ≤ ((0 : Nat) : Int) - ((0 : Nat) : Int); omega⟩
  | cons x r =>
    have e1 : c75 (x :: r) = (if x = 75 then 1 else 0) + c75 r := rfl
    have e2 : c76 (x :: r) = (if x = 76 then 1 else 0) + c76 r := rfl
    have e3 := c76_no r h3
    have e4 := h1.1
    rw [List.length_cons]
    by_cases q : x = 76
    · rw [if_pos q] at e2
      rw [if_neg (by omega)] at e1
      omega
    · rw [if_neg q] at e2
      split at e1 <;> omega
theorem gdS.step {x : Int} {r ys : List Int} {t : Nat} {nx : Int} (h : gdS (x :: r)) (he : ex x nx = some (ys, t)) : gdS (ys ++ r) ∧ (t = 0 ∨ t = 1) ∧ swt ys + 1 ≤ wgt x + 40 * t ∧ (x = 50 → ys = [] ∨ ∃ s, ys = s ++ [50] ∧ 50 ∉ s) ∧ (x ≠ 50 → 50 ∉ ys) := by
  obtain ⟨h1, h2, h3⟩ := h
  have c := ex_chk he
  unfold chk at c
  simp only [Bool.and_eq_true, decide_eq_true_eq] at c
  obtain ⟨⟨⟨⟨⟨⟨⟨c1, c2⟩, c3⟩, c4⟩, c5⟩, c6⟩, c7⟩, c8⟩ := c
  refine ⟨⟨hbd_app h1.2 h1.1 ys c1, fun y hy => ?_, ?_⟩, c4, c5, fun q => ?_, fun q => ?_⟩
  · rcases List.mem_append.1 hy with w | w
    · have := List.all_eq_true.1 c2 y w
      simpa using this
    · exact h2 y (List.mem_cons_of_mem _ w)
  · have h3' : 76 ∉ r := h3
    cases ys with
    | nil =>
      intro w
      exact h3' (List.mem_of_mem_tail w)
    | cons y u =>
      intro w
      have w' : 76 ∈ u ++ r := w
      rcases List.mem_append.1 w' with z | z
      · have c3' : ((y :: u).tail.contains 76) = false := by simpa using c3
        have : u.contains 76 = true := by simpa using z
        have e : (y :: u).tail = u := rfl
        rw [e] at c3'
        rw [c3'] at this
        exact absurd this (by decide)
      · exact h3' z
  · rcases c7 q with w | w
    · exact Or.inl w
    · refine Or.inr ⟨ys.dropLast, ?_, ?_⟩
      · have hne : ys ≠ [] := fun z => by rw [z] at w; simp at w
        have e := List.dropLast_concat_getLast hne
        have e2 := List.getLast?_eq_getLast hne
        rw [e2] at w
        have w1 : ys.getLast hne = 50 := by simpa using w.1
        rw [w1] at e
        exact e.symm
      · simpa using w.2
  · have := c8 q
    simpa using this
end
section
/-! The reference: readText. -/
section RT
variable {G : mG} {d a : Nat} {M : mM} {N : Nat}
/-- the words: c of them sound, then the end or a wrong one -/
def wrds (M : mM) (a N : Nat) : Prop := 1 ≤ N ∧ N ≤ 16385 ∧ ln M (a + 5) = N ∧ (∀ j, j + 1 < N → 1 ≤ nt M (a + 5) j ∧ nt M (a + 5) j ≤ 38) ∧ (nt M (a + 5) (N - 1) = 0 ∨ nt M (a + 5) (N - 1) = 39)
def rdI (M : mM) (a : Nat) (M2 : mM) : Prop := Mv (qP a) (qS a) M a M2 ∧ ∀ j, j ≠ 7 → j ≠ 8 → mI M2 a j = mI M a j
def rdQ (M : mM) (a N : Nat) (v : Int) (M' : mM) : Prop := rdI M a M' ∧ ((v = 0 ∧ 0 ≤ mI M' a 8 ∧ mI M' a 8 < N) ∨ (v = 1 ∧ nt M (a + 5) (N - 1) = 0 ∧ ∃ f, Ac (nt M (a + 5)) N f [50] 0))
theorem rdI.fld {M2 M3 : mM} {j : Nat} {v : Int} (h : rdI M a M2) (hv : i32 v) (hj : j = 7 ∨ j = 8) (e : M3 = mUI M2 a j v) : rdI M a M3 ∧ (∀ i, mI M3 a i = if i = j then v else mI M2 a i) ∧ ∀ q, q ∈ nums a → sameN M2 M3 q := by
  have w := h.1.2.1
  obtain ⟨m3, f3⟩ := mv_fld hv h.1.1 w e
  exact ⟨⟨h.1.trans (m3.mono (fun q hq => hq.elim) (fun x hx => hx) (fun q hq => by rw [hq]; exact w.lt q11)), fun i i7 i8 => by rw [f3, if_neg (by omega)]; exact h.2 i i7 i8⟩, f3, fun q hq => m3.2.2.2.2 q hq (fun z => z)⟩
theorem sgs_term : ∀ x, x ∈ sgs → x < 50 → (1 ≤ x ∧ x ≤ 38) := by decide
theorem sgs_item : ∀ x, x ∈ sgs → 50 ≤ x → x < 61 → (x = 50 ∨ x = 51 ∨ x = 53 ∨ x = 54 ∨ x = 56 ∨ x = 57 ∨ x = 58 ∨ x = 59 ∨ x = 60) := by decide
theorem sgs_rule : ∀ x, x ∈ sgs → 61 ≤ x → x ≠ 75 → (x = 61 ∨ x = 62 ∨ x = 63 ∨ x = 64 ∨ x = 65 ∨ x = 66 ∨ x = 67 ∨ x = 68 ∨ x = 69 ∨ x = 70 ∨ x = 71 ∨ x = 72 ∨ x = 73 ∨ x = 74 ∨ x = 76) := by decide
theorem sgs_b : ∀ x, x ∈ sgs → 1 ≤ x ∧ x ≤ 76 := by decide
end RT
end
section
/-! The reference: what the grammar means for rules. -/
/-- words i to j - 1 are an expression of strength c (0 tight, 6 loose; 7: a list of them), n deep -/
def Ex (w : Nat → Int) : Nat → Nat → Nat → Nat → Prop
  | 0, _, _, _ => False
  | n + 1, c, i, j =>
    if c = 0 then (j = i + 1 ∧ (w i = 1 ∨ w i = 2 ∨ w i = 12 ∨ w i = 13)) ∨ (w i = 25 ∧ Ex w n 0 (i + 1) j) ∨ (w i = 36 ∧ w (j - 1) = 37 ∧ Ex w n 6 (i + 1) (j - 1)) ∨ ((w i = 14 ∨ w i = 15) ∧ w (i + 1) = 36 ∧ w (j - 1) = 37 ∧ Ex w n 7 (i + 2) (j - 1))
    else if c = 1 then Ex w n 0 i j ∨ ∃ m, (w m = 26 ∨ w m = 27 ∨ w m = 28) ∧ Ex w n 1 i m ∧ Ex w n 0 (m + 1) j
    else if c = 2 then Ex w n 1 i j ∨ ∃ m, (w m = 24 ∨ w m = 25) ∧ Ex w n 2 i m ∧ Ex w n 1 (m + 1) j
    else if c = 3 then Ex w n 2 i j ∨ (∃ m, (18 ≤ w m ∧ w m ≤ 23) ∧ Ex w n 2 i m ∧ Ex w n 2 (m + 1) j) ∨ (w i = 31 ∧ Ex w n 3 (i + 1) j)
    else if c = 4 then Ex w n 3 i j ∨ ∃ m, w m = 29 ∧ Ex w n 4 i m ∧ Ex w n 3 (m + 1) j
    else if c = 5 then Ex w n 4 i j ∨ ∃ m, w m = 30 ∧ Ex w n 5 i m ∧ Ex w n 4 (m + 1) j
    else if c = 6 then Ex w n 5 i j ∨ ∃ m q, w m = 32 ∧ w q = 33 ∧ Ex w n 5 i m ∧ Ex w n 6 (m + 1) q ∧ Ex w n 6 (q + 1) j
    else if c = 7 then Ex w n 6 i j ∨ ∃ m, w m = 35 ∧ Ex w n 7 i m ∧ Ex w n 6 (m + 1) j
    else False
section EX
variable {w : Nat → Int}
theorem Ex.up : ∀ {n c i j : Nat}, Ex w n c i j → Ex w (n + 1) c i j := by
  intro n
  induction n with
  | zero => intro c i j h; exact h.elim
  | succ n ih =>
    intro c i j h
    rw [Ex] at h ⊢
    by_cases c0 : c = 0
    · rw [if_pos c0] at h ⊢
      rcases h with h | h | h | h
      · exact Or.inl h
      · exact Or.inr (Or.inl ⟨h.1, ih h.2⟩)
      · exact Or.inr (Or.inr (Or.inl ⟨h.1, h.2.1, ih h.2.2⟩))
      · exact Or.inr (Or.inr (Or.inr ⟨h.1, h.2.1, h.2.2.1, ih h.2.2.2⟩))
    rw [if_neg c0] at h ⊢
    by_cases c1 : c = 1
    · rw [if_pos c1] at h ⊢
      rcases h with h | ⟨m, h1, h2, h3⟩
      · exact Or.inl (ih h)
      · exact Or.inr ⟨m, h1, ih h2, ih h3⟩
    rw [if_neg c1] at h ⊢
    by_cases c2 : c = 2
    · rw [if_pos c2] at h ⊢
      rcases h with h | ⟨m, h1, h2, h3⟩
      · exact Or.inl (ih h)
      · exact Or.inr ⟨m, h1, ih h2, ih h3⟩
    rw [if_neg c2] at h ⊢
    by_cases c3 : c = 3
    · rw [if_pos c3] at h ⊢
      rcases h with h | ⟨m, h1, h2, h3⟩ | ⟨h1, h2⟩
      · exact Or.inl (ih h)
      · exact Or.inr (Or.inl ⟨m, h1, ih h2, ih h3⟩)
      · exact Or.inr (Or.inr ⟨h1, ih h2⟩)
    rw [if_neg c3] at h ⊢
    by_cases c4 : c = 4
    · rw [if_pos c4] at h ⊢
      rcases h with h | ⟨m, h1, h2, h3⟩
      · exact Or.inl (ih h)
      · exact Or.inr ⟨m, h1, ih h2, ih h3⟩
    rw [if_neg c4] at h ⊢
    by_cases c5 : c = 5
    · rw [if_pos c5] at h ⊢
      rcases h with h | ⟨m, h1, h2, h3⟩
      · exact Or.inl (ih h)
      · exact Or.inr ⟨m, h1, ih h2, ih h3⟩
    rw [if_neg c5] at h ⊢
    by_cases c6 : c = 6
    · rw [if_pos c6] at h ⊢
      rcases h with h | ⟨m, q, h1, h2, h3, h4, h5⟩
      · exact Or.inl (ih h)
      · exact Or.inr ⟨m, q, h1, h2, ih h3, ih h4, ih h5⟩
    rw [if_neg c6] at h ⊢
    by_cases c7 : c = 7
    · rw [if_pos c7] at h ⊢
      rcases h with h | ⟨m, h1, h2, h3⟩
      · exact Or.inl (ih h)
      · exact Or.inr ⟨m, h1, ih h2, ih h3⟩
    · rw [if_neg c7] at h
      exact h.elim
theorem Ex.add {n c i j : Nat} (h : Ex w n c i j) : ∀ k, Ex w (n + k) c i j
  | 0 => h
  | k + 1 => (Ex.add h k).up
/-- at some depth -/
def Eo (w : Nat → Int) (c i j : Nat) : Prop := ∃ n, Ex w n c i j
theorem Ex.le {n m c i j : Nat} (h : Ex w n c i j) (hl : n ≤ m) : Ex w m c i j := by
  have := h.add (m - n)
  rw [show n + (m - n) = m by first | rfl | omega] at this
  exact this
theorem Eo.two {c1 i1 j1 c2 i2 j2 : Nat} (h1 : Eo w c1 i1 j1) (h2 : Eo w c2 i2 j2) : ∃ n, Ex w n c1 i1 j1 ∧ Ex w n c2 i2 j2 := by
  obtain ⟨n1, h1⟩ := h1
  obtain ⟨n2, h2⟩ := h2
  exact ⟨n1 + n2, h1.le (by omega), h2.le (by omega)⟩
theorem Eo.one {c i j : Nat} (hc : c ≤ 6) (h : Eo w c i j) : Eo w (c + 1) i j := by
  obtain ⟨n, h⟩ := h
  refine ⟨n + 1, ?_⟩
  have hc' : c = 0 ∨ c = 1 ∨ c = 2 ∨ c = 3 ∨ c = 4 ∨ c = 5 ∨ c = 6 := by omega
  rcases hc' with q | q | q | q | q | q | q <;> subst q <;> rw [Ex]
  · exact Or.inl h
  · exact Or.inl h
  · exact Or.inl h
  · exact Or.inl h
  · exact Or.inl h
  · exact Or.inl h
  · exact Or.inl h
theorem Eo.six {c i j : Nat} (hc : c ≤ 6) (h : Eo w c i j) : Eo w 6 i j := by
  suffices H : ∀ k c, c + k = 6 → Eo w c i j → Eo w 6 i j from H (6 - c) c (by omega) h
  intro k
  induction k with
  | zero => intro c e h; have : c = 6 := by omega
            subst this; exact h
  | succ k ih => intro c e h; exact ih (c + 1) (by omega) (h.one (by omega))
theorem eo0_leaf {i : Nat} (h : w i = 1 ∨ w i = 2 ∨ w i = 12 ∨ w i = 13) : Eo w 0 i (i + 1) := ⟨1, by rw [Ex]; exact Or.inl ⟨rfl, h⟩⟩
theorem eo0_neg {i j : Nat} (h : w i = 25) (h2 : Eo w 0 (i + 1) j) : Eo w 0 i j := by
  obtain ⟨n, h2⟩ := h2
  exact ⟨n + 1, by rw [Ex]; exact Or.inr (Or.inl ⟨h, h2⟩)⟩
theorem eo0_par {i j : Nat} (h : w i = 36) (h1 : w j = 37) (h2 : Eo w 6 (i + 1) j) : Eo w 0 i (j + 1) := by
  obtain ⟨n, h2⟩ := h2
  exact ⟨n + 1, by rw [Ex]; exact Or.inr (Or.inr (Or.inl ⟨h, h1, h2⟩))⟩
theorem eo0_lst {i j : Nat} (h : w i = 14 ∨ w i = 15) (h0 : w (i + 1) = 36) (h1 : w j = 37) (h2 : Eo w 7 (i + 2) j) : Eo w 0 i (j + 1) := by
  obtain ⟨n, h2⟩ := h2
  exact ⟨n + 1, by rw [Ex]; exact Or.inr (Or.inr (Or.inr ⟨h, h0, h1, h2⟩))⟩
theorem eo1 {i m j : Nat} (h : w m = 26 ∨ w m = 27 ∨ w m = 28) (h1 : Eo w 1 i m) (h2 : Eo w 0 (m + 1) j) : Eo w 1 i j := by
  obtain ⟨n, a, b⟩ := h1.two h2
  exact ⟨n + 1, by rw [Ex]; exact Or.inr ⟨m, h, a, b⟩⟩
theorem eo2 {i m j : Nat} (h : w m = 24 ∨ w m = 25) (h1 : Eo w 2 i m) (h2 : Eo w 1 (m + 1) j) : Eo w 2 i j := by
  obtain ⟨n, a, b⟩ := h1.two h2
  exact ⟨n + 1, by rw [Ex]; exact Or.inr ⟨m, h, a, b⟩⟩
theorem eo3 {i m j : Nat} (h : 18 ≤ w m ∧ w m ≤ 23) (h1 : Eo w 2 i m) (h2 : Eo w 2 (m + 1) j) : Eo w 3 i j := by
  obtain ⟨n, a, b⟩ := h1.two h2
  exact ⟨n + 1, by rw [Ex]; exact Or.inr (Or.inl ⟨m, h, a, b⟩)⟩
theorem eo3n {i j : Nat} (h : w i = 31) (h2 : Eo w 3 (i + 1) j) : Eo w 3 i j := by
  obtain ⟨n, a⟩ := h2
  exact ⟨n + 1, by rw [Ex]; exact Or.inr (Or.inr ⟨h, a⟩)⟩
theorem eo4 {i m j : Nat} (h : w m = 29) (h1 : Eo w 4 i m) (h2 : Eo w 3 (m + 1) j) : Eo w 4 i j := by
  obtain ⟨n, a, b⟩ := h1.two h2
  exact ⟨n + 1, by rw [Ex]; exact Or.inr ⟨m, h, a, b⟩⟩
theorem eo5 {i m j : Nat} (h : w m = 30) (h1 : Eo w 5 i m) (h2 : Eo w 4 (m + 1) j) : Eo w 5 i j := by
  obtain ⟨n, a, b⟩ := h1.two h2
  exact ⟨n + 1, by rw [Ex]; exact Or.inr ⟨m, h, a, b⟩⟩
theorem eo6 {i m q j : Nat} (h : w m = 32) (hq : w q = 33) (h1 : Eo w 5 i m) (h2 : Eo w 6 (m + 1) q) (h3 : Eo w 6 (q + 1) j) : Eo w 6 i j := by
  obtain ⟨n, a, b⟩ := h1.two h2
  obtain ⟨n', c⟩ := h3
  exact ⟨n + n' + 1, by rw [Ex]; exact Or.inr ⟨m, q, h, hq, a.le (by omega), b.le (by omega), c.le (by omega)⟩⟩
theorem eo7 {i m j : Nat} (h : w m = 35) (h1 : Eo w 7 i m) (h2 : Eo w 6 (m + 1) j) : Eo w 7 i j := by
  obtain ⟨n, a, b⟩ := h1.two h2
  exact ⟨n + 1, by rw [Ex]; exact Or.inr ⟨m, h, a, b⟩⟩
end EX
end
section
/-! The reference: what readText accepts is made of expressions. -/
section DE
variable {w : Nat → Int} {n : Nat}
theorem ac_t {f k : Nat} {x : Int} {r : List Int} (hx : x < 50) (h : Ac w n f (x :: r) k) : ∃ g, g < f ∧ w k = x ∧ Ac w n g r (k + 1) := by
  cases f with
  | zero => exact absurd h.1 (by simp)
  | succ f =>
    have h' : (if x = 75 then Ac w n f r k else if x < 50 then w k = x ∧ Ac w n f r (k + 1) else ∃ ys t, ex x (w k) = some (ys, t) ∧ Ac w n f (ys ++ r) (k + t)) := h
    rw [if_neg (by omega), if_pos hx] at h'
    exact ⟨f, by omega, h'.1, h'.2⟩
theorem ac_l {f k : Nat} {r : List Int} (h : Ac w n f (75 :: r) k) : ∃ g, g < f ∧ Ac w n g r k := by
  cases f with
  | zero => exact absurd h.1 (by simp)
  | succ f =>
    have h' : (if (75 : Int) = 75 then Ac w n f r k else if (75 : Int) < 50 then w k = 75 ∧ Ac w n f r (k + 1) else ∃ ys t, ex 75 (w k) = some (ys, t) ∧ Ac w n f (ys ++ r) (k + t)) := h
    rw [if_pos rfl] at h'
    exact ⟨f, by omega, h'⟩
theorem ac_n {f k : Nat} {x : Int} {r : List Int} (hx : 50 ≤ x) (h75 : x ≠ 75) (h : Ac w n f (x :: r) k) : ∃ g ys t, g < f ∧ ex x (w k) = some (ys, t) ∧ Ac w n g (ys ++ r) (k + t) := by
  cases f with
  | zero => exact absurd h.1 (by simp)
  | succ f =>
    have h' : (if x = 75 then Ac w n f r k else if x < 50 then w k = x ∧ Ac w n f r (k + 1) else ∃ ys t, ex x (w k) = some (ys, t) ∧ Ac w n f (ys ++ r) (k + t)) := h
    rw [if_neg h75, if_neg (by omega)] at h'
    obtain ⟨ys, t, e, a⟩ := h'
    exact ⟨f, ys, t, by omega, e, a⟩
def prs : List (Int × Nat) := [(73, 0), (71, 1), (69, 2), (67, 3), (65, 4), (63, 5), (61, 6)]
def rsts : List (Int × Nat × Nat) := [(72, 1, 1), (70, 2, 2), (68, 2, 3), (66, 4, 4), (64, 5, 5), (62, 5, 6), (74, 7, 7)]
def Dm (w : Nat → Int) (n f : Nat) : Prop := ∀ x c, (x, c) ∈ prs → ∀ r k, Ac w n f (x :: r) k → ∃ j g, g < f ∧ k < j ∧ Eo w c k j ∧ Ac w n g r j
def Dr (w : Nat → Int) (n f : Nat) : Prop := ∀ x c0 c1, (x, c0, c1) ∈ rsts → ∀ r i k, Eo w c0 i k → Ac w n f (x :: r) k → ∃ j g, g < f ∧ k ≤ j ∧ Eo w c1 i j ∧ Ac w n g r j
/-- first a part, then its rest -/
theorem d_pair {f g k : Nat} {x y : Int} {c0 c1 : Nat} {r : List Int} (ih : ∀ f', f' < f → Dm w n f' ∧ Dr w n f') (hg : g < f) (hx : (x, c0) ∈ prs) (hy : (y, c0, c1) ∈ rsts) (h : Ac w n g (x :: y :: r) k) : ∃ j g', g' < f ∧ k < j ∧ Eo w c1 k j ∧ Ac w n g' r j := by
  obtain ⟨j, g1, a1, a2, a3, a4⟩ := (ih g hg).1 x c0 hx _ k h
  obtain ⟨j', g2, b1, b2, b3, b4⟩ := (ih g1 (by omega)).2 y c0 c1 hy r k j a3 a4
  exact ⟨j', g2, by omega, by omega, b3, b4⟩
/-- an operator, a part, and the rest again -/
theorem d_again {f g i k : Nat} {x y : Int} {c0 c1 c2 : Nat} {r : List Int} (ih : ∀ f', f' < f → Dm w n f' ∧ Dr w n f') (hg : g < f) (hx : (x, c0) ∈ prs) (hy : (y, c1, c2) ∈ rsts) (hop : ∀ j, Eo w c0 (k + 1) j → Eo w c1 i j) (h : Ac w n g (x :: y :: r) (k + 1)) : ∃ j g', g' < f ∧ k ≤ j ∧ Eo w c2 i j ∧ Ac w n g' r j := by
  obtain ⟨j, g1, a1, a2, a3, a4⟩ := (ih g hg).1 x c0 hx _ (k + 1) h
  obtain ⟨j', g2, b1, b2, b3, b4⟩ := (ih g1 (by omega)).2 y c1 c2 hy r i j (hop j a3) a4
  exact ⟨j', g2, by omega, by omega, b3, b4⟩
theorem d_all : ∀ f, Dm w n f ∧ Dr w n f := by
  intro f
  induction f using Nat.strongRecOn with
  | ind f ih =>
    refine ⟨fun x c hx r k h => ?_, fun x c0 c1 hx r i k he h => ?_⟩
    · have hx' : (x = 73 ∧ c = 0) ∨ (x = 71 ∧ c = 1) ∨ (x = 69 ∧ c = 2) ∨ (x = 67 ∧ c = 3) ∨ (x = 65 ∧ c = 4) ∨ (x = 63 ∧ c = 5) ∨ (x = 61 ∧ c = 6) := by
        unfold prs at hx
        simpa using hx
      rcases hx' with ⟨q1, q2⟩ | ⟨q1, q2⟩ | ⟨q1, q2⟩ | ⟨q1, q2⟩ | ⟨q1, q2⟩ | ⟨q1, q2⟩ | ⟨q1, q2⟩ <;> subst q1 q2
      · obtain ⟨g, ys, t, hg, e, a⟩ := ac_n (by omega) (by omega) h
        rw [ex_73] at e
        unfold ex73 at e
        by_cases c1 : w k = 1 ∨ w k = 2 ∨ w k = 12 ∨ w k = 13
        · rw [if_pos c1] at e
          cases e
          exact ⟨k + 1, g, hg, by omega, eo0_leaf c1, a⟩
        rw [if_neg c1] at e
        by_cases c2 : w k = 14 ∨ w k = 15
        · rw [if_pos c2] at e
          cases e
          have a' : Ac w n g (76 :: 61 :: 74 :: 37 :: 75 :: r) (k + 1) := a
          obtain ⟨g1, ys1, t1, b1, e1, a1⟩ := ac_n (by omega) (by omega) a'
          rw [ex_76] at e1
          unfold ex76 at e1
          by_cases c3 : w (k + 1) = 36
          · rw [if_pos c3] at e1
            cases e1
            have a1' : Ac w n g1 (61 :: 74 :: 37 :: 75 :: r) (k + 2) := a1
            obtain ⟨j, g2, d1, d2, d3, d4⟩ := (ih g1 (by omega)).1 61 6 (by decide) _ _ a1'
            obtain ⟨j', g3, d5, d6, d7, d8⟩ := (ih g2 (by omega)).2 74 7 7 (by decide) _ (k + 2) j (d3.one (by omega)) d4
            obtain ⟨g4, d9, d10, d11⟩ := ac_t (by omega) d8
            obtain ⟨g5, d12, d13⟩ := ac_l d11
            exact ⟨j' + 1, g5, by omega, by omega, eo0_lst c2 c3 d10 d7, d13⟩
          · rw [if_neg c3] at e1
            cases e1
        rw [if_neg c2] at e
        by_cases c3 : w k = 25
        · rw [if_pos c3] at e
          cases e
          have a' : Ac w n g (73 :: 75 :: r) (k + 1) := a
          obtain ⟨j, g2, d1, d2, d3, d4⟩ := (ih g hg).1 73 0 (by decide) _ _ a'
          obtain ⟨g5, d12, d13⟩ := ac_l d4
          exact ⟨j, g5, by omega, by omega, eo0_neg c3 d3, d13⟩
        rw [if_neg c3] at e
        by_cases c4 : w k = 36
        · rw [if_pos c4] at e
          cases e
          have a' : Ac w n g (61 :: 37 :: 75 :: r) (k + 1) := a
          obtain ⟨j, g2, d1, d2, d3, d4⟩ := (ih g hg).1 61 6 (by decide) _ _ a'
          obtain ⟨g4, d9, d10, d11⟩ := ac_t (by omega) d4
          obtain ⟨g5, d12, d13⟩ := ac_l d11
          exact ⟨j + 1, g5, by omega, by omega, eo0_par c4 d10 d3, d13⟩
        rw [if_neg c4] at e
        cases e
      · obtain ⟨g, ys, t, hg, e, a⟩ := ac_n (by omega) (by omega) h
        rw [ex_71] at e
        unfold ex71 at e
        cases e
        have a' : Ac w n g (73 :: 72 :: r) k := a
        obtain ⟨j, g2, d1, d2, d3, d4⟩ := (ih g hg).1 73 0 (by decide) _ _ a'
        obtain ⟨j', g3, d5, d6, d7, d8⟩ := (ih g2 (by omega)).2 72 1 1 (by decide) _ k j (d3.one (by omega)) d4
        exact ⟨j', g3, by omega, by omega, d7, d8⟩
      · obtain ⟨g, ys, t, hg, e, a⟩ := ac_n (by omega) (by omega) h
        rw [ex_69] at e
        unfold ex69 at e
        cases e
        have a' : Ac w n g (71 :: 70 :: r) k := a
        obtain ⟨j, g2, d1, d2, d3, d4⟩ := (ih g hg).1 71 1 (by decide) _ _ a'
        obtain ⟨j', g3, d5, d6, d7, d8⟩ := (ih g2 (by omega)).2 70 2 2 (by decide) _ k j (d3.one (by omega)) d4
        exact ⟨j', g3, by omega, by omega, d7, d8⟩
      · obtain ⟨g, ys, t, hg, e, a⟩ := ac_n (by omega) (by omega) h
        rw [ex_67] at e
        unfold ex67 at e
        by_cases c1 : w k = 31
        · rw [if_pos c1] at e
          cases e
          have a' : Ac w n g (67 :: 75 :: r) (k + 1) := a
          obtain ⟨j, g2, d1, d2, d3, d4⟩ := (ih g hg).1 67 3 (by decide) _ _ a'
          obtain ⟨g5, d12, d13⟩ := ac_l d4
          exact ⟨j, g5, by omega, by omega, eo3n c1 d3, d13⟩
        · rw [if_neg c1] at e
          cases e
          have a' : Ac w n g (69 :: 68 :: r) k := a
          exact d_pair ih hg (c0 := 2) (by decide) (by decide) a'
      · obtain ⟨g, ys, t, hg, e, a⟩ := ac_n (by omega) (by omega) h
        rw [ex_65] at e
        unfold ex65 at e
        cases e
        have a' : Ac w n g (67 :: 66 :: r) k := a
        obtain ⟨j, g2, d1, d2, d3, d4⟩ := (ih g hg).1 67 3 (by decide) _ _ a'
        obtain ⟨j', g3, d5, d6, d7, d8⟩ := (ih g2 (by omega)).2 66 4 4 (by decide) _ k j (d3.one (by omega)) d4
        exact ⟨j', g3, by omega, by omega, d7, d8⟩
      · obtain ⟨g, ys, t, hg, e, a⟩ := ac_n (by omega) (by omega) h
        rw [ex_63] at e
        unfold ex63 at e
        cases e
        have a' : Ac w n g (65 :: 64 :: r) k := a
        obtain ⟨j, g2, d1, d2, d3, d4⟩ := (ih g hg).1 65 4 (by decide) _ _ a'
        obtain ⟨j', g3, d5, d6, d7, d8⟩ := (ih g2 (by omega)).2 64 5 5 (by decide) _ k j (d3.one (by omega)) d4
        exact ⟨j', g3, by omega, by omega, d7, d8⟩
      · obtain ⟨g, ys, t, hg, e, a⟩ := ac_n (by omega) (by omega) h
        rw [ex_61] at e
        unfold ex61 at e
        cases e
        have a' : Ac w n g (63 :: 62 :: r) k := a
        exact d_pair ih hg (c0 := 5) (by decide) (by decide) a'
    · have hx' : (x = 72 ∧ c0 = 1 ∧ c1 = 1) ∨ (x = 70 ∧ c0 = 2 ∧ c1 = 2) ∨ (x = 68 ∧ c0 = 2 ∧ c1 = 3) ∨ (x = 66 ∧ c0 = 4 ∧ c1 = 4) ∨ (x = 64 ∧ c0 = 5 ∧ c1 = 5) ∨ (x = 62 ∧ c0 = 5 ∧ c1 = 6) ∨ (x = 74 ∧ c0 = 7 ∧ c1 = 7) := by
        unfold rsts at hx
        simpa using hx
      rcases hx' with ⟨q1, q2, q3⟩ | ⟨q1, q2, q3⟩ | ⟨q1, q2, q3⟩ | ⟨q1, q2, q3⟩ | ⟨q1, q2, q3⟩ | ⟨q1, q2, q3⟩ | ⟨q1, q2, q3⟩ <;> subst q1 q2 q3
      · obtain ⟨g, ys, t, hg, e, a⟩ := ac_n (by omega) (by omega) h
        rw [ex_72] at e
        unfold ex72 at e
        by_cases c1 : w k = 26 ∨ w k = 27 ∨ w k = 28
        · rw [if_pos c1] at e
          cases e
          exact d_again ih hg (x := 73) (y := 72) (c0 := 0) (c1 := 1) (by decide) (by decide) (fun j z => eo1 c1 he z) a
        · rw [if_neg c1] at e
          cases e
          exact ⟨k, g, hg, by omega, he, a⟩
      · obtain ⟨g, ys, t, hg, e, a⟩ := ac_n (by omega) (by omega) h
        rw [ex_70] at e
        unfold ex70 at e
        by_cases c1 : w k = 24 ∨ w k = 25
        · rw [if_pos c1] at e
          cases e
          exact d_again ih hg (x := 71) (y := 70) (c0 := 1) (c1 := 2) (by decide) (by decide) (fun j z => eo2 c1 he z) a
        · rw [if_neg c1] at e
          cases e
          exact ⟨k, g, hg, by omega, he, a⟩
      · obtain ⟨g, ys, t, hg, e, a⟩ := ac_n (by omega) (by omega) h
        rw [ex_68] at e
        unfold ex68 at e
        by_cases c1 : 18 ≤ w k ∧ w k ≤ 23
        · rw [if_pos c1] at e
          cases e
          have a' : Ac w n g (69 :: r) (k + 1) := a
          obtain ⟨j, g2, d1, d2, d3, d4⟩ := (ih g hg).1 69 2 (by decide) _ _ a'
          exact ⟨j, g2, by omega, by omega, eo3 c1 he d3, d4⟩
        · rw [if_neg c1] at e
          cases e
          exact ⟨k, g, hg, by omega, he.one (by omega), a⟩
      · obtain ⟨g, ys, t, hg, e, a⟩ := ac_n (by omega) (by omega) h
        rw [ex_66] at e
        unfold ex66 at e
        by_cases c1 : w k = 29
        · rw [if_pos c1] at e
          cases e
          exact d_again ih hg (x := 67) (y := 66) (c0 := 3) (c1 := 4) (by decide) (by decide) (fun j z => eo4 c1 he z) a
        · rw [if_neg c1] at e
          cases e
          exact ⟨k, g, hg, by omega, he, a⟩
      · obtain ⟨g, ys, t, hg, e, a⟩ := ac_n (by omega) (by omega) h
        rw [ex_64] at e
        unfold ex64 at e
        by_cases c1 : w k = 30
        · rw [if_pos c1] at e
          cases e
          exact d_again ih hg (x := 65) (y := 64) (c0 := 4) (c1 := 5) (by decide) (by decide) (fun j z => eo5 c1 he z) a
        · rw [if_neg c1] at e
          cases e
          exact ⟨k, g, hg, by omega, he, a⟩
      · obtain ⟨g, ys, t, hg, e, a⟩ := ac_n (by omega) (by omega) h
        rw [ex_62] at e
        unfold ex62 at e
        by_cases c1 : w k = 32
        · rw [if_pos c1] at e
          cases e
          have a' : Ac w n g (61 :: 33 :: 61 :: 75 :: r) (k + 1) := a
          obtain ⟨j, g2, d1, d2, d3, d4⟩ := (ih g hg).1 61 6 (by decide) _ _ a'
          obtain ⟨g3, d5, d6, d7⟩ := ac_t (by omega) d4
          obtain ⟨j', g4, d8, d9, d10, d11⟩ := (ih g3 (by omega)).1 61 6 (by decide) _ _ d7
          obtain ⟨g5, d12, d13⟩ := ac_l d11
          exact ⟨j', g5, by omega, by omega, eo6 c1 d6 he d3 d10, d13⟩
        · rw [if_neg c1] at e
          cases e
          exact ⟨k, g, hg, by omega, he.one (by omega), a⟩
      · obtain ⟨g, ys, t, hg, e, a⟩ := ac_n (by omega) (by omega) h
        rw [ex_74] at e
        unfold ex74 at e
        by_cases c1 : w k = 35
        · rw [if_pos c1] at e
          cases e
          exact d_again ih hg (x := 61) (y := 74) (c0 := 6) (c1 := 7) (by decide) (by decide) (fun j z => eo7 c1 he z) a
        · rw [if_neg c1] at e
          cases e
          exact ⟨k, g, hg, by omega, he, a⟩
/-- a rule is wanted: an expression stands there -/
theorem ac_rule {f k : Nat} {r : List Int} (h : Ac w n f (61 :: r) k) : ∃ j g, g < f ∧ k < j ∧ Eo w 6 k j ∧ Ac w n g r j := (d_all f).1 61 6 (by decide) r k h
theorem ac_or {f k : Nat} {r : List Int} (h : Ac w n f (63 :: r) k) : ∃ j g, g < f ∧ k < j ∧ Eo w 5 k j ∧ Ac w n g r j := (d_all f).1 63 5 (by decide) r k h
end DE
end
section
/-! The reference: how deep a word stands. -/
section SC
variable (w : Nat → Int)
/-- how many parentheses are open after m words from i on -/
def dp (i : Nat) : Nat → Int
  | 0 => 0
  | m + 1 => dp i m + (if w (i + m) = 36 then 1 else if w (i + m) = 37 then -1 else 0)
/-- how many questions are open there, outside parentheses -/
def aq (i : Nat) : Nat → Int
  | 0 => 0
  | m + 1 => if 0 < dp w i m then aq i m else aq i m + (if w (i + m) = 32 then 1 else if w (i + m) = 33 then -1 else 0)
/-- an operand ends here -/
def opd (x : Int) : Prop := x = 1 ∨ x = 2 ∨ x = 12 ∨ x = 13 ∨ x = 37
/-- how loosely the word at k binds -/
def lz (i k : Nat) : Nat := if w k = 32 then 6 else if w k = 30 then 5 else if w k = 29 then 4 else if 18 ≤ w k ∧ w k ≤ 23 then 3 else if w k = 24 ∨ w k = 25 then (if i < k ∧ (w (k - 1) = 1 ∨ w (k - 1) = 2 ∨ w (k - 1) = 12 ∨ w (k - 1) = 13 ∨ w (k - 1) = 37) then 2 else 0) else if 26 ≤ w k ∧ w k ≤ 28 then 1 else 0
/-- words that rules are made of -/
def rwd (x : Int) : Prop := x = 1 ∨ x = 2 ∨ (12 ≤ x ∧ x ≤ 15) ∨ (18 ≤ x ∧ x ≤ 33) ∨ (35 ≤ x ∧ x ≤ 37)
/-- a rule's first word -/
def fwd (x : Int) : Prop := x = 1 ∨ x = 2 ∨ (12 ≤ x ∧ x ≤ 15) ∨ x = 25 ∨ x = 31 ∨ x = 36
end SC
section SC
variable {w : Nat → Int}
theorem dp_s {i m : Nat} : dp w i (m + 1) = dp w i m + (if w (i + m) = 36 then 1 else if w (i + m) = 37 then -1 else 0) := rfl
theorem aq_s {i m : Nat} : aq w i (m + 1) = if 0 < dp w i m then aq w i m else aq w i m + (if w (i + m) = 32 then 1 else if w (i + m) = 33 then -1 else 0) := rfl
theorem dp_app {i : Nat} (a : Nat) : ∀ b, dp w i (a + b) = dp w i a + dp w (i + a) b
  | 0 => by show dp w i a = dp w i a + 0; omega
  | b + 1 => by
    have e : a + (b + 1) = (a + b) + 1 := rfl
    rw [e, dp_s, dp_s, dp_app a b, Nat.add_assoc i a b]
    omega
theorem aq_app {i a : Nat} (h : dp w i a = 0) : ∀ b, aq w i (a + b) = aq w i a + aq w (i + a) b
  | 0 => by show aq w i a = aq w i a + 0; omega
  | b + 1 => by
    have e : a + (b + 1) = (a + b) + 1 := rfl
    rw [e, aq_s, aq_s, aq_app h b, dp_app, h, show (0 : Int) + dp w (i + a) b = dp w (i + a) b by first | rfl | omega, Nat.add_assoc i a b]
    split <;> omega
/-- balanced: parentheses and questions close, none before it was opened; no colon of another question -/
def Bl (w : Nat → Int) (i l : Nat) : Prop := dp w i l = 0 ∧ aq w i l = 0 ∧ (∀ m, m ≤ l → 0 ≤ dp w i m ∧ 0 ≤ aq w i m) ∧ (∀ m, m < l → rwd (w (i + m)) ∧ (dp w i m = 0 → aq w i m = 0 → w (i + m) ≠ 33))
/-- no question outside parentheses -/
def Nq (w : Nat → Int) (i l : Nat) : Prop := ∀ m, m < l → dp w i m = 0 → w (i + m) ≠ 32
/-- two balanced stretches with a plain word between them -/
theorem Bl.join {i a b : Nat} (h1 : Bl w i a) (h2 : Bl w (i + a + 1) b) (hp : rwd (w (i + a))) (h36 : w (i + a) ≠ 36) (h37 : w (i + a) ≠ 37) (h32 : w (i + a) ≠ 32) (h33 : w (i + a) ≠ 33) : Bl w i (a + 1 + b) := by
  have d1 : dp w i (a + 1) = 0 := by show dp w i a + _ = 0; rw [if_neg h36, if_neg h37, h1.1]; omega
  have a1 : aq w i (a + 1) = 0 := by
    show (if 0 < dp w i a then aq w i a else aq w i a + _) = 0
    rw [h1.1, if_neg (by omega), if_neg h32, if_neg h33, h1.2.1]; omega
  have e : i + (a + 1) = i + a + 1 := by omega
  refine ⟨by rw [dp_app, d1, e, h2.1]; omega, by rw [aq_app d1, a1, e, h2.2.1]; omega, fun m hm => ?_, fun m hm => ?_⟩
  · by_cases z : m ≤ a
    · exact h1.2.2.1 m z
    · have k := h2.2.2.1 (m - (a + 1)) (by omega)
      rw [show m = (a + 1) + (m - (a + 1)) by first | rfl | omega, dp_app, aq_app d1, d1, a1, e]
      omega
  · by_cases z : m < a
    · exact h1.2.2.2 m z
    · by_cases y : m = a
      · rw [y]; exact ⟨hp, fun _ _ => h33⟩
      · have k := h2.2.2.2 (m - (a + 1)) (by omega)
        rw [show i + a + 1 + (m - (a + 1)) = i + m by first | rfl | omega] at k
        refine ⟨k.1, fun q1 q2 => k.2 ?_ ?_⟩
        · rw [show m = (a + 1) + (m - (a + 1)) by first | rfl | omega, dp_app, d1, e] at q1
          omega
        · rw [show m = (a + 1) + (m - (a + 1)) by first | rfl | omega, aq_app d1, a1, e] at q2
          omega
theorem Nq.join {i a b : Nat} (b1 : Bl w i a) (h1 : Nq w i a) (h2 : Nq w (i + a + 1) b) (h36 : w (i + a) ≠ 36) (h37 : w (i + a) ≠ 37) (h32 : w (i + a) ≠ 32) : Nq w i (a + 1 + b) := by
  have d1 : dp w i (a + 1) = 0 := by show dp w i a + _ = 0; rw [if_neg h36, if_neg h37, b1.1]; omega
  have e : i + (a + 1) = i + a + 1 := by omega
  intro m hm q
  by_cases z : m < a
  · exact h1 m z q
  · by_cases y : m = a
    · rw [y]; exact h32
    · have k := h2 (m - (a + 1)) (by omega)
      rw [show i + a + 1 + (m - (a + 1)) = i + m by first | rfl | omega] at k
      refine k ?_
      rw [show m = (a + 1) + (m - (a + 1)) by first | rfl | omega, dp_app, d1, e] at q
      omega
/-- one plain word, then a balanced stretch -/
theorem Bl.cons {i b : Nat} (h2 : Bl w (i + 1) b) (hp : rwd (w i)) (h36 : w i ≠ 36) (h37 : w i ≠ 37) (h32 : w i ≠ 32) (h33 : w i ≠ 33) : Bl w i (1 + b) := by
  have h0 : Bl w i 0 := ⟨rfl, rfl, fun m hm => by have : m = 0 := by omega
                                                  subst this; exact ⟨Int.le_refl _, Int.le_refl _⟩, fun m hm => by omega⟩
  have := h0.join (b := b) (by rw [show i + 0 + 1 = i + 1 by first | rfl | omega]; exact h2) hp h36 h37 h32 h33
  rw [show 0 + 1 + b = 1 + b by first | rfl | omega] at this
  exact this
theorem Nq.cons {i b : Nat} (h2 : Nq w (i + 1) b) (h36 : w i ≠ 36) (h37 : w i ≠ 37) (h32 : w i ≠ 32) : Nq w i (1 + b) := by
  have h0 : Bl w i 0 := ⟨rfl, rfl, fun m hm => by have : m = 0 := by omega
                                                  subst this; exact ⟨Int.le_refl _, Int.le_refl _⟩, fun m hm => by omega⟩
  have := Nq.join (a := 0) (b := b) h0 (fun m hm => by omega) (by rw [show i + 0 + 1 = i + 1 by first | rfl | omega]; exact h2) h36 h37 h32
  rw [show 0 + 1 + b = 1 + b by first | rfl | omega] at this
  exact this
/-- parentheses around a balanced stretch -/
theorem Bl.paren {i b : Nat} (h2 : Bl w (i + 1) b) (h36 : w i = 36) (h37 : w (i + 1 + b) = 37) : Bl w i (b + 2) ∧ (∀ m, 1 ≤ m → m ≤ b + 1 → 1 ≤ dp w i m) := by
  have d1 : dp w i 1 = 1 := by show dp w i 0 + _ = 1; rw [show i + 0 = i by first | rfl | omega, if_pos h36]; rfl
  have dd : ∀ m, 1 ≤ m → m ≤ b + 1 → dp w i m = 1 + dp w (i + 1) (m - 1) := fun m h1 h3 => by
    rw [show m = 1 + (m - 1) by first | rfl | omega, dp_app, d1, show 1 + (m - 1) - 1 = m - 1 by first | rfl | omega]
  have dpos : ∀ m, 1 ≤ m → m ≤ b + 1 → 1 ≤ dp w i m := fun m h1 h3 => by
    have := dd m h1 h3
    have := h2.2.2.1 (m - 1) (by omega)
    omega
  have aqz : ∀ m, m ≤ b + 1 → aq w i m = 0 := by
    intro m
    induction m with
    | zero => intro _; rfl
    | succ m ih =>
      intro hm
      have e := ih (by omega)
      show (if 0 < dp w i m then aq w i m else aq w i m + _) = 0
      by_cases z : m = 0
      · subst z
        rw [if_neg (by show ¬ (0 : Int) < 0; omega), show i + 0 = i by first | rfl | omega, if_neg (by omega), if_neg (by omega), e]; omega
      · rw [if_pos (by have := dpos m (by omega) (by omega); omega)]; exact e
  have dl : dp w i (b + 2) = 0 := by
    show dp w i (b + 1) + _ = 0
    rw [show i + (b + 1) = i + 1 + b by first | rfl | omega, if_neg (by omega), if_pos h37, dd (b + 1) (by omega) (by omega), show b + 1 - 1 = b by first | rfl | omega, h2.1]
    omega
  have al : aq w i (b + 2) = 0 := by
    show (if 0 < dp w i (b + 1) then aq w i (b + 1) else aq w i (b + 1) + _) = 0
    rw [if_pos (by have := dpos (b + 1) (by omega) (by omega); omega)]
    exact aqz _ (by omega)
  refine ⟨⟨dl, al, fun m hm => ?_, fun m hm => ?_⟩, dpos⟩
  · by_cases z : m = b + 2
    · rw [z, dl, al]; omega
    · rw [aqz m (by omega)]
      by_cases y : m = 0
      · subst y; exact ⟨Int.le_refl _, Int.le_refl _⟩
      · have := dpos m (by omega) (by omega)
        omega
  · by_cases y : m = 0
    · subst y
      rw [show i + 0 = i by first | rfl | omega, h36]
      exact ⟨by unfold rwd; omega, fun _ _ => by omega⟩
    · by_cases z : m = b + 1
      · rw [z, show i + (b + 1) = i + 1 + b by first | rfl | omega, h37]
        exact ⟨by unfold rwd; omega, fun _ _ => by omega⟩
      · have k := (h2.2.2.2 (m - 1) (by omega)).1
        rw [show i + 1 + (m - 1) = i + m by first | rfl | omega] at k
        exact ⟨k, fun q _ => by have := dpos m (by omega) (by omega); omega⟩
end SC
end
section
/-! The reference: the shape of an expression's words. -/
section SH
variable {w : Nat → Int}
theorem Bl.ask {i a b c : Nat} (h1 : Bl w i a) (h2 : Bl w (i + a + 1) b) (h3 : Bl w (i + a + 1 + b + 1) c) (hp : w (i + a) = 32) (hq : w (i + a + 1 + b) = 33) : Bl w i (a + 1 + b + 1 + c) := by
  have d1 : dp w i (a + 1) = 0 := by rw [dp_s, if_neg (by omega), if_neg (by omega), h1.1]; omega
  have a1 : aq w i (a + 1) = 1 := by rw [aq_s, h1.1, if_neg (by omega), if_pos hp, h1.2.1]; omega
  have e : i + (a + 1) = i + a + 1 := by omega
  have d2 : dp w i (a + 1 + b) = 0 := by rw [dp_app, d1, e, h2.1]; omega
  have a2 : aq w i (a + 1 + b) = 1 := by rw [aq_app d1, a1, e, h2.2.1]; omega
  have e2 : i + (a + 1 + b) = i + a + 1 + b := by omega
  have d3 : dp w i (a + 1 + b + 1) = 0 := by rw [dp_s, e2, if_neg (by omega), if_neg (by omega), d2]; omega
  have a3 : aq w i (a + 1 + b + 1) = 0 := by rw [aq_s, d2, if_neg (by omega), e2, if_neg (by omega), if_pos hq, a2]; omega
  have e3 : i + (a + 1 + b + 1) = i + a + 1 + b + 1 := by omega
  refine ⟨by rw [dp_app, d3, e3, h3.1]; omega, by rw [aq_app d3, a3, e3, h3.2.1]; omega, fun m hm => ?_, fun m hm => ?_⟩
  · by_cases z : m ≤ a
    · exact h1.2.2.1 m z
    · by_cases y : m ≤ a + 1 + b
      · have k := h2.2.2.1 (m - (a + 1)) (by omega)
        rw [show m = (a + 1) + (m - (a + 1)) by first | rfl | omega, dp_app, aq_app d1, d1, a1, e]
        omega
      · have k := h3.2.2.1 (m - (a + 1 + b + 1)) (by omega)
        rw [show m = (a + 1 + b + 1) + (m - (a + 1 + b + 1)) by first | rfl | omega, dp_app, aq_app d3, d3, a3, e3]
        omega
  · by_cases z : m < a
    · exact h1.2.2.2 m z
    · by_cases y : m = a
      · rw [y, hp]; exact ⟨by unfold rwd; omega, fun _ _ => by omega⟩
      · by_cases x : m < a + 1 + b
        · have k := h2.2.2.2 (m - (a + 1)) (by omega)
          have p := h2.2.2.1 (m - (a + 1)) (by omega)
          rw [show i + a + 1 + (m - (a + 1)) = i + m by first | rfl | omega] at k
          refine ⟨k.1, fun q1 q2 => ?_⟩
          rw [show m = (a + 1) + (m - (a + 1)) by first | rfl | omega, aq_app d1, a1, e] at q2
          omega
        · by_cases v : m = a + 1 + b
          · rw [v, e2, hq]
            exact ⟨by unfold rwd; omega, fun _ q2 => by omega⟩
          · have k := h3.2.2.2 (m - (a + 1 + b + 1)) (by omega)
            rw [show i + a + 1 + b + 1 + (m - (a + 1 + b + 1)) = i + m by first | rfl | omega] at k
            refine ⟨k.1, fun q1 q2 => k.2 ?_ ?_⟩
            · rw [show m = (a + 1 + b + 1) + (m - (a + 1 + b + 1)) by first | rfl | omega, dp_app, d3, e3] at q1
              omega
            · rw [show m = (a + 1 + b + 1) + (m - (a + 1 + b + 1)) by first | rfl | omega, aq_app d3, a3, e3] at q2
              omega
theorem lz_le {i k : Nat} : lz w i k ≤ 6 := by
  unfold lz
  by_cases c1 : w k = 32
  · rw [if_pos c1]; omega
  rw [if_neg c1]
  by_cases c2 : w k = 30
  · rw [if_pos c2]; omega
  rw [if_neg c2]
  by_cases c3 : w k = 29
  · rw [if_pos c3]; omega
  rw [if_neg c3]
  by_cases c4 : 18 ≤ w k ∧ w k ≤ 23
  · rw [if_pos c4]; omega
  rw [if_neg c4]
  by_cases c5 : w k = 24 ∨ w k = 25
  · rw [if_pos c5]; split <;> omega
  rw [if_neg c5]
  split <;> omega
theorem lz_c {i i' k : Nat} (h : i < k) (h' : i' < k) : lz w i k = lz w i' k := by
  unfold lz
  have e : (i < k ∧ (w (k - 1) = 1 ∨ w (k - 1) = 2 ∨ w (k - 1) = 12 ∨ w (k - 1) = 13 ∨ w (k - 1) = 37)) ↔ (i' < k ∧ (w (k - 1) = 1 ∨ w (k - 1) = 2 ∨ w (k - 1) = 12 ∨ w (k - 1) = 13 ∨ w (k - 1) = 37)) := ⟨fun q => ⟨h', q.2⟩, fun q => ⟨h, q.2⟩⟩
  simp only [e]
theorem lz_f {i k : Nat} (h : fwd (w k)) (h2 : i < k → ¬ opd (w (k - 1))) : lz w i k = 0 := by
  unfold fwd at h
  unfold lz
  rw [if_neg (by omega), if_neg (by omega), if_neg (by omega), if_neg (by omega)]
  by_cases c5 : w k = 24 ∨ w k = 25
  · rw [if_pos c5, if_neg (fun q => h2 q.1 q.2)]
  · rw [if_neg c5, if_neg (by omega)]
def Lb (w : Nat → Int) (c i l : Nat) : Prop := ∀ m, m < l → dp w i m = 0 → lz w i (i + m) ≤ c
theorem Lb.join {i a b c c1 c2 : Nat} (b1 : Bl w i a) (h1 : Lb w c1 i a) (h2 : Lb w c2 (i + a + 1) b) (hc1 : c1 ≤ c) (hc2 : c2 ≤ c) (hb : 0 < b) (h36 : w (i + a) ≠ 36) (h37 : w (i + a) ≠ 37) (hop : lz w i (i + a) ≤ c) (hno : ¬ opd (w (i + a))) (hf : fwd (w (i + a + 1))) : Lb w c i (a + 1 + b) := by
  have d1 : dp w i (a + 1) = 0 := by rw [dp_s, if_neg h36, if_neg h37, b1.1]; omega
  have e : i + (a + 1) = i + a + 1 := by omega
  intro m hm q
  by_cases z : m < a
  · have := h1 m z q; omega
  · by_cases y : m = a
    · rw [y]; exact hop
    · by_cases x : m = a + 1
      · rw [x, e, lz_f hf (fun _ => by rw [show i + a + 1 - 1 = i + a by first | rfl | omega]; exact hno)]; omega
      · rw [show m = (a + 1) + (m - (a + 1)) by first | rfl | omega, dp_app, d1, e] at q
        have k := h2 (m - (a + 1)) (by omega) (by omega)
        rw [show i + a + 1 + (m - (a + 1)) = i + m by first | rfl | omega] at k
        rw [lz_c (i' := i + a + 1) (by omega) (by omega)]
        omega
theorem Lb.cons {i b c : Nat} (h2 : Lb w c (i + 1) b) (hb : 0 < b) (h36 : w i ≠ 36) (h37 : w i ≠ 37) (hf0 : fwd (w i)) (hno : ¬ opd (w i)) (hf : fwd (w (i + 1))) : Lb w c i (1 + b) := by
  have h0 : Bl w i 0 := ⟨rfl, rfl, fun m hm => by have : m = 0 := by omega
                                                  subst this; exact ⟨Int.le_refl _, Int.le_refl _⟩, fun m hm => by omega⟩
  have := Lb.join (i := i) (a := 0) (b := b) (c := c) (c1 := 0) (c2 := c) h0 (fun m hm => by omega) h2 (by omega) (by omega) hb h36 h37 (by rw [show i + 0 = i by first | rfl | omega, lz_f hf0 (fun q => by omega)]; omega) hno hf
  rw [show 0 + 1 + b = 1 + b by first | rfl | omega] at this
  exact this
def Pr (w : Nat → Int) (c i j : Nat) : Prop := i < j ∧ fwd (w i) ∧ (c ≤ 2 → w i ≠ 31) ∧ opd (w (j - 1)) ∧ Bl w i (j - i) ∧ (c ≤ 5 → Nq w i (j - i)) ∧ Lb w c i (j - i)
/-- two parts joined by an operator -/
theorem Pr.join {c c1 c2 i m j : Nat} (h1 : Pr w c1 i m) (h2 : Pr w c2 (m + 1) j) (hc1 : c1 ≤ c) (hc2 : c2 ≤ c) (h2c : c ≤ 2 → c1 ≤ 2) (hq : c ≤ 5 → c1 ≤ 5 ∧ c2 ≤ 5) (hop : (24 ≤ w m ∧ w m ≤ 30) ∨ (18 ≤ w m ∧ w m ≤ 23) ∨ w m = 35) (hl : lz w i m ≤ c) : Pr w c i j := by
  obtain ⟨p1, p2, p3, p4, p5, p6, p7⟩ := h1
  obtain ⟨q1, q2, q3, q4, q5, q6, q7⟩ := h2
  have em : i + (m - i) = m := by omega
  have ej : j - i = (m - i) + 1 + (j - (m + 1)) := by omega
  refine ⟨by omega, p2, fun z => p3 (h2c z), q4, ?_, fun z => ?_, ?_⟩
  · rw [ej]
    exact p5.join (by rw [em]; exact q5) (by rw [em]; unfold rwd; omega) (by rw [em]; omega) (by rw [em]; omega) (by rw [em]; omega) (by rw [em]; omega)
  · rw [ej]
    exact Nq.join p5 (p6 (hq z).1) (by rw [em]; exact q6 (hq z).2) (by rw [em]; omega) (by rw [em]; omega) (by rw [em]; omega)
  · rw [ej]
    exact Lb.join p5 p7 (by rw [em]; exact q7) hc1 hc2 (by omega) (by rw [em]; omega) (by rw [em]; omega) (by rw [em]; exact hl) (by rw [em]; unfold opd; omega) (by rw [em]; exact q2)
theorem Pr.wk {c c' i j : Nat} (h : Pr w c i j) (hc : c ≤ c') (h2 : c' ≤ 2 → c ≤ 2) : Pr w c' i j := by
  obtain ⟨p1, p2, p3, p4, p5, p6, p7⟩ := h
  exact ⟨p1, p2, fun z => p3 (h2 z), p4, p5, fun z => p6 (by omega), fun m hm q => by have := p7 m hm q; omega⟩
theorem lz_26 {i m : Nat} (h : 26 ≤ w m ∧ w m ≤ 28) : lz w i m = 1 := by
  unfold lz
  rw [if_neg (by omega), if_neg (by omega), if_neg (by omega), if_neg (by omega), if_neg (by omega), if_pos h]
theorem lz_24 {i m : Nat} (h : w m = 24 ∨ w m = 25) (hi : i < m) (ho : opd (w (m - 1))) : lz w i m = 2 := by
  unfold lz
  rw [if_neg (by omega), if_neg (by omega), if_neg (by omega), if_neg (by omega), if_pos h, if_pos ⟨hi, ho⟩]
theorem lz_18 {i m : Nat} (h : 18 ≤ w m ∧ w m ≤ 23) : lz w i m = 3 := by
  unfold lz
  rw [if_neg (by omega), if_neg (by omega), if_neg (by omega), if_pos h]
theorem lz_29 {i m : Nat} (h : w m = 29) : lz w i m = 4 := by
  unfold lz
  rw [if_neg (by omega), if_neg (by omega), if_pos h]
theorem lz_30 {i m : Nat} (h : w m = 30) : lz w i m = 5 := by
  unfold lz
  rw [if_neg (by omega), if_pos h]
theorem lz_32 {i m : Nat} (h : w m = 32) : lz w i m = 6 := by
  unfold lz
  rw [if_pos h]
theorem lz_35 {i m : Nat} (h : w m = 35) : lz w i m = 0 := by
  unfold lz
  rw [if_neg (by omega), if_neg (by omega), if_neg (by omega), if_neg (by omega), if_neg (by omega), if_neg (by omega)]
/-- parentheses -/
theorem Pr.par {c i j : Nat} (h : Pr w c (i + 1) j) (h36 : w i = 36) (h37 : w j = 37) : Pr w 0 i (j + 1) := by
  obtain ⟨p1, p2, p3, p4, p5, p6, p7⟩ := h
  have ej : j + 1 - i = (j - (i + 1)) + 2 := by omega
  have em : i + 1 + (j - (i + 1)) = j := by omega
  obtain ⟨b, d⟩ := p5.paren h36 (by rw [em]; exact h37)
  refine ⟨by omega, by unfold fwd; omega, fun _ => by omega, by rw [show j + 1 - 1 = j by first | rfl | omega]; unfold opd; omega, by rw [ej]; exact b, fun _ m hm q => ?_, fun m hm q => ?_⟩
  · by_cases z : m = 0
    · rw [z, show i + 0 = i by first | rfl | omega]; omega
    · have := d m (by omega)
      by_cases y : m ≤ j - (i + 1) + 1
      · have := this y; omega
      · omega
  · by_cases z : m = 0
    · rw [z, show i + 0 = i by first | rfl | omega, lz_f (by unfold fwd; omega) (fun q => by omega)]; omega
    · have := d m (by omega)
      by_cases y : m ≤ j - (i + 1) + 1
      · have := this y; omega
      · omega
theorem Pr.pre {c c' i j : Nat} (h : Pr w c (i + 1) j) (hc : c ≤ c') (hw : w i = 25 ∨ w i = 31) (h3 : w i = 31 → 3 ≤ c') (hq : c' ≤ 5 → c ≤ 5) : Pr w c' i j := by
  obtain ⟨p1, p2, p3, p4, p5, p6, p7⟩ := h
  have ej : j - i = 1 + (j - (i + 1)) := by omega
  refine ⟨by omega, by unfold fwd; omega, fun z q => by have := h3 q; omega, p4, ?_, fun z => ?_, ?_⟩
  · rw [ej]
    exact p5.cons (by unfold rwd; omega) (by omega) (by omega) (by omega) (by omega)
  · rw [ej]
    exact Nq.cons (p6 (hq z)) (by omega) (by omega) (by omega)
  · rw [ej]
    refine fun m hm q => ?_
    have := Lb.cons p7 (by omega) (by omega) (by omega) (by unfold fwd; omega) (by unfold opd; omega) p2 m hm q
    omega
end SH
end
section
/-! The reference: where an expression is split. -/
section LO
variable {w : Nat → Int}
theorem Pr.pre2 {i j : Nat} (h : Pr w 0 (i + 1) j) (hw : w i = 14 ∨ w i = 15) : Pr w 0 i j := by
  obtain ⟨p1, p2, p3, p4, p5, p6, p7⟩ := h
  have ej : j - i = 1 + (j - (i + 1)) := by omega
  refine ⟨by omega, by unfold fwd; omega, fun z => by omega, p4, ?_, fun z => ?_, ?_⟩
  · rw [ej]
    exact p5.cons (by unfold rwd; omega) (by omega) (by omega) (by omega) (by omega)
  · rw [ej]
    exact Nq.cons (p6 (by omega)) (by omega) (by omega) (by omega)
  · rw [ej]
    exact Lb.cons p7 (by omega) (by omega) (by omega) (by unfold fwd; omega) (by unfold opd; omega) p2
theorem Pr.ask {i m q j : Nat} (h1 : Pr w 5 i m) (h2 : Pr w 6 (m + 1) q) (h3 : Pr w 6 (q + 1) j) (hm : w m = 32) (hq : w q = 33) : Pr w 6 i j := by
  obtain ⟨p1, p2, p3, p4, p5, p6, p7⟩ := h1
  obtain ⟨q1, q2, q3, q4, q5, q6, q7⟩ := h2
  obtain ⟨r1, r2, r3, r4, r5, r6, r7⟩ := h3
  have em : i + (m - i) = m := by omega
  have eq : m + 1 + (q - (m + 1)) = q := by omega
  refine ⟨by omega, p2, fun z => by omega, r4, ?_, fun z => by omega, fun m hm q => lz_le⟩
  rw [show j - i = (m - i) + 1 + (q - (m + 1)) + 1 + (j - (q + 1)) by first | rfl | omega]
  exact p5.ask (by rw [em]; exact q5) (by rw [em, eq]; exact r5) (by rw [em]; exact hm) (by rw [em, eq]; exact hq)
theorem ex_pr : ∀ {n c i j : Nat}, Ex w n c i j → Pr w c i j := by
  intro n
  induction n with
  | zero => intro c i j h; exact h.elim
  | succ n ih =>
    intro c i j h
    rw [Ex] at h
    by_cases c0 : c = 0
    · rw [if_pos c0] at h
      subst c0
      rcases h with ⟨h1, h2⟩ | ⟨h1, h2⟩ | ⟨h1, h2, h3⟩ | ⟨h1, h2, h3, h4⟩
      · subst h1
        have hb : Bl w i 1 := by
          have d1 : dp w i 1 = 0 := by rw [dp_s]; show (0 : Int) + _ = 0; rw [show i + 0 = i by first | rfl | omega, if_neg (by omega), if_neg (by omega)]; omega
          have a1 : aq w i 1 = 0 := by rw [aq_s, if_neg (by show ¬ (0 : Int) < 0; omega)]; show (0 : Int) + _ = 0; rw [show i + 0 = i by first | rfl | omega, if_neg (by omega), if_neg (by omega)]; omega
          refine ⟨d1, a1, fun m hm => ?_, fun m hm => ?_⟩
          · by_cases z : m = 0
            · subst z; exact ⟨Int.le_refl _, Int.le_refl _⟩
            · rw [show m = 1 by first | rfl | omega, d1, a1]; omega
          · rw [show m = 0 by first | rfl | omega, show i + 0 = i by first | rfl | omega]
            exact ⟨by unfold rwd; omega, fun _ _ => by omega⟩
        refine ⟨by omega, by unfold fwd; omega, fun _ => by omega, by rw [show i + 1 - 1 = i by first | rfl | omega]; unfold opd; omega, by rw [show i + 1 - i = 1 by first | rfl | omega]; exact hb, fun _ m hm q => ?_, fun m hm q => ?_⟩
        · rw [show m = 0 by first | rfl | omega, show i + 0 = i by first | rfl | omega]; omega
        · rw [show m = 0 by first | rfl | omega, show i + 0 = i by first | rfl | omega, lz_f (by unfold fwd; omega) (fun q => by omega)]; omega
      · exact (ih h2).pre (by omega) (Or.inl h1) (fun q => by omega) (fun _ => by omega)
      · have p := ih h3
        have hj : j = (j - 1) + 1 := by have := p.1; omega
        rw [hj]
        exact p.par h1 h2
      · have p := ih h4
        have hj : j = (j - 1) + 1 := by have := p.1; omega
        have k : Pr w 0 (i + 1) j := by
          rw [hj]
          exact Pr.par (c := 7) (by rw [show i + 1 + 1 = i + 2 by first | rfl | omega]; exact p) h2 h3
        exact k.pre2 h1
    rw [if_neg c0] at h
    by_cases c1 : c = 1
    · rw [if_pos c1] at h
      subst c1
      rcases h with h | ⟨m, h1, h2, h3⟩
      · exact (ih h).wk (by omega) (fun _ => by omega)
      · exact (ih h2).join (ih h3) (by omega) (by omega) (fun _ => by omega) (fun _ => by omega) (by omega) (by rw [lz_26 (by omega)]; omega)
    rw [if_neg c1] at h
    by_cases c2 : c = 2
    · rw [if_pos c2] at h
      subst c2
      rcases h with h | ⟨m, h1, h2, h3⟩
      · exact (ih h).wk (by omega) (fun _ => by omega)
      · exact (ih h2).join (ih h3) (by omega) (by omega) (fun _ => by omega) (fun _ => by omega) (by omega) (by rw [lz_24 h1 (ih h2).1 (ih h2).2.2.2.1]; omega)
    rw [if_neg c2] at h
    by_cases c3 : c = 3
    · rw [if_pos c3] at h
      subst c3
      rcases h with h | ⟨m, h1, h2, h3⟩ | ⟨h1, h2⟩
      · exact (ih h).wk (by omega) (fun _ => by omega)
      · exact (ih h2).join (ih h3) (by omega) (by omega) (fun _ => by omega) (fun _ => by omega) (by omega) (by rw [lz_18 h1]; omega)
      · exact (ih h2).pre (by omega) (Or.inr h1) (fun _ => by omega) (fun _ => by omega)
    rw [if_neg c3] at h
    by_cases c4 : c = 4
    · rw [if_pos c4] at h
      subst c4
      rcases h with h | ⟨m, h1, h2, h3⟩
      · exact (ih h).wk (by omega) (fun _ => by omega)
      · exact (ih h2).join (ih h3) (by omega) (by omega) (fun _ => by omega) (fun _ => by omega) (by omega) (by rw [lz_29 h1]; omega)
    rw [if_neg c4] at h
    by_cases c5 : c = 5
    · rw [if_pos c5] at h
      subst c5
      rcases h with h | ⟨m, h1, h2, h3⟩
      · exact (ih h).wk (by omega) (fun _ => by omega)
      · exact (ih h2).join (ih h3) (by omega) (by omega) (fun _ => by omega) (fun _ => by omega) (by omega) (by rw [lz_30 h1]; omega)
    rw [if_neg c5] at h
    by_cases c6 : c = 6
    · rw [if_pos c6] at h
      subst c6
      rcases h with h | ⟨m, q, h1, h2, h3, h4, h5⟩
      · exact (ih h).wk (by omega) (fun _ => by omega)
      · exact (ih h3).ask (ih h4) (ih h5) h1 h2
    rw [if_neg c6] at h
    by_cases c7 : c = 7
    · rw [if_pos c7] at h
      subst c7
      rcases h with h | ⟨m, h1, h2, h3⟩
      · exact (ih h).wk (by omega) (fun _ => by omega)
      · exact (ih h2).join (ih h3) (by omega) (by omega) (fun _ => by omega) (fun _ => by omega) (by omega) (by rw [lz_35 h1]; omega)
    · rw [if_neg c7] at h
      exact h.elim
theorem Eo.pr {c i j : Nat} (h : Eo w c i j) : Pr w c i j := by
  obtain ⟨n, h⟩ := h
  exact ex_pr h
/-- how loose the m-th word is, where nothing is open -/
def ll (w : Nat → Int) (i m : Nat) : Nat := if dp w i m = 0 then lz w i (i + m) else 0
/-- the loosest of the first m words, and how loose -/
def bh (w : Nat → Int) (i : Nat) : Nat → Int × Nat
  | 0 => (-1, 0)
  | m + 1 => if (bh w i m).2 < ll w i m ∨ (0 < ll w i m ∧ ll w i m = (bh w i m).2 ∧ ll w i m < 6) then (((i + m : Nat) : Int), ll w i m) else bh w i m
theorem bh_s {i m : Nat} : bh w i (m + 1) = if (bh w i m).2 < ll w i m ∨ (0 < ll w i m ∧ ll w i m = (bh w i m).2 ∧ ll w i m < 6) then (((i + m : Nat) : Int), ll w i m) else bh w i m := rfl
theorem bh_le {i c : Nat} : ∀ m, (∀ k, k < m → ll w i k ≤ c) → (bh w i m).2 ≤ c
  | 0, _ => Nat.zero_le _
  | m + 1, h => by
    have a := bh_le m (fun k hk => h k (by omega))
    have b := h m (by omega)
    rw [bh_s]
    split
    · exact b
    · exact a
theorem bh_none {i : Nat} : ∀ m, (∀ k, k < m → ll w i k = 0) → bh w i m = (-1, 0)
  | 0, _ => rfl
  | m + 1, h => by
    have a := bh_none m (fun k hk => h k (by omega))
    have b := h m (by omega)
    rw [bh_s, b, a, if_neg (by show ¬ ((0 : Nat) < 0 ∨ _); omega)]
theorem bh_max {i a c : Nat} (hc : 0 < c) (h1 : ∀ k, k < a → ll w i k ≤ c) (h2 : ll w i a = c) : ∀ n, (∀ k, a < k → k < a + 1 + n → ll w i k ≤ c ∧ (c < 6 → ll w i k < c)) → (c = 6 → ∀ k, k < a → ll w i k ≤ 5) → bh w i (a + 1 + n) = (((i + a : Nat) : Int), c)
  | 0, _, h6 => by
    show bh w i (a + 1) = _
    have k := bh_le a h1
    rw [bh_s, h2]
    by_cases z : c = 6
    · have k5 := bh_le a (h6 z)
      rw [if_pos (Or.inl (by omega))]
    · rw [if_pos (by
        have := lz_le (w := w) (i := i) (k := i + a)
        have h6' : c ≤ 6 := by
          have : ll w i a ≤ 6 := by unfold ll; split <;> omega
          omega
        omega)]
  | n + 1, h, h6 => by
    have ihn := bh_max hc h1 h2 n (fun k k1 k2 => h k k1 (by omega)) h6
    have b := h (a + 1 + n) (by omega) (by omega)
    show bh w i (a + 1 + n + 1) = _
    rw [bh_s, ihn, if_neg]
    show ¬ (c < ll w i (a + 1 + n) ∨ (0 < ll w i (a + 1 + n) ∧ ll w i (a + 1 + n) = c ∧ ll w i (a + 1 + n) < 6))
    intro q
    have := b.1
    rcases q with q | ⟨q1, q2, q3⟩
    · omega
    · have := b.2 (by omega); omega
/-- where the reference splits -/
def lo (w : Nat → Int) (i j : Nat) : Int := if w i = 31 ∧ (bh w i (j - i)).2 < 4 then -1 else (bh w i (j - i)).1
theorem Lb.right {i a b c2 : Nat} (b1 : Bl w i a) (h2 : Lb w c2 (i + a + 1) b) (h36 : w (i + a) ≠ 36) (h37 : w (i + a) ≠ 37) (hno : ¬ opd (w (i + a))) (hf : fwd (w (i + a + 1))) : ∀ m, a < m → m < a + 1 + b → ll w i m ≤ c2 := by
  have d1 : dp w i (a + 1) = 0 := by rw [dp_s, if_neg h36, if_neg h37, b1.1]; omega
  have e : i + (a + 1) = i + a + 1 := by omega
  intro m h1 h3
  unfold ll
  by_cases q : dp w i m = 0
  · rw [if_pos q]
    by_cases x : m = a + 1
    · rw [x, e, lz_f hf (fun _ => by rw [show i + a + 1 - 1 = i + a by first | rfl | omega]; exact hno)]; omega
    · rw [show m = (a + 1) + (m - (a + 1)) by first | rfl | omega, dp_app, d1, e] at q
      have k := h2 (m - (a + 1)) (by omega) (by omega)
      rw [show i + a + 1 + (m - (a + 1)) = i + m by first | rfl | omega] at k
      rw [lz_c (i' := i + a + 1) (by omega) (by omega)]
      exact k
  · rw [if_neg q]; omega
theorem lb_ll {c i l m : Nat} (h : Lb w c i l) (hm : m < l) : ll w i m ≤ c := by
  unfold ll
  split
  · exact h m hm (by assumption)
  · omega
end LO
end
end
section
section
/-! The reference: an expression is split into expressions. -/
section SP
variable {w : Nat → Int}
/-- a question; an operator; parentheses; a sign before; a leaf; a list -/
def spQ (w : Nat → Int) (i j : Nat) : Prop := (∃ m q : Nat, lo w i j = (m : Int) ∧ w m = 32 ∧ w q = 33 ∧ Eo w 5 i m ∧ Eo w 6 (m + 1) q ∧ Eo w 6 (q + 1) j)
  ∨ (∃ m : Nat, lo w i j = (m : Int) ∧ ((24 ≤ w m ∧ w m ≤ 30) ∨ (18 ≤ w m ∧ w m ≤ 23)) ∧ Eo w 6 i m ∧ Eo w 6 (m + 1) j)
  ∨ (lo w i j = -1 ∧ w i = 36 ∧ w (j - 1) = 37 ∧ Eo w 6 (i + 1) (j - 1))
  ∨ (lo w i j = -1 ∧ (w i = 25 ∨ w i = 31) ∧ Eo w 6 (i + 1) j)
  ∨ (lo w i j = -1 ∧ j = i + 1 ∧ (w i = 1 ∨ w i = 2 ∨ w i = 12 ∨ w i = 13))
  ∨ (lo w i j = -1 ∧ (w i = 14 ∨ w i = 15) ∧ w (i + 1) = 36 ∧ w (j - 1) = 37 ∧ Eo w 7 (i + 2) (j - 1))
theorem lo_op {c c1 c2 i m j : Nat} (h1 : Pr w c1 i m) (h2 : Pr w c2 (m + 1) j) (hc : 0 < c) (hc1 : c1 ≤ c) (hc2 : c2 ≤ c) (hc26 : c < 6 → c2 < c) (hc16 : c = 6 → c1 ≤ 5) (hop : (24 ≤ w m ∧ w m ≤ 32) ∨ (18 ≤ w m ∧ w m ≤ 23)) (hl : lz w i m = c) (hn : w i = 31 → 4 ≤ c) : lo w i j = (m : Int) := by
  obtain ⟨p1, p2, p3, p4, p5, p6, p7⟩ := h1
  obtain ⟨q1, q2, q3, q4, q5, q6, q7⟩ := h2
  have em : i + (m - i) = m := by omega
  have hb : bh w i (j - i) = ((m : Int), c) := by
    rw [show j - i = (m - i) + 1 + (j - (m + 1)) by first | rfl | omega]
    have hr := Lb.right (i := i) (a := m - i) (b := j - (m + 1)) (c2 := c2) p5 (by rw [em]; exact q7) (by rw [em]; omega) (by rw [em]; omega) (by rw [em]; unfold opd; omega) (by rw [em]; exact q2)
    have hm0 : ll w i (m - i) = c := by
      unfold ll
      rw [if_pos p5.1, em, hl]
    have k := bh_max (w := w) (i := i) (a := m - i) hc (fun k hk => by have := lb_ll p7 hk; omega) hm0 (j - (m + 1)) (fun k k1 k2 => by have := hr k k1 k2; exact ⟨by omega, fun z => by have := hc26 z; omega⟩) (fun z k hk => by have := lb_ll p7 hk; have := hc16 z; omega)
    rw [em] at k
    exact k
  unfold lo
  rw [hb, if_neg]
  show ¬ (w i = 31 ∧ c < 4)
  intro q
  have := hn q.1
  omega
theorem lo_none {i j : Nat} (h : Pr w 0 i j) : lo w i j = -1 := by
  have hb : bh w i (j - i) = (-1, 0) := bh_none _ (fun k hk => by have := lb_ll h.2.2.2.2.2.2 hk; omega)
  unfold lo
  rw [hb]
  split <;> rfl
theorem lo_not {i j : Nat} (h : Pr w 3 i j) (h31 : w i = 31) : lo w i j = -1 := by
  have hb := bh_le (w := w) (i := i) (c := 3) (j - i) (fun k hk => lb_ll h.2.2.2.2.2.2 hk)
  unfold lo
  rw [if_pos ⟨h31, by omega⟩]
theorem ex_sp : ∀ {n c i j : Nat}, c ≤ 6 → Ex w n c i j → spQ w i j := by
  intro n
  induction n with
  | zero => intro c i j _ h; exact h.elim
  | succ n ih =>
    intro c i j hc h
    have hp := ex_pr h
    rw [Ex] at h
    by_cases c0 : c = 0
    · rw [if_pos c0] at h
      subst c0
      have hlo := lo_none hp
      rcases h with ⟨h1, h2⟩ | ⟨h1, h2⟩ | ⟨h1, h2, h3⟩ | ⟨h1, h2, h3, h4⟩
      · exact Or.inr (Or.inr (Or.inr (Or.inr (Or.inl ⟨hlo, h1, h2⟩))))
      · exact Or.inr (Or.inr (Or.inr (Or.inl ⟨hlo, Or.inl h1, Eo.six (by omega) ⟨n, h2⟩⟩)))
      · exact Or.inr (Or.inr (Or.inl ⟨hlo, h1, h2, ⟨n, h3⟩⟩))
      · exact Or.inr (Or.inr (Or.inr (Or.inr (Or.inr ⟨hlo, h1, h2, h3, ⟨n, h4⟩⟩))))
    rw [if_neg c0] at h
    by_cases c1 : c = 1
    · rw [if_pos c1] at h
      subst c1
      rcases h with h | ⟨m, h1, h2, h3⟩
      · exact ih (by omega) h
      · exact Or.inr (Or.inl ⟨m, lo_op (c := 1) (ex_pr h2) (ex_pr h3) (by omega) (by omega) (by omega) (fun _ => by omega) (fun _ => by omega) (by omega) (lz_26 (by omega)) (fun q => absurd q ((ex_pr h2).2.2.1 (by omega))), by omega, Eo.six (by omega) ⟨n, h2⟩, Eo.six (by omega) ⟨n, h3⟩⟩)
    rw [if_neg c1] at h
    by_cases c2 : c = 2
    · rw [if_pos c2] at h
      subst c2
      rcases h with h | ⟨m, h1, h2, h3⟩
      · exact ih (by omega) h
      · exact Or.inr (Or.inl ⟨m, lo_op (c := 2) (ex_pr h2) (ex_pr h3) (by omega) (by omega) (by omega) (fun _ => by omega) (fun _ => by omega) (by omega) (lz_24 h1 (ex_pr h2).1 (ex_pr h2).2.2.2.1) (fun q => absurd q ((ex_pr h2).2.2.1 (by omega))), by omega, Eo.six (by omega) ⟨n, h2⟩, Eo.six (by omega) ⟨n, h3⟩⟩)
    rw [if_neg c2] at h
    by_cases c3 : c = 3
    · rw [if_pos c3] at h
      subst c3
      rcases h with h | ⟨m, h1, h2, h3⟩ | ⟨h1, h2⟩
      · exact ih (by omega) h
      · exact Or.inr (Or.inl ⟨m, lo_op (c := 3) (ex_pr h2) (ex_pr h3) (by omega) (by omega) (by omega) (fun _ => by omega) (fun _ => by omega) (by omega) (lz_18 h1) (fun q => absurd q ((ex_pr h2).2.2.1 (by omega))), by omega, Eo.six (by omega) ⟨n, h2⟩, Eo.six (by omega) ⟨n, h3⟩⟩)
      · exact Or.inr (Or.inr (Or.inr (Or.inl ⟨lo_not hp h1, Or.inr h1, Eo.six (by omega) ⟨n, h2⟩⟩)))
    rw [if_neg c3] at h
    by_cases c4 : c = 4
    · rw [if_pos c4] at h
      subst c4
      rcases h with h | ⟨m, h1, h2, h3⟩
      · exact ih (by omega) h
      · exact Or.inr (Or.inl ⟨m, lo_op (c := 4) (ex_pr h2) (ex_pr h3) (by omega) (by omega) (by omega) (fun _ => by omega) (fun _ => by omega) (by omega) (lz_29 h1) (fun _ => by omega), by omega, Eo.six (by omega) ⟨n, h2⟩, Eo.six (by omega) ⟨n, h3⟩⟩)
    rw [if_neg c4] at h
    by_cases c5 : c = 5
    · rw [if_pos c5] at h
      subst c5
      rcases h with h | ⟨m, h1, h2, h3⟩
      · exact ih (by omega) h
      · exact Or.inr (Or.inl ⟨m, lo_op (c := 5) (ex_pr h2) (ex_pr h3) (by omega) (by omega) (by omega) (fun _ => by omega) (fun _ => by omega) (by omega) (lz_30 h1) (fun _ => by omega), by omega, Eo.six (by omega) ⟨n, h2⟩, Eo.six (by omega) ⟨n, h3⟩⟩)
    rw [if_neg c5] at h
    by_cases c6 : c = 6
    · rw [if_pos c6] at h
      subst c6
      rcases h with h | ⟨m, q, h1, h2, h3, h4, h5⟩
      · exact ih (by omega) h
      · -- the right side of the question, up to the end
        have p5 := ex_pr h3
        have p6 := ex_pr h4
        have p7 := ex_pr h5
        have hq5 := p5.2.2.2.2.1
        have hlo : lo w i j = (m : Int) := by
          have em : i + (m - i) = m := by have := p5.1; omega
          have hb : bh w i (j - i) = ((m : Int), 6) := by
            have hm1 := p5.1
            have hq1 := p6.1
            have hj1 := p7.1
            rw [show j - i = (m - i) + 1 + (j - (m + 1)) by first | rfl | omega]
            have hm0 : ll w i (m - i) = 6 := by
              unfold ll
              rw [if_pos hq5.1, em, lz_32 h1]
            have k := bh_max (w := w) (i := i) (a := m - i) (c := 6) (by omega) (fun k hk => by have := lb_ll p5.2.2.2.2.2.2 hk; omega) hm0 (j - (m + 1)) (fun k k1 k2 => ⟨by unfold ll; have := lz_le (w := w) (i := i) (k := i + k); split <;> omega, fun z => by omega⟩) (fun z k hk => by have := lb_ll p5.2.2.2.2.2.2 hk; omega)
            rw [em] at k
            exact k
          unfold lo
          rw [hb, if_neg]
          show ¬ (w i = 31 ∧ 6 < 4)
          omega
        exact Or.inl ⟨m, q, hlo, h1, h2, ⟨n, h3⟩, ⟨n, h4⟩, ⟨n, h5⟩⟩
    · omega
theorem Eo.sp {i j : Nat} (h : Eo w 6 i j) : spQ w i j := by
  obtain ⟨n, h⟩ := h
  exact ex_sp (by omega) h
/-- a list: its last part, and what is before -/
theorem Eo.lst {i j : Nat} (h : Eo w 7 i j) : Eo w 6 i j ∨ ∃ m, w m = 35 ∧ Eo w 7 i m ∧ Eo w 6 (m + 1) j := by
  obtain ⟨n, h⟩ := h
  cases n with
  | zero => exact h.elim
  | succ n =>
    have h' : Ex w (n + 1) 7 i j := h
    rw [Ex] at h'
    have h'' : Ex w n 6 i j ∨ ∃ m, w m = 35 ∧ Ex w n 7 i m ∧ Ex w n 6 (m + 1) j := h'
    rcases h'' with h | ⟨m, h1, h2, h3⟩
    · exact Or.inl ⟨n, h⟩
    · exact Or.inr ⟨m, h1, ⟨n, h2⟩, ⟨n, h3⟩⟩
end SP
end
section
/-! The reference: its searches among the words. -/
section SR
variable {G : mG} {d a N : Nat} {M : mM}
/-- N words are there -/
def Wn (M : mM) (a N : Nat) : Prop := Wd M a ∧ ln M (a + 5) = N ∧ N ≤ 16385
abbrev wk (M : mM) (a : Nat) : Nat → Int := nt M (a + 5)
theorem n5 : a + 5 ∈ nums a := nums_o (by decide)
theorem s_MM_word1 {k : Nat} (hO : mOk M) (h : Wn M a N) (hk : k < N) : Ci G y_MM_word1 (d + 1) [vr a, vi k] M (fun x M' => M' = M ∧ x = wk M a k) := by
  obtain ⟨w, l, b⟩ := h
  refine k_MM_word1 hO (i32s (by omega) (by omega)) ?_
  rw [w.1.2.2.1.1]
  refine ⟨w.1.1, (w.nu n5).1, (s_MN_at hO (w.nu n5) (by omega)).mono (fun x M1 h1 => ?_)⟩
  obtain ⟨e1, hx⟩ := h1
  subst e1
  exact ⟨by rw [hx]; exact (hO _ _).1, hO, rfl, hx⟩
theorem wk32 (hO : mOk M) {k : Nat} : i32 (wk M a k) := (hO _ _).1
theorem s_MM_isOperand {k : Nat} (hO : mOk M) (h : Wn M a N) (hk : k < N) : Ci G y_MM_isOperand (d + 2) [vr a, vi k] M (fun x M' => M' = M ∧ (x = 0 ∨ x = 1) ∧ (x ≠ 0 ↔ opd (wk M a k))) := by
  have hK := h.1.1.1
  have one : ∀ x M', (M' = M ∧ x = wk M a k) → i32 x ∧ mOk M' := fun x M' q => by rw [q.1, q.2]; exact ⟨wk32 hO, hO⟩
  refine k_MM_isOperand hO (i32s (by have := h.2.2; omega) (by have := h.2.2; omega)) ⟨hK, (s_MM_word1 (d := d) hO h hk).mono (fun x M1 h1 => ?_)⟩
  obtain ⟨e1, hx⟩ := h1
  subst e1
  refine ⟨by rw [hx]; exact wk32 hO, hO, fun q => ⟨rfl, Or.inr rfl, ⟨fun _ => by unfold opd; omega, fun _ => by omega⟩⟩, fun q1 => ⟨hK, (s_MM_word1 (d := d) hO h hk).mono (fun x2 M2 h2 => ?_)⟩⟩
  obtain ⟨e2, hx2⟩ := h2
  subst e2
  refine ⟨by rw [hx2]; exact wk32 hO, hO, fun q => ⟨rfl, Or.inr rfl, ⟨fun _ => by unfold opd; omega, fun _ => by omega⟩⟩, fun q2 => ⟨hK, (s_MM_word1 (d := d) hO h hk).mono (fun x3 M3 h3 => ?_)⟩⟩
  obtain ⟨e3, hx3⟩ := h3
  subst e3
  refine ⟨by rw [hx3]; exact wk32 hO, hO, fun q => ⟨rfl, Or.inr rfl, ⟨fun _ => by unfold opd; omega, fun _ => by omega⟩⟩, fun q3 => ⟨hK, (s_MM_word1 (d := d) hO h hk).mono (fun x4 M4 h4 => ?_)⟩⟩
  obtain ⟨e4, hx4⟩ := h4
  subst e4
  refine ⟨by rw [hx4]; exact wk32 hO, hO, fun q => ⟨rfl, Or.inr rfl, ⟨fun _ => by unfold opd; omega, fun _ => by omega⟩⟩, fun q4 => ⟨hK, (s_MM_word1 (d := d) hO h hk).mono (fun x5 M5 h5 => ?_)⟩⟩
  obtain ⟨e5, hx5⟩ := h5
  subst e5
  refine ⟨by rw [hx5]; exact wk32 hO, hO, fun v hv => ⟨rfl, by split at hv <;> omega, ?_⟩⟩
  unfold opd
  split at hv <;> omega
theorem s_MM_looseness {k i : Nat} (hO : mOk M) (h : Wn M a N) (hk : k < N) (hi : i ≤ k) : Ci G y_MM_looseness (d + 3) [vr a, vi k, vi i] M (fun x M' => M' = M ∧ x = (lz (wk M a) i k : Int)) := by
  have hK := h.1.1.1
  have hN := h.2.2
  refine k_MM_looseness hO (i32s (by omega) (by omega)) (i32s (by omega) (by omega)) ⟨hK, (s_MM_word1 (d := d + 1) hO h hk).mono (fun x M1 h1 => ?_)⟩
  obtain ⟨e1, hx⟩ := h1
  subst e1
  unfold lz
  refine ⟨by rw [hx]; exact wk32 hO, hO, fun q => ⟨rfl, by rw [if_pos (by omega)]; rfl⟩, fun q1 => ⟨fun q v hv => ⟨rfl, ?_⟩, fun q2 => (s_MM_isComparison (by rw [hx]; exact wk32 hO) hO).mono (fun y M2 h2 => ?_)⟩⟩
  · rw [if_neg (by omega)]
    by_cases z : x = 30
    · rw [if_pos z] at hv
      rw [if_pos (by omega), hv]; rfl
    · rw [if_neg z] at hv
      rw [if_neg (by omega), if_pos (by omega), hv]; rfl
  · obtain ⟨e2, hy, hyq⟩ := h2
    subst e2
    rw [if_neg (show ¬ wk M2 a k = 32 by first | rfl | omega), if_neg (show ¬ wk M2 a k = 30 by first | rfl | omega), if_neg (show ¬ wk M2 a k = 29 by first | rfl | omega)]
    refine ⟨i32s (by omega) (by omega), hO, fun y0 => ?_, fun y0 => ⟨rfl, by rw [if_pos (by have := hyq.1 y0; omega)]; rfl⟩⟩
    rw [if_neg (show ¬ (18 ≤ wk M2 a k ∧ wk M2 a k ≤ 23) from fun z => absurd y0 (hyq.2 (by omega)))]
    refine ⟨fun q => ?_, fun q v hv => ⟨rfl, ?_⟩⟩
    · rw [if_pos (show wk M2 a k = 24 ∨ wk M2 a k = 25 by first | rfl | omega)]
      refine ⟨fun z => k_MM_looseness_80 hO (i32s (by omega) (by omega)) ⟨rfl, by rw [if_neg (fun u => by have := u.1; omega)]; rfl⟩, fun z => ⟨hK, ?_⟩⟩
      rw [show (k : Int) - 1 = ((k - 1 : Nat) : Int) by first | rfl | omega]
      refine (s_MM_isOperand (d := d) hO h (k := k - 1) (by omega)).mono (fun u M3 h3 => ?_)
      obtain ⟨e3, hu, huq⟩ := h3
      subst e3
      refine ⟨i32s (by omega) (by omega), hO, fun u0 => k_MM_looseness_80 hO (i32s (by omega) (by omega)) ⟨rfl, by rw [if_neg (fun v => huq.2 v.2 u0)]; rfl⟩, fun u0 => k_MM_looseness_80 hO (i32s (by omega) (by omega)) ⟨rfl, by rw [if_pos ⟨by omega, huq.1 u0⟩]; rfl⟩⟩
    · rw [if_neg (show ¬ (wk M2 a k = 24 ∨ wk M2 a k = 25) by first | rfl | omega)]
      by_cases z : x = 26 ∨ (x = 27 ∨ x = 28)
      · rw [if_pos z] at hv
        rw [if_pos (by omega), hv]; rfl
      · rw [if_neg z] at hv
        rw [if_neg (by omega), hv]; rfl
theorem dp_b {w : Nat → Int} {i : Nat} : ∀ m : Nat, -(m : Int) ≤ dp w i m ∧ dp w i m ≤ m
  | 0 => by show -((0 : Nat) : Int) ≤ 0 ∧ (0 : Int) ≤ ((0 : Nat) : Int); omega
  | m + 1 => by
    have := dp_b (w := w) (i := i) m
    rw [dp_s]
    split <;> (try split) <;> omega
theorem aq_b {w : Nat → Int} {i : Nat} : ∀ m : Nat, -(m : Int) ≤ aq w i m ∧ aq w i m ≤ m
  | 0 => by show -((0 : Nat) : Int) ≤ 0 ∧ (0 : Int) ≤ ((0 : Nat) : Int); omega
  | m + 1 => by
    have := aq_b (w := w) (i := i) m
    rw [aq_s]
    split <;> (try split) <;> (try split) <;> omega
theorem lz_37 {w : Nat → Int} {i m : Nat} (h : w m = 37) : lz w i m = 0 := by
  unfold lz
  rw [if_neg (by omega), if_neg (by omega), if_neg (by omega), if_neg (by omega), if_neg (by omega), if_neg (by omega)]
theorem bh_b {w : Nat → Int} {i : Nat} : ∀ m, -1 ≤ (bh w i m).1 ∧ (bh w i m).1 ≤ (i + m : Nat) ∧ (bh w i m).2 ≤ 6
  | 0 => ⟨by show (-1 : Int) ≤ -1; omega, by show (-1 : Int) ≤ _; omega, Nat.zero_le _⟩
  | m + 1 => by
    have k := bh_b (w := w) (i := i) m
    have l : ll w i m ≤ 6 := by unfold ll; have := lz_le (w := w) (i := i) (k := i + m); split <;> omega
    rw [bh_s]
    split
    · exact ⟨by show (-1 : Int) ≤ ((i + m : Nat) : Int); omega, by show ((i + m : Nat) : Int) ≤ _; omega, l⟩
    · exact ⟨k.1, by omega, k.2.2⟩
theorem s_MM_loosest {i j : Nat} (hO : mOk M) (h : Wn M a N) (hij : i < j) (hj : j ≤ N) : Ci G y_MM_loosest (d + 4) [vr a, vi i, vi j] M (fun x M' => M' = M ∧ x = lo (wk M a) i j) := by
  have hK := h.1.1.1
  have hN := h.2.2
  refine k_MM_loosest hO (i32s (by omega) (by omega)) (i32s (by omega) (by omega)) ?_
  suffices H : ∀ (c m : Nat), m + c = j - i → h_MM_loosest_11 G (d + 3) a i j (bh (wk M a) i m).1 (bh (wk M a) i m).2 (dp (wk M a) i m) (i + m : Nat) M (fun x M' => M' = M ∧ x = lo (wk M a) i j) from
    H (j - i) 0 (by omega)
  intro c
  induction c with
  | zero =>
    intro m hm
    have em : m = j - i := by omega
    have b := bh_b (w := wk M a) (i := i) m
    have db := dp_b (w := wk M a) (i := i) m
    refine k_MM_loosest_11 hO (i32s (by omega) (by omega)) (i32s (by omega) (by omega)) (i32s (by omega) (by omega)) (i32s (by omega) (by omega)) (i32s (by omega) (by omega)) (i32s (by omega) (by omega)) ⟨fun _ => ⟨hK, (s_MM_word1 (d := d + 2) hO h (by omega)).mono (fun x M1 h1 => ?_)⟩, fun q => by omega⟩
    obtain ⟨e1, hx⟩ := h1
    subst e1
    refine ⟨by rw [hx]; exact wk32 hO, hO, fun v hv => ⟨rfl, ?_⟩⟩
    unfold lo
    rw [← em]
    by_cases z : ¬ (x = 31) ∨ 4 ≤ ((bh (wk M1 a) i m).2 : Int)
    · rw [if_pos z] at hv
      rw [if_neg (by omega)]
      exact hv
    · rw [if_neg z] at hv
      rw [if_pos (by omega)]
      exact hv
  | succ c ih =>
    intro m hm
    have nx := ih (m + 1) (by omega)
    have b := bh_b (w := wk M a) (i := i) m
    have db := dp_b (w := wk M a) (i := i) m
    have hl : ll (wk M a) i m ≤ 6 := by unfold ll; have := lz_le (w := wk M a) (i := i) (k := i + m); split <;> omega
    refine k_MM_loosest_11 hO (i32s (by omega) (by omega)) (i32s (by omega) (by omega)) (i32s (by omega) (by omega)) (i32s (by omega) (by omega)) (i32s (by omega) (by omega)) (i32s (by omega) (by omega)) ⟨fun q => by omega, fun _ => ⟨hK, (s_MM_word1 (d := d + 2) hO h (by omega)).mono (fun x M1 h1 => ?_)⟩⟩
    obtain ⟨e1, hx⟩ := h1
    subst e1
    refine ⟨by rw [hx]; exact wk32 hO, hO, fun v hv => ?_⟩
    have h55 : ∀ k0 : Int, k0 = (ll (wk M1 a) i m : Int) → h_MM_loosest_55 G (d + 3) a i j (bh (wk M1 a) i m).1 (bh (wk M1 a) i m).2 v (i + m : Nat) k0 M1 (fun x M' => M' = M1 ∧ x = lo (wk M1 a) i j) := fun k0 hk0 => by
      refine k_MM_loosest_55 hO (i32s (by omega) (by omega)) (i32s (by omega) (by omega)) (i32s (by omega) (by omega)) (i32s (by omega) (by omega)) (i32s (by split at hv <;> omega) (by split at hv <;> omega)) (i32s (by omega) (by omega)) (i32s (by omega) (by omega)) (fun u hu t ht => ⟨hK, (s_MM_word1 (d := d + 2) hO h (by omega)).mono (fun y M2 h2 => ?_)⟩)
      obtain ⟨e2, hy⟩ := h2
      subst e2
      refine ⟨by rw [hy]; exact wk32 hO, hO, fun r hr => ?_⟩
      have hu' : u = (bh (wk M2 a) i (m + 1)).1 ∧ t = ((bh (wk M2 a) i (m + 1)).2 : Int) := by
        rw [bh_s]
        by_cases z : (bh (wk M2 a) i m).2 < ll (wk M2 a) i m ∨ (0 < ll (wk M2 a) i m ∧ ll (wk M2 a) i m = (bh (wk M2 a) i m).2 ∧ ll (wk M2 a) i m < 6)
        · rw [if_pos z]
          rw [if_pos (by omega)] at hu ht
          exact ⟨hu, by rw [ht, hk0]⟩
        · rw [if_neg z]
          rw [if_neg (by omega)] at hu ht
          exact ⟨hu, ht⟩
      have hr' : r = dp (wk M2 a) i (m + 1) := by
        rw [dp_s, ← hy]
        have hxy : y = x := hy.trans hx.symm
        split at hr <;> split at hv <;> (try split) <;> (try split) <;> omega
      rw [hu'.1, hu'.2, hr']
      have := nx
      rw [show (((i + (m + 1) : Nat)) : Int) = ((i + m : Nat) : Int) + 1 by first | rfl | omega] at this
      exact this
    refine ⟨i32s (by split at hv <;> omega) (by split at hv <;> omega), fun v0 => ⟨hK, (s_MM_looseness (d := d) hO h (by omega) (by omega)).mono (fun y M2 h2 => ?_)⟩, fun v0 => h55 0 ?_⟩
    · obtain ⟨e2, hy⟩ := h2
      subst e2
      have hyb := lz_le (w := wk M2 a) (i := i) (k := i + m)
      refine ⟨i32s (by omega) (by omega), hO, h55 y ?_⟩
      unfold ll
      by_cases z : dp (wk M2 a) i m = 0
      · rw [if_pos z]; exact hy
      · rw [if_neg z, hy, lz_37 (by split at hv <;> omega)]
    · unfold ll
      by_cases z : dp (wk M1 a) i m = 0
      · rw [if_pos z, lz_37 (by split at hv <;> omega)]; rfl
      · rw [if_neg z]; rfl
theorem s_MM_colonOf {m q l : Nat} (hO : mOk M) (h : Wn M a N) (hm : m < q) (hq : q < N) (hl : l ≤ 20000) (hb : Bl (wk M a) (m + 1) (q - (m + 1))) (h33 : wk M a q = 33) : Ci G y_MM_colonOf (d + 2) [vr a, vi m, vi l] M (fun x M' => M' = M ∧ x = q) := by
  have hK := h.1.1.1
  have hN := h.2.2
  refine k_MM_colonOf hO (i32s (by omega) (by omega)) (i32s (by omega) (by omega)) ?_
  suffices H : ∀ (c t : Nat), t + c = q - (m + 1) → h_MM_colonOf_11 G (d + 1) a (aq (wk M a) (m + 1) t) (dp (wk M a) (m + 1) t) (m + t : Nat) 0 M (fun x M' => M' = M ∧ x = q) from
    H (q - (m + 1)) 0 (by omega)
  intro c
  induction c with
  | zero =>
    intro t ht
    have d0 : dp (wk M a) (m + 1) t = 0 := by rw [show t = q - (m + 1) by first | rfl | omega]; exact hb.1
    have a0 : aq (wk M a) (m + 1) t = 0 := by rw [show t = q - (m + 1) by first | rfl | omega]; exact hb.2.1
    rw [d0, a0]
    refine k_MM_colonOf_11 hO (i32s (by omega) (by omega)) (i32s (by omega) (by omega)) (i32s (by omega) (by omega)) (i32s (by omega) (by omega)) ⟨fun _ => ⟨hK, ?_⟩, fun z => absurd rfl z⟩
    rw [show ((m + t : Nat) : Int) + 1 = ((q : Nat) : Int) by first | rfl | omega]
    refine (s_MM_word1 (d := d) hO h hq).mono (fun x M1 h1 => ?_)
    obtain ⟨e1, hx⟩ := h1
    subst e1
    rw [h33] at hx
    refine ⟨i32s (by omega) (by omega), hO, fun v hv => ?_⟩
    rw [if_neg (by omega), if_neg (by omega)] at hv
    refine ⟨fun _ => i32s (by omega) (by omega), fun u hu => ⟨i32s (by omega) (by omega), fun s hs => ?_⟩⟩
    rw [if_pos ⟨hx, hv, rfl⟩] at hu
    subst hu hv
    rw [if_pos (by omega), if_neg (by omega), if_pos hx] at hs
    exact k_MM_colonOf_11 hO (i32s (by omega) (by omega)) (i32s (by omega) (by omega)) (i32s (by omega) (by omega)) (i32s (by omega) (by omega)) ⟨fun z => by omega, fun _ => ⟨rfl, rfl⟩⟩
  | succ c ih =>
    intro t ht
    have nx := ih (t + 1) (by omega)
    have db := dp_b (w := wk M a) (i := m + 1) t
    have ab := aq_b (w := wk M a) (i := m + 1) t
    have bp := hb.2.2.1 t (by omega)
    have bw := (hb.2.2.2 t (by omega)).2
    refine k_MM_colonOf_11 hO (i32s (by omega) (by omega)) (i32s (by omega) (by omega)) (i32s (by omega) (by omega)) (i32s (by omega) (by omega)) ⟨fun _ => ⟨hK, ?_⟩, fun z => absurd rfl z⟩
    rw [show ((m + t : Nat) : Int) + 1 = ((m + 1 + t : Nat) : Int) by first | rfl | omega]
    refine (s_MM_word1 (d := d) hO h (by omega)).mono (fun x M1 h1 => ?_)
    obtain ⟨e1, hx⟩ := h1
    subst e1
    refine ⟨by rw [hx]; exact wk32 hO, hO, fun v hv => ?_⟩
    have hv' : v = dp (wk M1 a) (m + 1) (t + 1) := by
      rw [dp_s, ← hx]
      split at hv <;> (try split at hv) <;> (try split) <;> (try split) <;> omega
    have db1 := dp_b (w := wk M1 a) (i := m + 1) (t + 1)
    refine ⟨fun _ => i32s (by omega) (by omega), fun u hu => ⟨i32s (by omega) (by omega), fun s hs => ?_⟩⟩
    have hu0 : u = 0 := by
      by_cases z : x = 33 ∧ (v = 0 ∧ aq (wk M1 a) (m + 1) t = 0)
      · exfalso
        obtain ⟨z1, z2, z3⟩ := z
        rw [if_neg (by omega), if_neg (by omega)] at hv
        exact bw (by omega) z3 (by rw [← hx]; exact z1)
      · rw [if_neg z] at hu; exact hu
    have hs' : s = aq (wk M1 a) (m + 1) (t + 1) := by
      rw [aq_s, ← hx]
      by_cases z1 : x = 36
      · rw [if_pos z1] at hv
        rw [if_neg (by omega)] at hs
        rw [hs]
        split
        · rfl
        · rw [if_neg (by omega), if_neg (by omega)]; omega
      · rw [if_neg z1] at hv
        by_cases z2 : x = 37
        · rw [if_pos z2] at hv
          have e : s = aq (wk M1 a) (m + 1) t := by split at hs <;> (try split at hs) <;> (try split at hs) <;> omega
          rw [e]
          split
          · rfl
          · rw [if_neg (by omega), if_neg (by omega)]; omega
        · rw [if_neg z2] at hv
          by_cases z3 : 0 < dp (wk M1 a) (m + 1) t
          · rw [if_pos z3]
            rw [if_neg (by omega)] at hs
            exact hs
          · rw [if_neg z3]
            rw [if_pos (by omega)] at hs
            rw [hs]
            split <;> (try split) <;> omega
    rw [hu0, hv', hs']
    rw [show ((m + 1 + t : Nat) : Int) = ((m + (t + 1) : Nat) : Int) by first | rfl | omega]
    exact nx
end SR
end
section
/-! The reference: searches on, numbers, and a new node. -/
section NO
variable {G : mG} {d a N : Nat} {M : mM}
theorem s_MM_until {i j : Nat} {s : Int} (hs : i32 s) (hO : mOk M) (h : Wn M a N) (hij : i ≤ j) (hj : j < N) (h1 : wk M a j = s) (h2 : dp (wk M a) i (j - i) ≤ 0) (h3 : aq (wk M a) i (j - i) ≤ 0) (h4 : ∀ t, t < j - i → ¬ (wk M a (i + t) = s ∧ dp (wk M a) i t ≤ 0 ∧ aq (wk M a) i t ≤ 0)) : Ci G y_MM_until (d + 2) [vr a, vi i, vi s] M (fun x M' => M' = M ∧ x = j) := by
  have hK := h.1.1.1
  have hN := h.2.2
  refine k_MM_until hO (i32s (by omega) (by omega)) hs ?_
  suffices H : ∀ (c t : Nat), t + c = j - i → h_MM_until_8 G (d + 1) a s (dp (wk M a) i t) (aq (wk M a) i t) (i + t : Nat) M (fun x M' => M' = M ∧ x = j) from
    H (j - i) 0 (by omega)
  intro c
  induction c with
  | zero =>
    intro t ht
    have et : t = j - i := by omega
    subst et
    have db := dp_b (w := wk M a) (i := i) (j - i)
    have ab := aq_b (w := wk M a) (i := i) (j - i)
    rw [show i + (j - i) = j by first | rfl | omega]
    refine k_MM_until_8 hO hs (i32s (by omega) (by omega)) (i32s (by omega) (by omega)) (i32s (by omega) (by omega)) ⟨hK, (s_MM_word1 (d := d) hO h hj).mono (fun x M1 e1 => ?_)⟩
    obtain ⟨e1, hx⟩ := e1
    subst e1
    exact ⟨by rw [hx]; exact wk32 hO, hO, fun q => by omega, fun _ => ⟨rfl, rfl⟩⟩
  | succ c ih =>
    intro t ht
    have nx := ih (t + 1) (by omega)
    have db := dp_b (w := wk M a) (i := i) t
    have ab := aq_b (w := wk M a) (i := i) t
    have h4t := h4 t (by omega)
    refine k_MM_until_8 hO hs (i32s (by omega) (by omega)) (i32s (by omega) (by omega)) (i32s (by omega) (by omega)) ⟨hK, (s_MM_word1 (d := d) hO h (by omega)).mono (fun x M1 e1 => ?_)⟩
    obtain ⟨e1, hx⟩ := e1
    subst e1
    refine ⟨by rw [hx]; exact wk32 hO, hO, fun _ => ⟨hK, (s_MM_word1 (d := d) hO h (by omega)).mono (fun y M2 e2 => ?_)⟩, fun q => absurd ⟨by omega, by omega, by omega⟩ h4t⟩
    obtain ⟨e2, hy⟩ := e2
    subst e2
    refine ⟨by rw [hy]; exact wk32 hO, hO, fun v hv => ?_⟩
    have hv' : v = dp (wk M2 a) i (t + 1) := by
      rw [dp_s, ← hy]
      split at hv <;> (try split at hv) <;> (try split) <;> (try split) <;> omega
    have db1 := dp_b (w := wk M2 a) (i := i) (t + 1)
    refine ⟨i32s (by omega) (by omega), fun s' hs' => ?_⟩
    have hs2 : s' = aq (wk M2 a) i (t + 1) := by
      rw [aq_s, ← hy]
      by_cases z1 : y = 36
      · rw [if_pos z1] at hv
        have e : s' = aq (wk M2 a) i t := by split at hs' <;> (try split at hs') <;> (try split at hs') <;> omega
        rw [e]
        split
        · rfl
        · rw [if_neg (by omega), if_neg (by omega)]; omega
      · rw [if_neg z1] at hv
        by_cases z2 : y = 37
        · rw [if_pos z2] at hv
          have e : s' = aq (wk M2 a) i t := by split at hs' <;> (try split at hs') <;> (try split at hs') <;> omega
          rw [e]
          split
          · rfl
          · rw [if_neg (by omega), if_neg (by omega)]; omega
        · rw [if_neg z2] at hv
          by_cases z3 : 0 < dp (wk M2 a) i t
          · rw [if_pos z3]
            rw [if_neg (by omega)] at hs'
            exact hs'
          · rw [if_neg z3]
            rw [if_pos (by omega)] at hs'
            rw [hs']
            split <;> (try split) <;> omega
    rw [hv', hs2, show ((i + t : Nat) : Int) + 1 = ((i + (t + 1) : Nat) : Int) by first | rfl | omega]
    exact nx
theorem s_MM_closeOf {k e : Nat} (hO : mOk M) (h : Wn M a N) (hk : k < e) (he : e < N) (h1 : ∀ t, 1 ≤ t → t ≤ e - k → 0 < dp (wk M a) k t) (h2 : dp (wk M a) k (e - k + 1) ≤ 0) : Ci G y_MM_closeOf (d + 2) [vr a, vi k] M (fun x M' => M' = M ∧ x = e) := by
  have hK := h.1.1.1
  have hN := h.2.2
  refine k_MM_closeOf hO (i32s (by omega) (by omega)) ?_
  suffices H : ∀ (c t : Nat), t + c = e - k → h_MM_closeOf_4 G (d + 1) a (dp (wk M a) k t) (k + t : Nat) M (fun x M' => M' = M ∧ x = e) from
    H (e - k) 0 (by omega)
  intro c
  induction c with
  | zero =>
    intro t ht
    have et : t = e - k := by omega
    subst et
    have db := dp_b (w := wk M a) (i := k) (e - k)
    have hp := h1 (e - k) (by omega) (by omega)
    rw [dp_s, show k + (e - k) = e by first | rfl | omega] at h2
    rw [show k + (e - k) = e by first | rfl | omega]
    refine k_MM_closeOf_4 hO (i32s (by omega) (by omega)) (i32s (by omega) (by omega)) ⟨hK, (s_MM_word1 (d := d) hO h he).mono (fun x M1 e1 => ?_)⟩
    obtain ⟨e1, hx⟩ := e1
    subst e1
    refine ⟨by rw [hx]; exact wk32 hO, hO, fun q => ?_, fun q => ⟨hK, (s_MM_word1 (d := d) hO h he).mono (fun y M2 e2 => ?_)⟩⟩
    · rw [if_pos (by omega)] at h2
      omega
    · obtain ⟨e2, hy⟩ := e2
      subst e2
      rw [if_neg (by omega)] at h2
      refine ⟨by rw [hy]; exact wk32 hO, hO, fun v hv => ⟨i32s (by split at hv <;> omega) (by split at hv <;> omega), fun z => ?_, fun z => ⟨rfl, by omega⟩⟩⟩
      split at hv <;> split at h2 <;> omega
  | succ c ih =>
    intro t ht
    have nx := ih (t + 1) (by omega)
    have db := dp_b (w := wk M a) (i := k) t
    have hp := h1 (t + 1) (by omega) (by omega)
    rw [show ((k + (t + 1) : Nat) : Int) = ((k + t : Nat) : Int) + 1 by first | rfl | omega] at nx
    have hd : dp (wk M a) k (t + 1) = dp (wk M a) k t + (if wk M a (k + t) = 36 then 1 else if wk M a (k + t) = 37 then -1 else 0) := dp_s
    refine k_MM_closeOf_4 hO (i32s (by omega) (by omega)) (i32s (by omega) (by omega)) ⟨hK, (s_MM_word1 (d := d) hO h (by omega)).mono (fun x M1 e1 => ?_)⟩
    obtain ⟨e1, hx⟩ := e1
    subst e1
    refine ⟨by rw [hx]; exact wk32 hO, hO, fun q => ?_, fun q => ⟨hK, (s_MM_word1 (d := d) hO h (by omega)).mono (fun y M2 e2 => ?_)⟩⟩
    · rw [if_pos (by omega)] at hd
      rw [hd] at nx hp
      exact ⟨i32s (by omega) (by omega), fun _ => nx, fun z => by omega⟩
    · obtain ⟨e2, hy⟩ := e2
      subst e2
      rw [if_neg (by omega)] at hd
      refine ⟨by rw [hy]; exact wk32 hO, hO, fun v hv => ?_⟩
      have hv' : v = dp (wk M2 a) k (t + 1) := by rw [hd]; split at hv <;> split <;> omega
      rw [hv']
      have db1 := dp_b (w := wk M2 a) (i := k) (t + 1)
      exact ⟨i32s (by omega) (by omega), fun _ => nx, fun z => by omega⟩
theorem n7 : a + 7 ∈ nums a := nums_o (by decide)
theorem n9 : a + 9 ∈ nums a := nums_o (by decide)
/-- N whole words are there -/
def Wx (M : mM) (a N : Nat) : Prop := Wn M a N ∧ ln M (a + 7) = N ∧ ln M (a + 9) = N ∧ (∀ k, k < N → wok M a (nt M (a + 5) k) (nt M (a + 7) k) (nt M (a + 9) k)) ∧ ln M (mR M a 2) ≤ 16384
theorem s_MM_place0 {k : Nat} (hO : mOk M) (h : Wx M a N) (hk : k < N) : Ci G y_MM_place0 (d + 1) [vr a, vi k] M (fun x M' => M' = M ∧ x = nt M (a + 7) k) := by
  obtain ⟨⟨w, l, b⟩, l7, l9, wo, -⟩ := h
  refine k_MM_place0 hO (i32s (by omega) (by omega)) ?_
  rw [w.1.2.2.1.2.1]
  refine ⟨w.1.1, (w.nu n7).1, (s_MN_at hO (w.nu n7) (by omega)).mono (fun x M1 h1 => ?_)⟩
  obtain ⟨e1, hx⟩ := h1
  subst e1
  exact ⟨by rw [hx]; exact (hO _ _).1, hO, rfl, hx⟩
theorem ten_pow_le {n m : Nat} (h : n ≤ m) : (10 : Int) ^ n ≤ 10 ^ m := by
  obtain ⟨c, rfl⟩ := Nat.le.dest h
  rw [Int.pow_add]
  have h1 : (0 : Int) < 10 ^ n := Int.pow_pos (by omega)
  have h2 : (0 : Int) < 10 ^ c := Int.pow_pos (by omega)
  have := Int.mul_le_mul_of_nonneg_left (a := 1) (b := 10 ^ c) (c := 10 ^ n) (by omega) (by omega)
  omega
end NO
end
section
/-! The reference: nodes of trees. -/
section ND
variable {G : mG} {d a N : Nat} {M M1 : mM}
theorem Wd.gp (h : Wd M a) {g : Nat} (hg : g = a + 13 ∨ g = a + 49) : Gp M g := by
  have k := h.1.2.2.2.2.2.2.2.2.2.2
  rcases hg with w | w <;> rw [w]
  · exact k.1
  · exact k.2
/-- the lists of a game that hold its trees -/
abbrev tL (g : Nat) : Nat → Prop := fun x => x = g + 1 ∨ x = g + 3 ∨ x = g + 5 ∨ x = g + 7 ∨ x = g + 9 ∨ x = g + 11
theorem tL_in {g q : Nat} (hg : g = a + 13 ∨ g = a + 49) (h : tL g q) : q ∈ nums a := by
  rcases hg with w | w <;> subst w <;> rcases h with h | h | h | h | h | h <;> subst h
  · exact nums_o (a := a) (o := 14) (by decide)
  · exact nums_o (a := a) (o := 16) (by decide)
  · exact nums_o (a := a) (o := 18) (by decide)
  · exact nums_o (a := a) (o := 20) (by decide)
  · exact nums_o (a := a) (o := 22) (by decide)
  · exact nums_o (a := a) (o := 24) (by decide)
  · exact nums_o (a := a) (o := 50) (by decide)
  · exact nums_o (a := a) (o := 52) (by decide)
  · exact nums_o (a := a) (o := 54) (by decide)
  · exact nums_o (a := a) (o := 56) (by decide)
  · exact nums_o (a := a) (o := 58) (by decide)
  · exact nums_o (a := a) (o := 60) (by decide)
/-- one number of a list is written anew -/
theorem mv_el {p j : Nat} {v : Int} (hv : i32 v) (hO : mOk M) (h : Wd M a) (hp : p ∈ nums a) (e : M1 = mUI M (mR M p 0) j v) : Mv (fun x => x = p) (fun _ => False) M a M1 ∧ ln M1 p = ln M p ∧ (∀ k, nt M1 p k = if k = j then v else nt M p k) ∧ cp M1 p = cp M p := by
  have hN := h.nu hp
  obtain ⟨n1, n2, n3, n4, n5⟩ := hN
  have f : FI (fun x => x = mR M p 0) M M1 := by rw [e]; exact FI.ui rfl
  have o1 : mOk M1 := by rw [e]; exact mOk_UI hO hv
  have er : mR M1 p = mR M p := by rw [f.2.2.1]
  have hne : p ≠ mR M p 0 := fun w => by rw [← w, n1] at n2; omega
  have ip : mI M1 p = mI M p := f.2.2.2.2.2.2 p hne
  have ec : cp M1 p = cp M p := by unfold cp; rw [er, f.2.1]
  have hN1 : Nu M1 p := ⟨by rw [f.1]; exact n1, by rw [er, f.1]; exact n2, by rw [er, f.2.2.2.2.1]; exact n3, by rw [ip, ec]; exact n4, by rw [ec]; exact n5⟩
  have fn : FN (fun x => x = p) (fun _ => False) M M1 := by
    refine ⟨⟨by rw [f.2.2.2.2.1]; exact Nat.le_refl _, fun q w => by rw [w]; exact n3.1⟩, fun x _ => ⟨by rw [f.1], by rw [f.2.1]⟩, fun x _ _ => by rw [f.2.2.1], fun x _ _ w _ => ⟨f.2.2.2.2.2.2 x (fun z => w p rfl z), by rw [f.2.2.2.1]⟩, fun q w => Or.inl (by rw [f.2.2.1])⟩
  have k := h.one hp fn hN1 (by rw [ec]; exact h.bd hp) (fun q hq hne => ⟨fun w => w, fun w => w⟩)
  refine ⟨⟨o1, k.1, RmL.fi f, fn, fun q hq hne => k.2 q hq hne⟩, by unfold ln; rw [ip], fun i => ?_, ec⟩
  unfold nt
  rw [er, e, mI_UI]
  by_cases z : i = j
  · rw [if_pos ⟨rfl, z⟩, if_pos z]
  · rw [if_neg (fun w => z w.2), if_neg z]
/-- T nodes -/
def nd (M : mM) (g T : Nat) : Prop := ∀ q, tL g q → ln M q = T
abbrev so (M : mM) (g : Nat) : Nat → Int := nt M (g + 1)
abbrev va (M : mM) (g : Nat) : Nat → Int := nt M (g + 7)
abbrev fp (M : mM) (g : Nat) : Nat → Int := nt M (g + 9)
abbrev np (M : mM) (g : Nat) : Nat → Int := nt M (g + 11)
theorem Mv.lst {P S : Nat → Prop} (h : Mv P S M a M1) {q : Nat} (hq : q ∈ nums a) (hp : ¬ P q) : sameN M M1 q := h.2.2.2.2 q hq hp
theorem Wx.mv {P S : Nat → Prop} (h : Wx M a N) (m : Mv P S M a M1) (hP : ∀ q, P q → q ∈ nums a) (h5 : ¬ P (a + 5)) (h7 : ¬ P (a + 7)) (h9 : ¬ P (a + 9)) (ht : ¬ P (mR M a 2)) : Wx M1 a N := by
  obtain ⟨⟨w, l, b⟩, l7, l9, wo, hT⟩ := h
  have s5 := m.lst n5 h5
  have s7 := m.lst n7 h7
  have s9 := m.lst n9 h9
  have st := m.lst w.tape.2.1 ht
  have r := m.rfl_a w hP
  refine ⟨⟨m.2.1, by rw [s5.1]; exact l, b⟩, by rw [s7.1]; exact l7, by rw [s9.1]; exact l9, fun k hk => ?_, by rw [r, st.1]; exact hT⟩
  rw [s5.2.1, s7.2.1, s9.2.1]
  exact (wo k hk).same r st
theorem tL_no {g : Nat} (hg : g = a + 13 ∨ g = a + 49) (h : Wd M a) : ¬ tL g (a + 5) ∧ ¬ tL g (a + 7) ∧ ¬ tL g (a + 9) ∧ ¬ tL g (mR M a 2) ∧ ¬ tL g (a + 91) := by
  have h1 := h.1.2.1
  refine ⟨by omega, by omega, by omega, ?_, by omega⟩
  rcases h1 with w | w <;> rw [w.2] <;> omega
end ND
end
section
/-! The reference: jobs, and joining a part to its parent. -/
section JO
variable {G : mG} {d a N g T : Nat} {M M2 : mM}
theorem n91 : a + 91 ∈ nums a := nums_o (by decide)
/-- the lists that tree changes -/
abbrev trP (a g : Nat) : Nat → Prop := fun x => tL g x ∨ x = a + 91
theorem trP_in {q : Nat} (hg : g = a + 13 ∨ g = a + 49) (h : trP a g q) : q ∈ nums a := by
  rcases h with h | h
  · exact tL_in hg h
  · rw [h]; exact n91
theorem trP_lt {M3 : mM} (hg : g = a + 13 ∨ g = a + 49) (w : Wd M3 a) : ∀ q, trP a g q → q < mZ M3 := fun q hq => w.lt (trP_in hg hq)
/-- while a tree is made: T nodes, jobs st -/
def TI (M : mM) (a g N T : Nat) (st : List Int) (M2 : mM) : Prop := Mv (trP a g) (fun _ => False) M a M2 ∧ Wx M2 a N ∧ mR M2 a 10 = g ∧ nd M2 g T ∧ St M2 (a + 91) st ∧ (g = a + 13 ∨ g = a + 49)
theorem TI.wx {st : List Int} {M3 : mM} {P : Nat → Prop} (h : TI M a g N T st M2) (m : Mv P (fun _ => False) M2 a M3) (hP : ∀ q, P q → trP a g q) : Mv (trP a g) (fun _ => False) M a M3 ∧ Wx M3 a N ∧ mR M3 a 10 = g := by
  obtain ⟨h1, h2, h3, h4, h5, hg⟩ := h
  have w := h2.1.1
  have no := tL_no hg w
  have hin : ∀ q, P q → q ∈ nums a := fun q hq => trP_in hg (hP q hq)
  refine ⟨h1.trans (m.mono hP (fun x hx => hx) (trP_lt hg w)), h2.mv m hin (fun q => ?_) (fun q => ?_) (fun q => ?_) (fun q => ?_), by rw [m.rfl_a w hin]; exact h3⟩
  · rcases hP _ q with z | z
    · exact no.1 z
    · omega
  · rcases hP _ q with z | z
    · exact no.2.1 z
    · omega
  · rcases hP _ q with z | z
    · exact no.2.2.1 z
    · omega
  · rcases hP _ q with z | z
    · exact no.2.2.2.1 z
    · rcases w.1.2.1 with y | y <;> rw [y.2] at z <;> omega
/-- from x on, the last brother is l -/
def Lk (M : mM) (g T : Nat) : Nat → Nat → Nat → Prop
  | 0, _, _ => False
  | f + 1, x, l => x < T ∧ ((x = l ∧ np M g x = -1) ∨ ∃ y : Nat, np M g x = y ∧ Lk M g T f y l)
theorem Lk.lt {f x l : Nat} (h : Lk M g T f x l) : l < T := by
  induction f generalizing x with
  | zero => exact h.elim
  | succ f ih =>
    obtain ⟨h1, h2⟩ := h
    rcases h2 with ⟨h2, -⟩ | ⟨y, -, h3⟩
    · omega
    · exact ih h3
/-- x has become a part of p -/
def jnQ (M2 : mM) (g T : Nat) (p : Int) (x : Nat) (M3 : mM) : Prop := (∀ n, so M3 g n = so M2 g n ∧ va M3 g n = va M2 g n) ∧ ((p < 0 ∧ ∀ n, fp M3 g n = fp M2 g n ∧ np M3 g n = np M2 g n) ∨ (0 ≤ p ∧ fp M2 g p.toNat = -1 ∧ (∀ n, fp M3 g n = if n = p.toNat then (x : Int) else fp M2 g n) ∧ ∀ n, np M3 g n = np M2 g n) ∨ (0 ≤ p ∧ ∃ f c l : Nat, fp M2 g p.toNat = c ∧ Lk M2 g T f c l ∧ (∀ n, fp M3 g n = fp M2 g n) ∧ ∀ n, np M3 g n = if n = l then (x : Int) else np M2 g n))
end JO
end
section
/-! The reference: the parts of a list. -/
section LI
variable {w : Nat → Int}
/-- x stands nowhere outside parentheses -/
def Nx (w : Nat → Int) (x : Int) (i l : Nat) : Prop := ∀ m, m < l → dp w i m = 0 → w (i + m) ≠ x
theorem Nx.join {x : Int} {i a b : Nat} (b1 : dp w i a = 0) (h1 : Nx w x i a) (h2 : Nx w x (i + a + 1) b) (h36 : w (i + a) ≠ 36) (h37 : w (i + a) ≠ 37) (hx : w (i + a) ≠ x) : Nx w x i (a + 1 + b) := by
  have d1 : dp w i (a + 1) = 0 := by rw [dp_s, if_neg h36, if_neg h37, b1]; omega
  have e : i + (a + 1) = i + a + 1 := by omega
  intro m hm q
  by_cases z : m < a
  · exact h1 m z q
  · by_cases y : m = a
    · rw [y]; exact hx
    · have k := h2 (m - (a + 1)) (by omega)
      rw [show i + a + 1 + (m - (a + 1)) = i + m by first | rfl | omega] at k
      refine k ?_
      rw [show m = (a + 1) + (m - (a + 1)) by first | rfl | omega, dp_app, d1, e] at q
      omega
theorem Nx.mid {x : Int} {i m j : Nat} (b1 : Bl w i (m - i)) (hm : i < m) (hj : m + 1 < j) (h1 : Nx w x i (m - i)) (h2 : Nx w x (m + 1) (j - (m + 1))) (h36 : w m ≠ 36) (h37 : w m ≠ 37) (hx : w m ≠ x) : Nx w x i (j - i) := by
  have em : i + (m - i) = m := by omega
  rw [show j - i = (m - i) + 1 + (j - (m + 1)) by first | rfl | omega]
  exact Nx.join b1.1 h1 (by rw [em]; exact h2) (by rw [em]; exact h36) (by rw [em]; exact h37) (by rw [em]; exact hx)
theorem ex_nc : ∀ {n c i j : Nat}, c ≤ 6 → Ex w n c i j → Nx w 35 i (j - i) := by
  intro n
  induction n with
  | zero => intro c i j _ h; exact h.elim
  | succ n ih =>
    intro c i j hc h
    have mid : ∀ {c1 c2 i m j : Nat}, c1 ≤ 6 → c2 ≤ 6 → Ex w n c1 i m → Ex w n c2 (m + 1) j → w m ≠ 36 → w m ≠ 37 → w m ≠ 35 → Nx w 35 i (j - i) := fun k1 k2 e1 e2 a1 a2 a3 => Nx.mid (ex_pr e1).2.2.2.2.1 (ex_pr e1).1 (ex_pr e2).1 (ih k1 e1) (ih k2 e2) a1 a2 a3
    rw [Ex] at h
    by_cases c0 : c = 0
    · rw [if_pos c0] at h
      rcases h with ⟨h1, h2⟩ | ⟨h1, h2⟩ | ⟨h1, h2, h3⟩ | ⟨h1, h2, h3, h4⟩
      · intro m hm _
        rw [show m = 0 by first | rfl | omega, show i + 0 = i by first | rfl | omega]; omega
      · have p := ex_pr h2
        have k := Nx.join (w := w) (x := 35) (i := i) (a := 0) (b := j - (i + 1)) rfl (fun m hm => by omega) (by rw [show i + 0 + 1 = i + 1 by first | rfl | omega]; exact ih (by omega) h2) (by rw [show i + 0 = i by first | rfl | omega]; omega) (by rw [show i + 0 = i by first | rfl | omega]; omega) (by rw [show i + 0 = i by first | rfl | omega]; omega)
        have := p.1
        rw [show 0 + 1 + (j - (i + 1)) = j - i by first | rfl | omega] at k
        exact k
      · have p := ex_pr h3
        have hj := p.1
        obtain ⟨b, dd⟩ := p.2.2.2.2.1.paren h1 (by rw [show i + 1 + (j - 1 - (i + 1)) = j - 1 by first | rfl | omega]; exact h2)
        intro m hm q
        by_cases z : m = 0
        · rw [z, show i + 0 = i by first | rfl | omega]; omega
        · have := dd m (by omega) (by omega)
          omega
      · have p := ex_pr h4
        have hj := p.1
        obtain ⟨b, dd⟩ := Bl.paren (w := w) (i := i + 1) (b := j - 1 - (i + 2)) (by rw [show i + 1 + 1 = i + 2 by first | rfl | omega]; exact p.2.2.2.2.1) h2 (by rw [show i + 1 + 1 + (j - 1 - (i + 2)) = j - 1 by first | rfl | omega]; exact h3)
        have d1 : dp w i 1 = 0 := by rw [dp_s]; show (0 : Int) + _ = 0; rw [show i + 0 = i by first | rfl | omega, if_neg (by omega), if_neg (by omega)]; omega
        intro m hm q
        by_cases z : m = 0
        · rw [z, show i + 0 = i by first | rfl | omega]; omega
        · by_cases y : m = 1
          · rw [y, h2]; omega
          · rw [show m = 1 + (m - 1) by first | rfl | omega, dp_app, d1] at q
            have := dd (m - 1) (by omega) (by omega)
            omega
    rw [if_neg c0] at h
    by_cases c1 : c = 1
    · rw [if_pos c1] at h
      rcases h with h | ⟨m, h1, h2, h3⟩
      · exact ih (by omega) h
      · exact mid (by omega) (by omega) h2 h3 (by omega) (by omega) (by omega)
    rw [if_neg c1] at h
    by_cases c2 : c = 2
    · rw [if_pos c2] at h
      rcases h with h | ⟨m, h1, h2, h3⟩
      · exact ih (by omega) h
      · exact mid (by omega) (by omega) h2 h3 (by omega) (by omega) (by omega)
    rw [if_neg c2] at h
    by_cases c3 : c = 3
    · rw [if_pos c3] at h
      rcases h with h | ⟨m, h1, h2, h3⟩ | ⟨h1, h2⟩
      · exact ih (by omega) h
      · exact mid (by omega) (by omega) h2 h3 (by omega) (by omega) (by omega)
      · have p := ex_pr h2
        have k := Nx.join (w := w) (x := 35) (i := i) (a := 0) (b := j - (i + 1)) rfl (fun m hm => by omega) (by rw [show i + 0 + 1 = i + 1 by first | rfl | omega]; exact ih (by omega) h2) (by rw [show i + 0 = i by first | rfl | omega]; omega) (by rw [show i + 0 = i by first | rfl | omega]; omega) (by rw [show i + 0 = i by first | rfl | omega]; omega)
        have := p.1
        rw [show 0 + 1 + (j - (i + 1)) = j - i by first | rfl | omega] at k
        exact k
    rw [if_neg c3] at h
    by_cases c4 : c = 4
    · rw [if_pos c4] at h
      rcases h with h | ⟨m, h1, h2, h3⟩
      · exact ih (by omega) h
      · exact mid (by omega) (by omega) h2 h3 (by omega) (by omega) (by omega)
    rw [if_neg c4] at h
    by_cases c5 : c = 5
    · rw [if_pos c5] at h
      rcases h with h | ⟨m, h1, h2, h3⟩
      · exact ih (by omega) h
      · exact mid (by omega) (by omega) h2 h3 (by omega) (by omega) (by omega)
    rw [if_neg c5] at h
    by_cases c6 : c = 6
    · rw [if_pos c6] at h
      rcases h with h | ⟨m, q, h1, h2, h3, h4, h5⟩
      · exact ih (by omega) h
      · have p3 := ex_pr h3
        have p4 := ex_pr h4
        have p5 := ex_pr h5
        have k := Nx.mid p4.2.2.2.2.1 p4.1 p5.1 (ih (by omega) h4) (ih (by omega) h5) (by omega) (by omega) (by omega)
        exact Nx.mid p3.2.2.2.2.1 p3.1 (by have := p4.1; have := p5.1; omega) (ih (by omega) h3) k (by omega) (by omega) (by omega)
    · omega
/-- the jobs for a list's parts, the first on top -/
def JL (w : Nat → Int) (p : Int) : Nat → Nat → Nat → List Int → Prop
  | 0, _, _, _ => False
  | f + 1, i, j, s => (s = [(j : Int), (i : Int), p] ∧ Eo w 6 i j) ∨ ∃ (m : Nat) (s2 : List Int), w m = 35 ∧ Eo w 6 i m ∧ s = (m : Int) :: (i : Int) :: p :: s2 ∧ JL w p f (m + 1) j s2
theorem JL.snoc {p : Int} {j : Nat} : ∀ {f i m : Nat} {s : List Int}, JL w p f i m s → w m = 35 → Eo w 6 (m + 1) j → JL w p (f + 1) i j (s ++ [(j : Int), ((m + 1 : Nat) : Int), p])
  | 0, _, _, _, h, _, _ => h.elim
  | f + 1, i, m, s, h, hm, he => by
    rcases h with ⟨h1, h2⟩ | ⟨m', s2, h1, h2, h3, h4⟩
    · exact Or.inr ⟨m, [(j : Int), ((m + 1 : Nat) : Int), p], hm, h2, by rw [h1]; rfl, Or.inl ⟨rfl, he⟩⟩
    · exact Or.inr ⟨m', s2 ++ [(j : Int), ((m + 1 : Nat) : Int), p], h1, h2, by rw [h3]; rfl, JL.snoc h4 hm he⟩
end LI
section LJ
variable {G : mG} {d a N g T : Nat} {M : mM}
/-- same trees -/
def sameT (M2 M3 : mM) (g : Nat) : Prop := ∀ n, so M3 g n = so M2 g n ∧ va M3 g n = va M2 g n ∧ fp M3 g n = fp M2 g n ∧ np M3 g n = np M2 g n
theorem sameT.trans {M1 M2 M3 : mM} (h : sameT M1 M2 g) (k : sameT M2 M3 g) : sameT M1 M3 g := fun n => ⟨(k n).1.trans (h n).1, (k n).2.1.trans (h n).2.1, (k n).2.2.1.trans (h n).2.2.1, (k n).2.2.2.trans (h n).2.2.2⟩
theorem TI.wk {st : List Int} {M2 : mM} (h : TI M a g N T st M2) (hw : Wd M a) : wk M2 a = wk M a := by
  funext k
  exact (h.1.lst n5 (fun q => by
    rcases q with q | q
    · exact (tL_no h.2.2.2.2.2 hw).1 q
    · omega)).2.1 k
end LJ
end
section
/-! The reference: what a tree is. -/
/-- how many parts a node has -/
def ari (s : Int) (k : Nat) : Prop := ((s = 31 ∨ s = 45) ∧ k = 1) ∨ ((18 ≤ s ∧ s ≤ 30) ∧ k = 2) ∨ (s = 32 ∧ k = 3) ∨ (s = 14 ∨ s = 15)
/-- a name as it is read: its word -/
def nmw (w : Nat → Int) (N : Nat) (v : Int) : Prop := 0 ≤ v ∧ v < N ∧ w v.toNat = 1
/-- md 0: nodes n to e - 1 are a tree; md k: they are k trees, brothers -/
def Tn (nm : Int → Prop) (M : mM) (g : Nat) : Nat → Nat → Nat → Nat → Prop
  | 0, _, _, _ => False
  | f + 1, md, n, e => if md = 0 then n < e ∧ ((e = n + 1 ∧ fp M g n = -1 ∧ (so M g n = 1 ∨ so M g n = 2 ∨ so M g n = 12 ∨ so M g n = 13) ∧ (so M g n = 2 → 0 ≤ va M g n ∧ va M g n < 1000000000) ∧ (so M g n = 1 → nm (va M g n))) ∨ ∃ k, 1 ≤ k ∧ ari (so M g n) k ∧ fp M g n = ((n + 1 : Nat) : Int) ∧ Tn nm M g f k (n + 1) e)
    else if md = 1 then np M g n = -1 ∧ Tn nm M g f 0 n e else ∃ m : Nat, np M g n = (m : Int) ∧ Tn nm M g f 0 n m ∧ Tn nm M g f (md - 1) m e
section TR
variable {nm : Int → Prop} {g : Nat} {M M' : mM}
theorem Tn.lt : ∀ {f md n e : Nat}, Tn nm M g f md n e → n < e := by
  intro f
  induction f with
  | zero => intro md n e h; exact h.elim
  | succ f ih =>
    intro md n e h
    rw [Tn] at h
    by_cases c0 : md = 0
    · rw [if_pos c0] at h; exact h.1
    · rw [if_neg c0] at h
      by_cases c1 : md = 1
      · rw [if_pos c1] at h; exact ih h.2
      · rw [if_neg c1] at h
        obtain ⟨m, -, h2, h3⟩ := h
        have := ih h2
        have := ih h3
        omega
theorem Tn.fr : ∀ {f md n e : Nat}, Tn nm M g f md n e → (∀ k, n ≤ k → k < e → so M' g k = so M g k ∧ va M' g k = va M g k ∧ fp M' g k = fp M g k) → (∀ k, n < k → k < e → np M' g k = np M g k) → (md ≠ 0 → np M' g n = np M g n) → Tn nm M' g f md n e := by
  intro f
  induction f with
  | zero => intro md n e h; exact h.elim
  | succ f ih =>
    intro md n e h h1 h2 h3
    have hlt := h.lt
    rw [Tn] at h ⊢
    by_cases c0 : md = 0
    · rw [if_pos c0] at h ⊢
      have k := h1 n (Nat.le_refl _) hlt
      rw [k.1, k.2.1, k.2.2]
      refine ⟨h.1, ?_⟩
      rcases h.2 with q | ⟨k', q1, q2, q3, q4⟩
      · exact Or.inl q
      · have := q4.lt
        exact Or.inr ⟨k', q1, q2, q3, ih q4 (fun x a b => h1 x (by omega) b) (fun x a b => h2 x (by omega) b) (fun _ => h2 (n + 1) (by omega) this)⟩
    · rw [if_neg c0] at h ⊢
      by_cases c1 : md = 1
      · rw [if_pos c1] at h ⊢
        exact ⟨by rw [h3 c0]; exact h.1, ih h.2 h1 h2 (fun z => absurd rfl z)⟩
      · rw [if_neg c1] at h ⊢
        obtain ⟨m, q1, q2, q3⟩ := h
        have l1 := q2.lt
        have l2 := q3.lt
        exact ⟨m, by rw [h3 c0]; exact q1, ih q2 (fun x a b => h1 x a (by omega)) (fun x a b => h2 x a (by omega)) (fun z => absurd rfl z), ih q3 (fun x a b => h1 x (by omega) b) (fun x a b => h2 x (by omega) b) (fun _ => h2 m l1 l2)⟩
theorem Tn.up : ∀ {f md n e : Nat}, Tn nm M g f md n e → Tn nm M g (f + 1) md n e := by
  intro f
  induction f with
  | zero => intro md n e h; exact h.elim
  | succ f ih =>
    intro md n e h
    rw [Tn] at h ⊢
    by_cases c0 : md = 0
    · rw [if_pos c0] at h ⊢
      refine ⟨h.1, ?_⟩
      rcases h.2 with q | ⟨k', q1, q2, q3, q4⟩
      · exact Or.inl q
      · exact Or.inr ⟨k', q1, q2, q3, ih q4⟩
    · rw [if_neg c0] at h ⊢
      by_cases c1 : md = 1
      · rw [if_pos c1] at h ⊢
        exact ⟨h.1, ih h.2⟩
      · rw [if_neg c1] at h ⊢
        obtain ⟨m, q1, q2, q3⟩ := h
        exact ⟨m, q1, ih q2, ih q3⟩
theorem Tn.add {f md n e : Nat} (h : Tn nm M g f md n e) : ∀ k, Tn nm M g (f + k) md n e
  | 0 => h
  | k + 1 => (Tn.add h k).up
/-- a tree; k brothers -/
def To (nm : Int → Prop) (M : mM) (g md n e : Nat) : Prop := ∃ f, Tn nm M g f md n e
theorem To.one {n e : Nat} (h : To nm M g 0 n e) (hp : np M g n = -1) : To nm M g 1 n e := by
  obtain ⟨f, h⟩ := h
  exact ⟨f + 1, by rw [Tn, if_neg (by omega), if_pos rfl]; exact ⟨hp, h⟩⟩
theorem To.cons {k n m e : Nat} (hk : 1 ≤ k) (h : To nm M g 0 n m) (hp : np M g n = (m : Int)) (h2 : To nm M g k m e) : To nm M g (k + 1) n e := by
  obtain ⟨f, h⟩ := h
  obtain ⟨f2, h2⟩ := h2
  refine ⟨f + f2 + 1, ?_⟩
  rw [Tn, if_neg (by omega), if_neg (by omega)]
  refine ⟨m, hp, h.add f2, ?_⟩
  have := h2.add f
  rw [Nat.add_comm f2 f] at this
  rw [show k + 1 - 1 = k by first | rfl | omega]
  exact this
theorem To.node {k n e : Nat} (hk : 1 ≤ k) (ha : ari (so M g n) k) (hf : fp M g n = ((n + 1 : Nat) : Int)) (h : To nm M g k (n + 1) e) : To nm M g 0 n e := by
  obtain ⟨f, h⟩ := h
  have := h.lt
  exact ⟨f + 1, by rw [Tn, if_pos rfl]; exact ⟨by omega, Or.inr ⟨k, hk, ha, hf, h⟩⟩⟩
theorem To.leaf {n : Nat} (hf : fp M g n = -1) (hs : so M g n = 1 ∨ so M g n = 2 ∨ so M g n = 12 ∨ so M g n = 13) (h2 : so M g n = 2 → 0 ≤ va M g n ∧ va M g n < 1000000000) (h1 : so M g n = 1 → nm (va M g n)) : To nm M g 0 n (n + 1) :=
  ⟨1, by rw [Tn, if_pos rfl]; exact ⟨by omega, Or.inl ⟨rfl, hf, hs, h2, h1⟩⟩⟩
theorem To.fr {md n e : Nat} (h : To nm M g md n e) (h1 : ∀ k, n ≤ k → k < e → so M' g k = so M g k ∧ va M' g k = va M g k ∧ fp M' g k = fp M g k) (h2 : ∀ k, n < k → k < e → np M' g k = np M g k) (h3 : md ≠ 0 → np M' g n = np M g n) : To nm M' g md n e := by
  obtain ⟨f, h⟩ := h
  exact ⟨f, h.fr h1 h2 h3⟩
/-- one tree has been joined to p, nothing else has changed below T -/
def JE (M2 M3 : mM) (g T : Nat) (p : Int) : Prop := (∀ n, n < T → so M3 g n = so M2 g n ∧ va M3 g n = va M2 g n) ∧ ((p < 0 ∧ ∀ n, n < T → fp M3 g n = fp M2 g n ∧ np M3 g n = np M2 g n) ∨ (0 ≤ p ∧ fp M2 g p.toNat = -1 ∧ (∀ n, n < T → fp M3 g n = if n = p.toNat then (T : Int) else fp M2 g n) ∧ ∀ n, n < T → np M3 g n = np M2 g n) ∨ (0 ≤ p ∧ ∃ f c l : Nat, fp M2 g p.toNat = c ∧ Lk M2 g T f c l ∧ (∀ n, n < T → fp M3 g n = fp M2 g n) ∧ ∀ n, n < T → np M3 g n = if n = l then (T : Int) else np M2 g n))
def chn (M : mM) (g T : Nat) (p : Int) : Prop := 0 ≤ p → fp M g p.toNat = -1 ∨ ∃ f c l : Nat, fp M g p.toNat = c ∧ Lk M g T f c l
theorem Lk.det {T f f' x l l' : Nat} (h : Lk M g T f x l) (h' : Lk M g T f' x l') : l = l' := by
  induction f generalizing x f' with
  | zero => exact h.elim
  | succ f ih =>
    cases f' with
    | zero => exact h'.elim
    | succ f' =>
      obtain ⟨-, h⟩ := h
      obtain ⟨-, h'⟩ := h'
      rcases h with ⟨h1, h2⟩ | ⟨y, h1, h2⟩ <;> rcases h' with ⟨k1, k2⟩ | ⟨y', k1, k2⟩
      · omega
      · omega
      · omega
      · have : y = y' := by omega
        subst this
        exact ih h2 k2
/-- the chain goes on to T -/
theorem Lk.ext {T T' f x l : Nat} (h : Lk M g T f x l) (hT : T < T') (hn : ∀ n, n < T → np M' g n = if n = l then (T : Int) else np M g n) (ht : np M' g T = -1) : ∃ f', Lk M' g T' f' x T := by
  induction f generalizing x with
  | zero => exact h.elim
  | succ f ih =>
    obtain ⟨h0, h⟩ := h
    have e := hn x h0
    rcases h with ⟨h1, h2⟩ | ⟨y, h1, h2⟩
    · subst h1
      rw [if_pos rfl] at e
      exact ⟨2, by omega, Or.inr ⟨T, e, hT, Or.inl ⟨rfl, ht⟩⟩⟩
    · by_cases z : x = l
      · -- the last one has no brother
        exfalso
        have hl : ∀ (f y : Nat), Lk M g T f y l → np M g l = -1 := by
          intro f
          induction f with
          | zero => intro y q; exact q.elim
          | succ f ihf =>
            intro y q
            rcases q.2 with ⟨q1, q2⟩ | ⟨y', q1, q2⟩
            · rw [← q1]; exact q2
            · exact ihf y' q2
        have := hl f y h2
        rw [z] at h1
        omega
      · rw [if_neg z] at e
        obtain ⟨f', hf'⟩ := ih h2
        exact ⟨f' + 1, by omega, Or.inr ⟨y, by rw [e]; exact h1, hf'⟩⟩
theorem JE.chain {M2 M3 : mM} {T T' : Nat} {p : Int} (h : JE M2 M3 g T p) (hp : 0 ≤ p) (hpT : p < T) (hT : T < T') (ht : np M3 g T = -1) : ∃ f c : Nat, fp M3 g p.toNat = c ∧ Lk M3 g T' f c T := by
  rcases h.2 with ⟨q, -⟩ | ⟨-, q1, q2, q3⟩ | ⟨-, f, c, l, q1, q2, q3, q4⟩
  · omega
  · refine ⟨1, T, ?_, hT, Or.inl ⟨rfl, ht⟩⟩
    rw [q2 p.toNat (by omega), if_pos rfl]
  · obtain ⟨f', hf'⟩ := q2.ext hT q4 ht
    exact ⟨f', c, by rw [q3 p.toNat (by omega)]; exact q1, hf'⟩
/-- a second tree after a first -/
theorem JE.next {M2 M3 M4 : mM} {T T3 : Nat} {p : Int} (h : JE M2 M3 g T p) (k : JE M3 M4 g T3 p) (hp : 0 ≤ p) (hpT : p < T) (hT : T < T3) (ht : np M3 g T = -1) : JE M2 M4 g T p ∧ np M4 g T = (T3 : Int) ∧ (∀ n, n < T3 → so M4 g n = so M3 g n ∧ va M4 g n = va M3 g n ∧ fp M4 g n = fp M3 g n) ∧ ∀ n, n < T3 → n ≠ T → np M4 g n = np M3 g n := by
  obtain ⟨f, c, hc1, hc2⟩ := h.chain hp hpT hT ht
  have k3 : (∀ n, n < T3 → fp M4 g n = fp M3 g n) ∧ ∀ n, n < T3 → np M4 g n = if n = T then (T3 : Int) else np M3 g n := by
    rcases k.2 with ⟨q, -⟩ | ⟨-, q1, -⟩ | ⟨-, f', c', l, q1, q2, q3, q4⟩
    · omega
    · omega
    · have e : c' = c := by omega
      subst e
      have := Lk.det q2 hc2
      subst this
      exact ⟨q3, q4⟩
  refine ⟨⟨fun n hn => ⟨(k.1 n (by omega)).1.trans (h.1 n hn).1, (k.1 n (by omega)).2.trans (h.1 n hn).2⟩, ?_⟩, by rw [k3.2 T hT, if_pos rfl], fun n hn => ⟨(k.1 n hn).1, (k.1 n hn).2, k3.1 n hn⟩, fun n hn hne => by rw [k3.2 n hn, if_neg hne]⟩
  rcases h.2 with ⟨q, -⟩ | ⟨-, q1, q2, q3⟩ | ⟨-, f', c', l, q1, q2, q3, q4⟩
  · omega
  · exact Or.inr (Or.inl ⟨hp, q1, fun n hn => by rw [k3.1 n (by omega)]; exact q2 n hn, fun n hn => by rw [k3.2 n (by omega), if_neg (by omega)]; exact q3 n hn⟩)
  · exact Or.inr (Or.inr ⟨hp, f', c', l, q1, q2, fun n hn => by rw [k3.1 n (by omega)]; exact q3 n hn, fun n hn => by rw [k3.2 n (by omega), if_neg (by omega)]; exact q4 n hn⟩)
end TR
end
section
/-! The reference: names. -/
section NA
variable {G : mG} {d a N g : Nat} {M : mM}
theorem n85 : a + 85 ∈ nums a := nums_o (by decide)
theorem n87 : a + 87 ∈ nums a := nums_o (by decide)
theorem n89 : a + 89 ∈ nums a := nums_o (by decide)
theorem s_MM_sameWord {x y : Nat} (hO : mOk M) (h : Wx M a N) (hx : x < N) (hy : y < N) : Ci G y_MM_sameWord (d + 2) [vr a, vi x, vi y] M (fun r M' => M' = M ∧ (r = 0 ∨ r = 1)) := by
  have h0 := h
  obtain ⟨⟨w, l, b⟩, l7, l9, wo, hT⟩ := h
  obtain ⟨-, ⟨x1, x2, x3⟩, -⟩ := wo x hx
  obtain ⟨-, ⟨y1, y2, y3⟩, -⟩ := wo y hy
  have hp := w.tape.2.1
  have at9 : ∀ {k : Nat} {Q : Int → mM → Prop}, k < N → (∀ z, z = nt M (a + 9) k → i32 z → Q z M) → Ci G y_MN_at (d + 1) [vr (a + 9), vi k] M Q := fun hk hQ => by
    refine (s_MN_at hO (w.nu n9) (by omega)).mono (fun z M1 e1 => ?_)
    obtain ⟨e1, hz⟩ := e1
    subst e1
    exact hQ z hz (by rw [hz]; exact (hO _ _).1)
  have pl : ∀ {k : Nat} {Q : Int → mM → Prop}, k < N → (∀ z, z = nt M (a + 7) k → i32 z → Q z M) → Ci G y_MM_place0 (d + 1) [vr a, vi k] M Q := fun hk hQ => by
    refine (s_MM_place0 (d := d) hO h0 hk).mono (fun z M1 e1 => ?_)
    obtain ⟨e1, hz⟩ := e1
    subst e1
    exact hQ z hz (by rw [hz]; exact (hO _ _).1)
  refine k_MM_sameWord hO (i32s (by omega) (by omega)) (i32s (by omega) (by omega)) ?_
  rw [w.1.2.2.1.2.2.1]
  refine ⟨w.1.1, (w.nu n9).1, at9 hx (fun z1 e1 i1 => ⟨i1, hO, w.1.1, pl hx (fun z2 e2 i2 => ⟨i2, hO, w.1.1, ?_⟩)⟩)⟩
  rw [w.1.2.2.1.2.2.1]
  refine ⟨(w.nu n9).1, at9 hy (fun z3 e3 i3 => ⟨i3, hO, w.1.1, pl hy (fun z4 e4 i4 => ⟨i4, hO, i32s (by omega) (by omega), i32s (by omega) (by omega), fun v hv => ?_⟩)⟩)⟩
  have hlen : v = 1 → z3 - z4 = z1 - z2 := fun q => by split at hv <;> omega
  suffices H : ∀ (c t : Nat) (u : Int), (t : Int) + c = z1 - z2 → (u = 0 ∨ u = 1) → (u = 1 → z3 - z4 = z1 - z2) → h_MM_sameWord_43 G (d + 1) a x y (z1 - z2) u t M (fun r M' => M' = M ∧ (r = 0 ∨ r = 1)) from
    H (z1 - z2).toNat 0 v (by omega) (by split at hv <;> omega) hlen
  intro c
  induction c with
  | zero =>
    intro t u ht hu _
    exact k_MM_sameWord_43 hO (i32s (by omega) (by omega)) (i32s (by omega) (by omega)) (i32s (by omega) (by omega)) (i32s (by omega) (by omega)) (i32s (by omega) (by omega)) ⟨fun _ => ⟨hu, rfl, hu⟩, fun q => absurd (Or.inl (by omega)) q⟩
  | succ c ih =>
    intro t u ht hu hl
    refine k_MM_sameWord_43 hO (i32s (by omega) (by omega)) (i32s (by omega) (by omega)) (i32s (by omega) (by omega)) (i32s (by omega) (by omega)) (i32s (by omega) (by omega)) ⟨fun _ => ⟨hu, rfl, hu⟩, fun q => ⟨w.1.1, pl hx (fun u1 f1 j1 => ⟨j1, hO, (w.nu hp).1, ?_⟩)⟩⟩
    have hu1 := hl (by omega)
    rw [show u1 + (t : Int) = (((u1 + (t : Int)).toNat : Nat) : Int) by first | rfl | omega]
    refine (s_MN_at hO (w.nu hp) (by omega)).mono (fun v1 M2 g2 => ?_)
    obtain ⟨g2, hv1⟩ := g2
    subst g2
    refine ⟨by rw [hv1]; exact (hO _ _).1, hO, w.1.1, pl hy (fun u2 f2 j2 => ⟨j2, hO, (w.nu hp).1, ?_⟩)⟩
    rw [show u2 + (t : Int) = (((u2 + (t : Int)).toNat : Nat) : Int) by first | rfl | omega]
    refine (s_MN_at hO (w.nu hp) (by omega)).mono (fun v2 M3 g3 => ?_)
    obtain ⟨g3, hv2⟩ := g3
    subst g3
    exact ⟨by rw [hv2]; exact (hO _ _).1, hO, fun v3 hv3 => ih (t + 1) v3 (by omega) (by split at hv3 <;> omega) (fun _ => hu1)⟩
/-- K names are known -/
def Nm (M : mM) (a g N K : Nat) : Prop := ln M (a + 85) = K ∧ ln M (a + 87) = K ∧ ln M (a + 89) = K ∧ K ≤ 200 ∧ ∀ k, k < K → (0 ≤ nt M (a + 85) k ∧ nt M (a + 85) k < N) ∧ ((nt M (a + 87) k = 3 ∧ 0 ≤ nt M (a + 89) k ∧ nt M (a + 89) k < mI M g 12) ∨ ((nt M (a + 87) k = 1 ∨ nt M (a + 87) k = 2) ∧ 0 ≤ nt M (a + 89) k ∧ nt M (a + 89) k < mI M g 6)) ∧ (nt M (a + 87) k = 1 → mI M (g + 13) (nt M (a + 89) k).toNat = 0)
theorem s_MM_find {y K : Nat} (hO : mOk M) (h : Wx M a N) (hn : Nm M a g N K) (hy : y < N) : Ci G y_MM_find (d + 3) [vr a, vi y] M (fun r M' => M' = M ∧ -1 ≤ r ∧ r < K) := by
  have w := h.1.1
  have hN := h.1.2.2
  obtain ⟨n1, n2, n3, n4, n5'⟩ := hn
  have r13 : mR M a 13 = a + 85 := w.1.2.2.2.2.1.1
  have l1 : mI M (a + 85) 1 = K := n1
  refine k_MM_find hO (i32s (by omega) (by omega)) ?_
  suffices H : ∀ (c k : Nat) (f : Int), k + c = K → -1 ≤ f → f < K → h_MM_find_4 G (d + 2) a y f k M (fun r M' => M' = M ∧ -1 ≤ r ∧ r < K) from
    H K 0 (-1) (by omega) (by omega) (by omega)
  intro c
  induction c with
  | zero =>
    intro k f hk f0 f1
    refine k_MM_find_4 hO (i32s (by omega) (by omega)) (i32s (by omega) (by omega)) (i32s (by omega) (by omega)) ?_
    rw [r13, l1]
    exact ⟨w.1.1, (w.nu n85).1, fun _ => ⟨rfl, f0, f1⟩, fun q => by omega⟩
  | succ c ih =>
    intro k f hk f0 f1
    obtain ⟨⟨a1, a2⟩, -⟩ := n5' k (by omega)
    refine k_MM_find_4 hO (i32s (by omega) (by omega)) (i32s (by omega) (by omega)) (i32s (by omega) (by omega)) ?_
    rw [r13, l1]
    refine ⟨w.1.1, (w.nu n85).1, fun q => by omega, fun _ => (s_MN_at hO (w.nu n85) (by omega)).mono (fun z M1 e1 => ?_)⟩
    obtain ⟨e1, hz⟩ := e1
    subst e1
    refine ⟨by rw [hz]; exact (hO _ _).1, hO, w.1.1, ?_⟩
    rw [show z = ((z.toNat : Nat) : Int) by first | rfl | omega]
    refine (s_MM_sameWord (d := d) hO h (by omega) hy).mono (fun r M2 e2 => ?_)
    obtain ⟨e2, hr⟩ := e2
    subst e2
    exact ⟨i32s (by omega) (by omega), hO, fun v hv => ih (k + 1) v (by omega) (by split at hv <;> omega) (by split at hv <;> omega)⟩
theorem s_MM_stop {c p : Int} (hc : i32 c) (hp : i32 p) (hO : mOk M) (h : Wd M a) : Cv G y_MM_stop d [vr a, vi c, vi p] M (fun M' => Mv (fun _ => False) (fun x => x = a) M a M' ∧ mI M' a 16 = c ∧ mI M' a 17 = p ∧ ∀ i, i ≠ 16 → i ≠ 17 → mI M' a i = mI M a i) := by
  refine k_MM_stop hO hc hp ⟨h.1.1, fun M1 e1 M2 e2 => ?_⟩
  obtain ⟨m1, f1⟩ := mv_fld hc hO h e1
  obtain ⟨m2, f2⟩ := mv_fld hp m1.1 m1.2.1 e2
  exact ⟨m1.trans m2, by rw [f2, if_neg (by omega), f1, if_pos rfl], by rw [f2, if_pos rfl], fun i i1 i2 => by rw [f2, if_neg i2, f1, if_neg i1]⟩
/-- how many brothers there are -/
theorem s_pt14 {nm : Int → Prop} {T : Nat} (hO : mOk M) (h : Wd M a) (hg : g = a + 13 ∨ g = a + 49) (hd : mR M a 10 = g) (hn : nd M g T) (hT : T ≤ 100000) : ∀ (k f n e : Nat) (c : Int), 1 ≤ k → Tn nm M g f k n e → e ≤ T → 0 ≤ c → c + k ≤ 200000 → h_MM_parts_14 G d a c n M (fun r M' => M' = M ∧ r = c + k) := by
  have gp := h.gp hg
  have g11 : tL g (g + 11) := by omega
  have u11 := h.nu (tL_in (a := a) hg g11)
  have r5 : mR M g 5 = g + 11 := gp.2.1.2.2.2.2.2.1
  intro k
  induction k with
  | zero => intro f n e c hk; omega
  | succ k ih =>
    intro f n e c hk ht heT c0 c1
    have hlt := ht.lt
    cases f with
    | zero => exact ht.elim
    | succ f =>
      have ht' : Tn nm M g (f + 1) (k + 1) n e := ht
      rw [Tn, if_neg (by omega)] at ht'
      refine k_MM_parts_14 hO ⟨by omega, by omega⟩ (i32s (by omega) (by omega)) ⟨fun q => by omega, fun _ => ?_⟩
      rw [hd, r5]
      refine ⟨h.1.1, gp.1, u11.1, (s_MN_at hO u11 (by rw [hn _ g11]; omega)).mono (fun z M1 e1 => ?_)⟩
      obtain ⟨e1, hz⟩ := e1
      subst e1
      refine ⟨by rw [hz]; exact (hO _ _).1, hO, ?_⟩
      by_cases k0 : k + 1 = 1
      · rw [if_pos k0] at ht'
        have : z = -1 := hz.trans ht'.1
        rw [this]
        exact k_MM_parts_14 hO ⟨by omega, by omega⟩ (i32s (by omega) (by omega)) ⟨fun _ => ⟨rfl, by omega⟩, fun q => by omega⟩
      · rw [if_neg k0] at ht'
        obtain ⟨m, q1, q2, q3⟩ := ht'
        have hzm : z = (m : Int) := hz.trans q1
        rw [hzm]
        have q3' : Tn nm M1 g f k m e := q3
        have := ih f m e (c + 1) (by omega) q3' heT (by omega) (by omega)
        rw [show c + ((k + 1 : Nat) : Int) = c + 1 + (k : Int) by first | rfl | omega]
        exact this
end NA
end
end
section
section
/-! The reference: the pile of values. -/
section PU
variable {G : mG} {d a : Nat} {M M1 : mM}
/-- a long of a cell that is no list -/
theorem mv_ul {x j : Nat} {v : Int} (hv : i64 v) (hO : mOk M) (h : Wd M a) (e : M1 = mUL M x j v) : Mv (fun _ => False) (fun y => y = x) M a M1 ∧ (∀ y k, mL M1 y k = if y = x ∧ k = j then v else mL M y k) ∧ mI M1 = mI M := by
  subst e
  refine ⟨⟨mOk_UL hO hv, h, ⟨Nat.le_refl _, Nat.le_refl _⟩, ⟨⟨Nat.le_refl _, fun _ z => z.elim⟩, fun _ _ => ⟨rfl, rfl⟩, fun _ _ _ => rfl, fun y _ _ _ hy => ⟨rfl, ?_⟩, fun _ z => z.elim⟩, fun q _ _ => ⟨rfl, fun _ => rfl, rfl, rfl⟩⟩, fun y k => mL_UL .., rfl⟩
  funext k
  rw [mL_UL, if_neg (fun z => hy z.1)]
abbrev vS (a : Nat) : Nat → Prop := fun x => x = a ∨ x = a + 97 ∨ x = a + 98
/-- a value has been pushed: V were there -/
def psQ (M : mM) (a V : Nat) (A B : Int) (M' : mM) : Prop := Mv (fun _ => False) (vS a) M a M' ∧ mI M' a 23 = (V + 1 : Nat) ∧ (∀ i, i ≠ 23 → mI M' a i = mI M a i) ∧ (∀ k, mL M' (a + 97) k = if k = V then A else mL M (a + 97) k) ∧ ∀ k, mL M' (a + 98) k = if k = V then B else mL M (a + 98) k
theorem s_MM_push {V : Nat} {A B : Int} (hA : i64 A) (hB : i64 B) (hO : mOk M) (h : Wd M a) (hV : mI M a 23 = (V : Int)) (hb : V < 16400) : Cv G y_MM_push d [vr a, vl A, vl B] M (fun M' => mOk M' ∧ psQ M a V A B M') := by
  refine Cv.mono (Q := psQ M a V A B) ?_ (fun M' t => ⟨t.1.1, t⟩)
  have r21 : ∀ {M3 : mM}, Wd M3 a → mR M3 a 21 = a + 97 := fun w => w.1.2.2.2.2.1.2.2.2.2.2.2.1
  have r22 : ∀ {M3 : mM}, Wd M3 a → mR M3 a 22 = a + 98 := fun w => w.1.2.2.2.2.1.2.2.2.2.2.2.2.1
  refine k_MM_push hO hA hB ?_
  rw [r21 h, hV]
  have n97 : mK M (a + 97) = 33 ∧ mN M (a + 97) = 16400 := h.1.2.2.2.2.2.2.2.1.1
  have n98 : mK M (a + 98) = 33 ∧ mN M (a + 98) = 16400 := h.1.2.2.2.2.2.2.2.1.2.1
  refine ⟨h.1.1, n97.1, by rw [n97.2]; omega, fun M2 e2 => ?_⟩
  obtain ⟨m2, l2, i2⟩ := mv_ul hA hO h e2
  rw [r22 m2.2.1, i2, hV]
  have z := h.2.2.2
  have f2 := m2.2.2.2.1.2.1 (a + 98) (by omega)
  refine ⟨f2.1.trans n98.1, by rw [f2.2, n98.2]; omega, fun M3 e3 => ?_⟩
  obtain ⟨m3, l3, i3⟩ := mv_ul hB m2.1 m2.2.1 e3
  rw [i3, i2, hV]
  refine ⟨⟨by omega, by omega⟩, fun M4 e4 => ?_⟩
  obtain ⟨m4, i4⟩ := mv_fld (v := (V : Int) + 1) ⟨by omega, by omega⟩ m3.1 m3.2.1 e4
  have o4 := m4.2.2.2.1
  have c4 : ∀ x, x < mZ M3 → x ≠ a → mL M4 x = mL M3 x := fun x hx hne => (o4.2.2.2.1 x hx (fun w => w) (fun p w => w.elim) hne).2
  have z3 := m3.2.1.2.2.2
  have no : ∀ q : Nat, False → q < mZ M := fun _ w => w.elim
  refine ⟨((m2.mono (S' := vS a) (fun _ w => w) (fun x w => Or.inr (Or.inl w)) no).trans (m3.mono (S' := vS a) (fun _ w => w) (fun x w => Or.inr (Or.inr w)) (fun _ w => w.elim))).trans (m4.mono (S' := vS a) (fun _ w => w) (fun x w => Or.inl w) (fun _ w => w.elim)), by rw [i4, if_pos rfl]; omega, fun i hi => by rw [i4, if_neg hi, i3, i2], fun k => ?_, fun k => ?_⟩
  · rw [c4 _ (by omega) (by omega), l3, if_neg (fun w => by omega), l2, Int.toNat_natCast]
    by_cases y : k = V
    · rw [if_pos ⟨rfl, y⟩, if_pos y]
    · rw [if_neg (fun w => y w.2), if_neg y]
  · rw [c4 _ (by omega) (by omega), l3, Int.toNat_natCast]
    by_cases y : k = V
    · rw [if_pos ⟨rfl, y⟩, if_pos y]
    · rw [if_neg (fun w => y w.2), l2, if_neg (fun w => by omega), if_neg y]
theorem s_MM_pushTruth {V : Nat} {t : Int} (ht : i32 t) (hO : mOk M) (h : Wd M a) (hV : mI M a 23 = (V : Int)) (hb : V < 16400) : Cv G y_MM_pushTruth (d + 1) [vr a, vi t] M (fun M' => mOk M' ∧ psQ M a V (if t = 0 then 0 else 1) 0 M') := by
  refine k_MM_pushTruth hO ht (fun v hv => ⟨h.1.1, ?_⟩)
  rw [← hv]
  refine (s_MM_push (d := d) ⟨by split at hv <;> omega, by split at hv <;> omega⟩ ⟨by omega, by omega⟩ hO h hV hb).mono (fun M' t => ⟨t.1, t⟩)
end PU
end
section
/-! The reference: fractions are reckoned. -/
section RK
variable {G : mG} {d a V : Nat} {M : mM}
/-- a value of type t: a fraction, or a truth with 0 below -/
def vok (t A B : Int) : Prop := (t = 0 ∧ -1000000000 < A ∧ A < 1000000000 ∧ 1 ≤ B ∧ B < 1000000000) ∨ (t = 1 ∧ (A = 0 ∨ A = 1) ∧ B = 0)
/-- a value has been reckoned, or a fault told -/
def rkQ (M : mM) (a V : Nat) (t : Int) (M' : mM) : Prop := Mv (fun _ => False) (vS a) M a M' ∧ (∀ i, i ≠ 16 → i ≠ 17 → i ≠ 23 → mI M' a i = mI M a i) ∧ (∀ k, k < V → mL M' (a + 97) k = mL M (a + 97) k ∧ mL M' (a + 98) k = mL M (a + 98) k) ∧ (mI M' a 16 ≠ 0 ∨ (mI M' a 16 = mI M a 16 ∧ mI M' a 23 = (V + 1 : Nat) ∧ vok t (mL M' (a + 97) V) (mL M' (a + 98) V)))
theorem cmpz (z b : Int) : (0 ≤ cmpL z b ↔ b ≤ z) ∧ (cmpL z b ≤ 0 ↔ z ≤ b) ∧ (cmpL z b < 0 ↔ z < b) ∧ (cmpL z b = 0 ↔ z = b) ∧ (0 < cmpL z b ↔ b < z) := by unfold cmpL; split <;> (try split) <;> omega
theorem psQ.rk {t A B : Int} {M' : mM} (h : psQ M a V A B M') (hv : vok t A B) : rkQ M a V t M' := by
  obtain ⟨h1, h2, h3, h4, h5⟩ := h
  exact ⟨h1, fun i _ _ i3 => h3 i i3, fun k hk => ⟨by rw [h4, if_neg (by omega)], by rw [h5, if_neg (by omega)]⟩, Or.inr ⟨h3 16 (by omega), h2, by rw [h4, h5, if_pos rfl, if_pos rfl]; exact hv⟩⟩
/-- a fault, and nothing else -/
theorem st_rk {t c p : Int} {M' : mM} (hc : c ≠ 0) (h : Mv (fun _ => False) (fun x => x = a) M a M' ∧ mI M' a 16 = c ∧ mI M' a 17 = p ∧ ∀ i, i ≠ 16 → i ≠ 17 → mI M' a i = mI M a i) (w : Wd M a) : rkQ M a V t M' := by
  obtain ⟨m, f1, f2, f3⟩ := h
  have z := w.2.2.2
  have cl : ∀ x, x < mZ M → x ≠ a → mL M' x = mL M x := fun x hx hne => (m.2.2.2.1.2.2.2.1 x hx (fun y => y) (fun p y => y.elim) hne).2
  exact ⟨m.mono (fun _ y => y) (fun x y => Or.inl y) (fun _ y => y.elim), fun i i1 i2 _ => f3 i i1 i2, fun k _ => ⟨by rw [cl _ (by omega) (by omega)], by rw [cl _ (by omega) (by omega)]⟩, Or.inl (by rw [f1]; exact hc)⟩
end RK
end
section
/-! The reference: reckon and best. -/
section RB
variable {G : mG} {d a V : Nat} {M : mM}
theorem mul9 {x y : Int} (hx : -1000000000 < x ∧ x < 1000000000) (hy : -1000000000 < y ∧ y < 1000000000) : -1000000000000000000 < x * y ∧ x * y < 1000000000000000000 := by
  have h1 : x.natAbs ≤ 999999999 := by omega
  have h2 : y.natAbs ≤ 999999999 := by omega
  have h3 := Nat.mul_le_mul h1 h2
  rw [← Int.natAbs_mul] at h3
  omega
theorem tmod9 {x y : Int} (hy : 0 < y) : -y < Int.tmod x y ∧ Int.tmod x y < y := by
  by_cases hx : 0 ≤ x
  · rw [Int.tmod_eq_emod_of_nonneg hx]
    have b1 := Int.emod_nonneg x (show y ≠ 0 by omega)
    have b2 := Int.emod_lt_of_pos x hy
    omega
  · have e : Int.tmod x y = -(Int.tmod (-x) y) := by rw [Int.neg_tmod]; omega
    rw [e, Int.tmod_eq_emod_of_nonneg (show 0 ≤ -x by omega)]
    have b1 := Int.emod_nonneg (-x) (show y ≠ 0 by omega)
    have b2 := Int.emod_lt_of_pos (-x) hy
    omega
end RB
end
section
/-! The reference: a long is cut to an int. -/
section W32
variable {G : mG} {y : mY} {d pc : Nat} {L st : List mV} {M : mM} {Q : Option mV → mM → Prop}
def w32 (x : Int) : Int := (Int32.ofInt x).toInt
theorem w32_id {x : Int} (h : i32 x) : w32 x = x := i32_toInt h
theorem i32_w32 {x : Int} : i32 (w32 x) := by
  have h1 := Int32.le_toInt (Int32.ofInt x)
  have h2 := Int32.toInt_lt (Int32.ofInt x)
  unfold w32
  exact ⟨by omega, by omega⟩
theorem wm_l2iw {x : Int} (hd : decode y.2.1 pc = .ok (.l2i, 1)) (h : mWm G y d (pc + 1) L (vi (w32 x) :: st) M Q) : mWm G y d pc L (vl x :: st) M Q := wm_st (fun p e R s m args below meth c H locs cells slots ls Qf hA hR hL k => lv_l2i hA.1 hA.2.1 hd ((m_l2i x).trans (Int32.ofInt_toInt _).symm) k) h
theorem wm_w {x : Int} (h : mWm G y d pc L (vi (w32 x) :: st) M Q) : mWm G y d pc L (vi x :: st) M Q := by
  have e : (vi (w32 x) :: st).map mcv = (vi x :: st).map mcv := by
    show Value.int (Int32.ofInt (w32 x)) :: st.map mcv = Value.int (Int32.ofInt x) :: st.map mcv
    rw [show Int32.ofInt (w32 x) = Int32.ofInt x from Int32.ofInt_toInt _]
  obtain ⟨r, M', h1, h2⟩ := h
  refine ⟨r, M', ⟨h1.1, ?_⟩, h2⟩
  rw [← e]
  exact h1.2
end W32
theorem k_MM_wholeOf2 {G : mG} {d : Nat} {a0 : Nat} {l1 : Int} {l2 : Int} {M : mM} {Q : Int → mM → Prop} (hO : mOk M) (hi_l1 : i32 l1) (hi_l2 : i32 l2)
    (h : mK M a0 = 14 ∧ ((mI M a0 16 = 0) → (Cv G y_MM_workOut d [vr a0, vr (mR M a0 10), vi l1] M (fun M4 => mOk M4 ∧ (mK M4 a0 = 14 ∧ ((mI M4 a0 16 = 0) → (mK M4 (mR M4 a0 22) = 33 ∧ ((0 : Int) ≤ 0 ∧ 0 < (mN M4 (mR M4 a0 22) : Int)))) ∧ (((¬ (mI M4 a0 16 = 0)) ∨ (cmpL (mL M4 (mR M4 a0 22) 0) 1 = 0)) → (mK M4 (mR M4 a0 21) = 33 ∧ ((0 : Int) ≤ 0 ∧ 0 < (mN M4 (mR M4 a0 21) : Int)) ∧ Q (w32 (mL M4 (mR M4 a0 21) 0)) M4)) ∧ (¬ ((¬ (mI M4 a0 16 = 0)) ∨ (cmpL (mL M4 (mR M4 a0 22) 0) 1 = 0)) → (Ci G y_MM_place0 d [vr a0, vi l2] M4 (fun x22 M21 => i32 x22 ∧ mOk M21 ∧ (mK M21 a0 = 14 ∧ Cv G y_MM_stop d [vr a0, vi 8, vi x22] M21 (fun M25 => mOk M25 ∧ (mK M25 a0 = 14 ∧ mK M25 (mR M25 a0 21) = 33 ∧ ((0 : Int) ≤ 0 ∧ 0 < (mN M25 (mR M25 a0 21) : Int)) ∧ Q (w32 (mL M25 (mR M25 a0 21) 0)) M25)))))))))) ∧ (¬ (mI M a0 16 = 0) → (Q 0 M))) :
    Ci G y_MM_wholeOf (d + 1) [vr a0, vi l1, vi l2] M Q := by
  refine wm_open (y := y_MM_wholeOf) rfl (Nat.le_of_ble_eq_true rfl) (L := [vr a0, vi l1, vi l2]) rfl ?_
  obtain ⟨h1, h⟩ := h
  refine wm_aload_n d_MM_wholeOf_0 rfl rfl ?_
  refine gf_MM_267 rfl d_MM_wholeOf_1 h1 ?_
  refine wm_if_eq (tgt := 9) d_MM_wholeOf_4 rfl (hO _ _).1 (fun c3 => ?_) (fun c3 => ?_)
  · replace h := h.1 c3
    refine wm_aload_n d_MM_wholeOf_9 rfl rfl ?_
    refine wm_aload_n d_MM_wholeOf_10 rfl rfl ?_
    refine gf_MM_38 rfl d_MM_wholeOf_11 h1 ?_
    refine wm_iload_n d_MM_wholeOf_14 rfl rfl ?_
    refine cf_MM_450 rfl d_MM_wholeOf_15 h1 (Nat.le_of_ble_eq_true rfl) (Cv.mono h (fun M4 h => ?_))
    obtain ⟨hOM4, h⟩ := h
    obtain ⟨h7, h⟩ := h
    refine wm_aload_n d_MM_wholeOf_18 rfl rfl ?_
    refine gf_MM_267 rfl d_MM_wholeOf_19 h7 ?_
    obtain ⟨s16, h⟩ := h
    have hE0 : ((¬ (mI M4 a0 16 = 0)) ∨ (cmpL (mL M4 (mR M4 a0 22) 0) 1 = 0)) → mWm G y_MM_wholeOf (d + 1) 47 [vr a0, vi l1, vi l2] [] M4 (fun r9 M9 => ∃ x9, r9 = some (vi x9) ∧ Q x9 M9) := by
      intro q17
      have h := h.1 q17
      obtain ⟨h18, h⟩ := h
      obtain ⟨h19, h⟩ := h
      refine wm_aload_n d_MM_wholeOf_47 rfl rfl ?_
      refine gf_MM_63 rfl d_MM_wholeOf_48 h7 ?_
      refine wm_iconst d_MM_wholeOf_51 ?_
      refine wm_lald d_MM_wholeOf_52 h18 h19 ?_
      refine wm_l2iw d_MM_wholeOf_53 ?_
      refine wm_ireturn d_MM_wholeOf_54 rfl rfl ?_
      exact ⟨_, rfl, h⟩
    have hE1 : ¬ ((¬ (mI M4 a0 16 = 0)) ∨ (cmpL (mL M4 (mR M4 a0 22) 0) 1 = 0)) → mWm G y_MM_wholeOf (d + 1) 36 [vr a0, vi l1, vi l2] [] M4 (fun r9 M9 => ∃ x9, r9 = some (vi x9) ∧ Q x9 M9) := by
      intro q20
      have h := h.2 q20
      refine wm_aload_n d_MM_wholeOf_36 rfl rfl ?_
      refine wm_bipush d_MM_wholeOf_37 (by decide) ?_
      refine wm_aload_n d_MM_wholeOf_39 rfl rfl ?_
      refine wm_iload_n d_MM_wholeOf_40 rfl rfl ?_
      refine cf_MM_279 rfl d_MM_wholeOf_41 h7 (Nat.le_of_ble_eq_true rfl) (Ci.mono h (fun x22 M21 h => ?_))
      obtain ⟨h23, hOM21, h⟩ := h
      obtain ⟨h24, h⟩ := h
      refine cf_MM_351 rfl d_MM_wholeOf_44 h24 (Nat.le_of_ble_eq_true rfl) (Cv.mono h (fun M25 h => ?_))
      obtain ⟨hOM25, h⟩ := h
      obtain ⟨h28, h⟩ := h
      obtain ⟨h29, h⟩ := h
      obtain ⟨h30, h⟩ := h
      refine wm_aload_n d_MM_wholeOf_47 rfl rfl ?_
      refine gf_MM_63 rfl d_MM_wholeOf_48 h28 ?_
      refine wm_iconst d_MM_wholeOf_51 ?_
      refine wm_lald d_MM_wholeOf_52 h29 h30 ?_
      refine wm_l2iw d_MM_wholeOf_53 ?_
      refine wm_ireturn d_MM_wholeOf_54 rfl rfl ?_
      exact ⟨_, rfl, h⟩
    clear h
    have s31 := s16
    refine wm_if_ne (tgt := 47) d_MM_wholeOf_22 rfl (hOM4 _ _).1 (fun c15 => ?_) (fun c15 => ?_)
    · exact hE0 (Or.inl c15)
    · replace c15 := Classical.not_not.mp c15
      have s31 := s31 c15
      obtain ⟨h12, h13⟩ := s31
      refine wm_aload_n d_MM_wholeOf_25 rfl rfl ?_
      refine gf_MM_67 rfl d_MM_wholeOf_26 h7 ?_
      refine wm_iconst d_MM_wholeOf_29 ?_
      refine wm_lald d_MM_wholeOf_30 h12 h13 ?_
      refine wm_lconst (x := 1) d_MM_wholeOf_31 rfl ?_
      refine wm_lcmp d_MM_wholeOf_32 (hOM4 _ _).2 ⟨by decide, by decide⟩ ?_
      refine wm_if_eq (tgt := 47) d_MM_wholeOf_33 rfl (m_cmp32 _ _) (fun c14 => ?_) (fun c14 => ?_)
      · exact hE0 (Or.inr c14)
      · exact hE1 (fun z32 => Or.elim z32 (fun w => w c15) c14)
  · replace h := h.2 c3
    refine wm_iconst d_MM_wholeOf_7 ?_
    refine wm_ireturn d_MM_wholeOf_8 rfl rfl ?_
    exact ⟨_, rfl, h⟩
theorem k_MM_begins2 {G : mG} {d : Nat} {a0 : Nat} {l1 : Int} {l2 : Int} {l3 : Int} {M : mM} {Q : mM → Prop} (hO : mOk M) (hi_l1 : i32 l1) (hi_l2 : i32 l2) (hi_l3 : i32 l3)
    (h : mK M a0 = 14 ∧ mK M (mR M a0 10) = 16 ∧ mK M (mR M (mR M a0 10) 13) = 31 ∧ ((0 : Int) ≤ l1 ∧ l1 < (mN M (mR M (mR M a0 10) 13) : Int)) ∧ ((mI M (mR M (mR M a0 10) 13) (Int.toNat l1) = 0) → (Ci G y_MM_wholeOf d [vr a0, vi l2, vi l3] M (fun x8 M7 => i32 x8 ∧ mOk M7 ∧ (mK M7 a0 = 14 ∧ ((mI M7 a0 16 = 0) → (mK M7 (mR M7 a0 10) = 16 ∧ mK M7 (mR M7 (mR M7 a0 10) 14) = 30 ∧ ((0 : Int) ≤ l1 ∧ l1 < (mN M7 (mR M7 (mR M7 a0 10) 14) : Int)) ∧ (¬ (x8 < mI M7 (mR M7 (mR M7 a0 10) 14) (Int.toNat l1)) → (mK M7 (mR M7 (mR M7 a0 10) 15) = 30 ∧ ((0 : Int) ≤ l1 ∧ l1 < (mN M7 (mR M7 (mR M7 a0 10) 15) : Int)))))) ∧ (((mI M7 a0 16 = 0) ∧ ((x8 < mI M7 (mR M7 (mR M7 a0 10) 14) (Int.toNat l1)) ∨ (¬ (x8 ≤ mI M7 (mR M7 (mR M7 a0 10) 15) (Int.toNat l1))))) → (Ci G y_MM_place0 d [vr a0, vi l3] M7 (fun x27 M26 => i32 x27 ∧ mOk M26 ∧ (mK M26 a0 = 14 ∧ Cv G y_MM_stop d [vr a0, vi 9, vi x27] M26 (fun M30 => mOk M30 ∧ (mK M30 a0 = 14 ∧ mK M30 (mR M30 a0 10) = 16 ∧ mK M30 (mR M30 (mR M30 a0 10) 16) = 30 ∧ ((0 : Int) ≤ l1 ∧ l1 < (mN M30 (mR M30 (mR M30 a0 10) 16) : Int)) ∧ ∀ M37, M37 = mUI M30 (mR M30 (mR M30 a0 10) 16) (Int.toNat l1) x8 → Q M37)))))) ∧ (¬ ((mI M7 a0 16 = 0) ∧ ((x8 < mI M7 (mR M7 (mR M7 a0 10) 14) (Int.toNat l1)) ∨ (¬ (x8 ≤ mI M7 (mR M7 (mR M7 a0 10) 15) (Int.toNat l1))))) → (mK M7 (mR M7 a0 10) = 16 ∧ mK M7 (mR M7 (mR M7 a0 10) 16) = 30 ∧ ((0 : Int) ≤ l1 ∧ l1 < (mN M7 (mR M7 (mR M7 a0 10) 16) : Int)) ∧ ∀ M43, M43 = mUI M7 (mR M7 (mR M7 a0 10) 16) (Int.toNat l1) x8 → Q M43)))))) ∧ (¬ (mI M (mR M (mR M a0 10) 13) (Int.toNat l1) = 0) → (Cv G y_MM_workOut d [vr a0, vr (mR M a0 10), vi l2] M (fun M51 => mOk M51 ∧ (mK M51 a0 = 14 ∧ mK M51 (mR M51 a0 10) = 16 ∧ mK M51 (mR M51 a0 21) = 33 ∧ ((0 : Int) ≤ 0 ∧ 0 < (mN M51 (mR M51 a0 21) : Int)) ∧ mK M51 (mR M51 (mR M51 a0 10) 16) = 30 ∧ ((0 : Int) ≤ l1 ∧ l1 < (mN M51 (mR M51 (mR M51 a0 10) 16) : Int)) ∧ ∀ M61, M61 = mUI M51 (mR M51 (mR M51 a0 10) 16) (Int.toNat l1) (w32 (mL M51 (mR M51 a0 21) 0)) → Q M61))))) :
    Cv G y_MM_begins (d + 1) [vr a0, vi l1, vi l2, vi l3] M Q := by
  refine wm_open (y := y_MM_begins) rfl (Nat.le_of_ble_eq_true rfl) (L := [vr a0, vi l1, vi l2, vi l3, vd]) rfl ?_
  obtain ⟨h1, h⟩ := h
  obtain ⟨h2, h⟩ := h
  obtain ⟨h3, h⟩ := h
  obtain ⟨h4, h⟩ := h
  refine wm_aload_n d_MM_begins_0 rfl rfl ?_
  refine gf_MM_38 rfl d_MM_begins_1 h1 ?_
  refine gf_MM_357 rfl d_MM_begins_4 h2 ?_
  refine wm_iload_n d_MM_begins_7 rfl rfl ?_
  refine wm_zald d_MM_begins_8 h3 h4 ?_
  refine wm_if_eq (tgt := 38) d_MM_begins_9 rfl (hO _ _).1 (fun c6 => ?_) (fun c6 => ?_)
  · replace h := h.1 c6
    refine wm_aload_n d_MM_begins_38 rfl rfl ?_
    refine wm_iload_n d_MM_begins_39 rfl rfl ?_
    refine wm_iload_n d_MM_begins_40 rfl rfl ?_
    refine cf_MM_466 rfl d_MM_begins_41 h1 (Nat.le_of_ble_eq_true rfl) (Ci.mono h (fun x8 M7 h => ?_))
    obtain ⟨h9, hOM7, h⟩ := h
    obtain ⟨h10, h⟩ := h
    refine wm_istore d_MM_begins_44 (by decide) (L' := [vr a0, vi l1, vi l2, vi l3, vi x8]) rfl ?_
    refine wm_aload_n d_MM_begins_46 rfl rfl ?_
    refine gf_MM_267 rfl d_MM_begins_47 h10 ?_
    obtain ⟨s24, h⟩ := h
    have hE0 : ((mI M7 a0 16 = 0) ∧ ((x8 < mI M7 (mR M7 (mR M7 a0 10) 14) (Int.toNat l1)) ∨ (¬ (x8 ≤ mI M7 (mR M7 (mR M7 a0 10) 15) (Int.toNat l1))))) → mWm G y_MM_begins (d + 1) 81 [vr a0, vi l1, vi l2, vi l3, vi x8] [] M7 (fun r9 M9 => r9 = none ∧ Q M9) := by
      intro q25
      have h := h.1 q25
      refine wm_aload_n d_MM_begins_81 rfl rfl ?_
      refine wm_bipush d_MM_begins_82 (by decide) ?_
      refine wm_aload_n d_MM_begins_84 rfl rfl ?_
      refine wm_iload_n d_MM_begins_85 rfl rfl ?_
      refine cf_MM_279 rfl d_MM_begins_86 h10 (Nat.le_of_ble_eq_true rfl) (Ci.mono h (fun x27 M26 h => ?_))
      obtain ⟨h28, hOM26, h⟩ := h
      obtain ⟨h29, h⟩ := h
      refine cf_MM_351 rfl d_MM_begins_89 h29 (Nat.le_of_ble_eq_true rfl) (Cv.mono h (fun M30 h => ?_))
      obtain ⟨hOM30, h⟩ := h
      obtain ⟨h33, h⟩ := h
      obtain ⟨h34, h⟩ := h
      obtain ⟨h35, h⟩ := h
      obtain ⟨h36, h⟩ := h
      obtain ⟨M37, e38⟩ : ∃ M37, M37 = mUI M30 (mR M30 (mR M30 a0 10) 16) (Int.toNat l1) x8 := ⟨_, rfl⟩
      replace h := h M37 e38
      refine wm_aload_n d_MM_begins_92 rfl rfl ?_
      refine gf_MM_38 rfl d_MM_begins_93 h33 ?_
      refine gf_MM_469 rfl d_MM_begins_96 h34 ?_
      refine wm_iload_n d_MM_begins_99 rfl rfl ?_
      refine wm_iload d_MM_begins_100 rfl ?_
      have hOM37 : mOk M37 := by rw [e38]; exact mOk_UI hOM30 h9
      refine wm_iastE d_MM_begins_102 h35 h36 h9 e38 ?_
      refine wm_return d_MM_begins_103 rfl ?_
      exact ⟨rfl, h⟩
    have hE1 : ¬ ((mI M7 a0 16 = 0) ∧ ((x8 < mI M7 (mR M7 (mR M7 a0 10) 14) (Int.toNat l1)) ∨ (¬ (x8 ≤ mI M7 (mR M7 (mR M7 a0 10) 15) (Int.toNat l1))))) → mWm G y_MM_begins (d + 1) 92 [vr a0, vi l1, vi l2, vi l3, vi x8] [] M7 (fun r9 M9 => r9 = none ∧ Q M9) := by
      intro q39
      have h := h.2 q39
      obtain ⟨h40, h⟩ := h
      obtain ⟨h41, h⟩ := h
      obtain ⟨h42, h⟩ := h
      obtain ⟨M43, e44⟩ : ∃ M43, M43 = mUI M7 (mR M7 (mR M7 a0 10) 16) (Int.toNat l1) x8 := ⟨_, rfl⟩
      replace h := h M43 e44
      refine wm_aload_n d_MM_begins_92 rfl rfl ?_
      refine gf_MM_38 rfl d_MM_begins_93 h10 ?_
      refine gf_MM_469 rfl d_MM_begins_96 h40 ?_
      refine wm_iload_n d_MM_begins_99 rfl rfl ?_
      refine wm_iload d_MM_begins_100 rfl ?_
      have hOM43 : mOk M43 := by rw [e44]; exact mOk_UI hOM7 h9
      refine wm_iastE d_MM_begins_102 h41 h42 h9 e44 ?_
      refine wm_return d_MM_begins_103 rfl ?_
      exact ⟨rfl, h⟩
    clear h
    have s45 := s24
    refine wm_if_ne (tgt := 92) d_MM_begins_50 rfl (hOM7 _ _).1 (fun c23 => ?_) (fun c23 => ?_)
    · exact hE1 (fun z50 => c23 z50.1)
    · replace c23 := Classical.not_not.mp c23
      have s45 := s45 c23
      obtain ⟨h16, h17, h18, s46⟩ := s45
      refine wm_iload d_MM_begins_53 rfl ?_
      refine wm_aload_n d_MM_begins_55 rfl rfl ?_
      refine gf_MM_38 rfl d_MM_begins_56 h10 ?_
      refine gf_MM_461 rfl d_MM_begins_59 h16 ?_
      refine wm_iload_n d_MM_begins_62 rfl rfl ?_
      refine wm_iald d_MM_begins_63 h17 h18 ?_
      refine wm_icmp_lt (tgt := 81) d_MM_begins_64 rfl h9 (hOM7 _ _).1 (fun c22 => ?_) (fun c22 => ?_)
      · exact hE0 ⟨c23, (Or.inl c22)⟩
      · have s46 := s46 c22
        obtain ⟨h19, h20⟩ := s46
        refine wm_iload d_MM_begins_67 rfl ?_
        refine wm_aload_n d_MM_begins_69 rfl rfl ?_
        refine gf_MM_38 rfl d_MM_begins_70 h10 ?_
        refine gf_MM_463 rfl d_MM_begins_73 h16 ?_
        refine wm_iload_n d_MM_begins_76 rfl rfl ?_
        refine wm_iald d_MM_begins_77 h19 h20 ?_
        refine wm_icmp_le (tgt := 92) d_MM_begins_78 rfl h9 (hOM7 _ _).1 (fun c21 => ?_) (fun c21 => ?_)
        · exact hE1 (fun z47 => (fun z48 => Or.elim z48 c22 (fun z49 => z49 c21)) z47.2)
        · exact hE0 ⟨c23, (Or.inr c21)⟩
  · replace h := h.2 c6
    refine wm_aload_n d_MM_begins_12 rfl rfl ?_
    refine wm_aload_n d_MM_begins_13 rfl rfl ?_
    refine gf_MM_38 rfl d_MM_begins_14 h1 ?_
    refine wm_iload_n d_MM_begins_17 rfl rfl ?_
    refine cf_MM_450 rfl d_MM_begins_18 h1 (Nat.le_of_ble_eq_true rfl) (Cv.mono h (fun M51 h => ?_))
    obtain ⟨hOM51, h⟩ := h
    obtain ⟨h54, h⟩ := h
    obtain ⟨h55, h⟩ := h
    obtain ⟨h56, h⟩ := h
    obtain ⟨h57, h⟩ := h
    obtain ⟨h58, h⟩ := h
    obtain ⟨h59, h⟩ := h
    have h60 := i32_w32 (x := mL M51 (mR M51 a0 21) 0)
    obtain ⟨M61, e62⟩ : ∃ M61, M61 = mUI M51 (mR M51 (mR M51 a0 10) 16) (Int.toNat l1) (w32 (mL M51 (mR M51 a0 21) 0)) := ⟨_, rfl⟩
    replace h := h M61 e62
    refine wm_aload_n d_MM_begins_21 rfl rfl ?_
    refine gf_MM_38 rfl d_MM_begins_22 h54 ?_
    refine gf_MM_469 rfl d_MM_begins_25 h55 ?_
    refine wm_iload_n d_MM_begins_28 rfl rfl ?_
    refine wm_aload_n d_MM_begins_29 rfl rfl ?_
    refine gf_MM_63 rfl d_MM_begins_30 h54 ?_
    refine wm_iconst d_MM_begins_33 ?_
    refine wm_lald d_MM_begins_34 h56 h57 ?_
    refine wm_l2iw d_MM_begins_35 ?_
    have hOM61 : mOk M61 := by rw [e62]; exact mOk_UI hOM51 h60
    refine wm_iastE d_MM_begins_36 h58 h59 h60 e62 ?_
    refine wm_return d_MM_begins_37 rfl ?_
    exact ⟨rfl, h⟩

theorem k_MM_varItem_215w {G : mG} {d : Nat} {a0 : Nat} {l1 : Int} {l3 : Int} {l4 : Int} {l5 : Int} {l6 : Int} {l7 : Int} {l8 : Int} {l9 : Int} {k0 : Int} {M : mM} {Q : mM → Prop} (hO : mOk M) (hi_l1 : i32 l1) (hi_l3 : i32 l3) (hi_l4 : i32 l4) (hi_l5 : i32 l5) (hi_l6 : i32 l6) (hi_l7 : i32 l7) (hi_l8 : i32 l8) (hi_l9 : i32 l9) (hi_k0 : i32 k0)
    (h : mK M a0 = 14 ∧ ((mI M a0 16 = 0) → (((l4 = 0) → (mK M (mR M a0 10) = 16 ∧ Ci G y_MM_wholeOf d [vr a0, vi l7, vi (l1 + 3)] M (fun x107 M106 => i32 x107 ∧ mOk M106 ∧ (mK M106 (mR M (mR M a0 10) 14) = 30 ∧ ((0 : Int) ≤ l3 ∧ l3 < (mN M106 (mR M (mR M a0 10) 14) : Int)) ∧ ∀ M111, M111 = mUI M106 (mR M (mR M a0 10) 14) (Int.toNat l3) x107 → mK M111 a0 = 14 ∧ mK M111 (mR M111 a0 10) = 16 ∧ Ci G y_MM_wholeOf d [vr a0, vi l8, vi (l9 + 1)] M111 (fun x116 M115 => i32 x116 ∧ mOk M115 ∧ (mK M115 (mR M111 (mR M111 a0 10) 15) = 30 ∧ ((0 : Int) ≤ l3 ∧ l3 < (mN M115 (mR M111 (mR M111 a0 10) 15) : Int)) ∧ ∀ M120, M120 = mUI M115 (mR M111 (mR M111 a0 10) 15) (Int.toNat l3) x116 → mK M120 a0 = 14 ∧ mK M120 (mR M120 a0 10) = 16 ∧ mK M120 (mR M120 (mR M120 a0 10) 14) = 30 ∧ ((0 : Int) ≤ l3 ∧ l3 < (mN M120 (mR M120 (mR M120 a0 10) 14) : Int)) ∧ mK M120 (mR M120 (mR M120 a0 10) 15) = 30 ∧ ((0 : Int) ≤ l3 ∧ l3 < (mN M120 (mR M120 (mR M120 a0 10) 15) : Int)) ∧ (¬ (mI M120 (mR M120 (mR M120 a0 10) 15) (Int.toNat l3) < mI M120 (mR M120 (mR M120 a0 10) 14) (Int.toNat l3)) → (((0 : Int) ≤ l3 ∧ l3 < (mN M120 (mR M120 (mR M120 a0 10) 15) : Int)) ∧ ((0 : Int) ≤ l3 ∧ l3 < (mN M120 (mR M120 (mR M120 a0 10) 14) : Int)) ∧ True)) ∧ ∀ v133 : Int, v133 = (if ((mI M120 (mR M120 (mR M120 a0 10) 15) (Int.toNat l3) < mI M120 (mR M120 (mR M120 a0 10) 14) (Int.toNat l3)) ∨ (10000 ≤ w32 ((mI M120 (mR M120 (mR M120 a0 10) 15) (Int.toNat l3)) - (mI M120 (mR M120 (mR M120 a0 10) 14) (Int.toNat l3))))) then 0 else 1) → (((mI M120 a0 16 = 0) ∧ (v133 = 0)) → (Ci G y_MM_place0 d [vr a0, vi (l9 + 1)] M120 (fun x143 M142 => i32 x143 ∧ mOk M142 ∧ (mK M142 a0 = 14 ∧ Cv G y_MM_stop d [vr a0, vi 9, vi x143] M142 (fun M146 => mOk M146 ∧ (h_MM_varItem_369 G d a0 l1 l3 l5 l6 k0 M146 Q)))))) ∧ (¬ ((mI M120 a0 16 = 0) ∧ (v133 = 0)) → (h_MM_varItem_369 G d a0 l1 l3 l5 l6 k0 M120 Q)))))))) ∧ (¬ (l4 = 0) → (mK M (mR M a0 10) = 16 ∧ mK M (mR M (mR M a0 10) 14) = 30 ∧ ((0 : Int) ≤ l3 ∧ l3 < (mN M (mR M (mR M a0 10) 14) : Int)) ∧ ∀ M159, M159 = mUI M (mR M (mR M a0 10) 14) (Int.toNat l3) 0 → mK M159 (mR M159 a0 10) = 16 ∧ mK M159 (mR M159 (mR M159 a0 10) 15) = 30 ∧ ((0 : Int) ≤ l3 ∧ l3 < (mN M159 (mR M159 (mR M159 a0 10) 15) : Int)) ∧ ∀ M164, M164 = mUI M159 (mR M159 (mR M159 a0 10) 15) (Int.toNat l3) 1 → h_MM_varItem_369 G d a0 l1 l3 l5 l6 k0 M164 Q)))) ∧ (¬ (mI M a0 16 = 0) → (Q M))) :
    h_MM_varItem_215 G d a0 l1 l3 l4 l5 l6 l7 l8 l9 k0 M Q := by
  unfold h_MM_varItem_215
  obtain ⟨h99, h⟩ := h
  refine wm_istore d_MM_varItem_215 (by decide) (L' := [vr a0, vi l1, vd, vi l3, vi l4, vi l5, vi l6, vi l7, vi l8, vi l9, vi k0, vd]) rfl ?_
  refine wm_aload_n d_MM_varItem_217 rfl rfl ?_
  refine gf_MM_267 rfl d_MM_varItem_218 h99 ?_
  refine wm_if_eq (tgt := 225) d_MM_varItem_221 rfl (hO _ _).1 (fun c102 => ?_) (fun c102 => ?_)
  · replace h := h.1 c102
    refine wm_iload d_MM_varItem_225 rfl ?_
    refine wm_if_eq (tgt := 253) d_MM_varItem_227 rfl hi_l4 (fun c104 => ?_) (fun c104 => ?_)
    · replace h := h.1 c104
      obtain ⟨h105, h⟩ := h
      refine wm_aload_n d_MM_varItem_253 rfl rfl ?_
      refine gf_MM_38 rfl d_MM_varItem_254 h99 ?_
      refine gf_MM_461 rfl d_MM_varItem_257 h105 ?_
      refine wm_iload_n d_MM_varItem_260 rfl rfl ?_
      refine wm_aload_n d_MM_varItem_261 rfl rfl ?_
      refine wm_iload d_MM_varItem_262 rfl ?_
      refine wm_iload_n d_MM_varItem_264 rfl rfl ?_
      refine wm_iconst d_MM_varItem_265 ?_
      refine wm_iadd d_MM_varItem_266 ?_
      refine cf_MM_466 rfl d_MM_varItem_267 h99 (Nat.le_of_ble_eq_true rfl) (Ci.mono h (fun x107 M106 h => ?_))
      obtain ⟨h108, hOM106, h⟩ := h
      obtain ⟨h109, h⟩ := h
      obtain ⟨h110, h⟩ := h
      obtain ⟨M111, e112⟩ : ∃ M111, M111 = mUI M106 (mR M (mR M a0 10) 14) (Int.toNat l3) x107 := ⟨_, rfl⟩
      replace h := h M111 e112
      obtain ⟨h113, h⟩ := h
      obtain ⟨h114, h⟩ := h
      have hOM111 : mOk M111 := by rw [e112]; exact mOk_UI hOM106 h108
      refine wm_iastE d_MM_varItem_270 h109 h110 h108 e112 ?_
      refine wm_aload_n d_MM_varItem_271 rfl rfl ?_
      refine gf_MM_38 rfl d_MM_varItem_272 h113 ?_
      refine gf_MM_463 rfl d_MM_varItem_275 h114 ?_
      refine wm_iload_n d_MM_varItem_278 rfl rfl ?_
      refine wm_aload_n d_MM_varItem_279 rfl rfl ?_
      refine wm_iload d_MM_varItem_280 rfl ?_
      refine wm_iload d_MM_varItem_282 rfl ?_
      refine wm_iconst d_MM_varItem_284 ?_
      refine wm_iadd d_MM_varItem_285 ?_
      refine cf_MM_466 rfl d_MM_varItem_286 h113 (Nat.le_of_ble_eq_true rfl) (Ci.mono h (fun x116 M115 h => ?_))
      obtain ⟨h117, hOM115, h⟩ := h
      obtain ⟨h118, h⟩ := h
      obtain ⟨h119, h⟩ := h
      obtain ⟨M120, e121⟩ : ∃ M120, M120 = mUI M115 (mR M111 (mR M111 a0 10) 15) (Int.toNat l3) x116 := ⟨_, rfl⟩
      replace h := h M120 e121
      obtain ⟨h122, h⟩ := h
      obtain ⟨h123, h⟩ := h
      obtain ⟨h124, h⟩ := h
      obtain ⟨h125, h⟩ := h
      obtain ⟨h126, h⟩ := h
      obtain ⟨h127, h⟩ := h
      have hOM120 : mOk M120 := by rw [e121]; exact mOk_UI hOM115 h117
      refine wm_iastE d_MM_varItem_289 h118 h119 h117 e121 ?_
      refine wm_aload_n d_MM_varItem_290 rfl rfl ?_
      refine gf_MM_38 rfl d_MM_varItem_291 h122 ?_
      refine gf_MM_461 rfl d_MM_varItem_294 h123 ?_
      refine wm_iload_n d_MM_varItem_297 rfl rfl ?_
      refine wm_iald d_MM_varItem_298 h124 h125 ?_
      refine wm_aload_n d_MM_varItem_299 rfl rfl ?_
      refine gf_MM_38 rfl d_MM_varItem_300 h122 ?_
      refine gf_MM_463 rfl d_MM_varItem_303 h123 ?_
      refine wm_iload_n d_MM_varItem_306 rfl rfl ?_
      refine wm_iald d_MM_varItem_307 h126 h127 ?_
      obtain ⟨s134, h⟩ := h
      have hJ : ∀ v133 : Int, v133 = (if ((mI M120 (mR M120 (mR M120 a0 10) 15) (Int.toNat l3) < mI M120 (mR M120 (mR M120 a0 10) 14) (Int.toNat l3)) ∨ (10000 ≤ w32 ((mI M120 (mR M120 (mR M120 a0 10) 15) (Int.toNat l3)) - (mI M120 (mR M120 (mR M120 a0 10) 14) (Int.toNat l3))))) then 0 else 1) → mWm G y_MM_varItem (d + 1) 341 [vr a0, vi l1, vd, vi l3, vd, vi l5, vi l6, vd, vd, vi l9, vi k0, vd] [vi v133] M120 (fun r9 M9 => r9 = none ∧ Q M9) := by
        intro v133 e135
        have h := h v133 e135
        have h136 : i32 v133 := by rw [e135]; (repeat' split) <;> first | exact ⟨by decide, by decide⟩ | exact ⟨by decide, by decide⟩
        have h137 : (v133 = 0 ∨ v133 = 1) := by rw [e135]; (repeat' split) <;> decide
        refine wm_istore d_MM_varItem_341 (by decide) (L' := [vr a0, vi l1, vd, vi l3, vd, vi l5, vi l6, vd, vd, vi l9, vi k0, vi v133]) rfl ?_
        refine wm_aload_n d_MM_varItem_343 rfl rfl ?_
        refine gf_MM_267 rfl d_MM_varItem_344 h122 ?_
        have hE0 : ((mI M120 a0 16 = 0) ∧ (v133 = 0)) → mWm G y_MM_varItem (d + 1) 355 [vr a0, vi l1, vd, vi l3, vd, vi l5, vi l6, vd, vd, vi l9, vi k0, vi v133] [] M120 (fun r9 M9 => r9 = none ∧ Q M9) := by
          intro q141
          have h := h.1 q141
          refine wm_aload_n d_MM_varItem_355 rfl rfl ?_
          refine wm_bipush d_MM_varItem_356 (by decide) ?_
          refine wm_aload_n d_MM_varItem_358 rfl rfl ?_
          refine wm_iload d_MM_varItem_359 rfl ?_
          refine wm_iconst d_MM_varItem_361 ?_
          refine wm_iadd d_MM_varItem_362 ?_
          refine cf_MM_279 rfl d_MM_varItem_363 h122 (Nat.le_of_ble_eq_true rfl) (Ci.mono h (fun x143 M142 h => ?_))
          obtain ⟨h144, hOM142, h⟩ := h
          obtain ⟨h145, h⟩ := h
          refine cf_MM_351 rfl d_MM_varItem_366 h145 (Nat.le_of_ble_eq_true rfl) (Cv.mono h (fun M146 h => ?_))
          obtain ⟨hOM146, h⟩ := h
          refine wm_less (L' := [vr a0, vi l1, vd, vi l3, vd, vi l5, vi l6, vd, vd, vd, vi k0, vd]) ⟨Or.inr rfl, Or.inr rfl, Or.inl rfl, Or.inr rfl, Or.inl rfl, Or.inr rfl, Or.inr rfl, Or.inl rfl, Or.inl rfl, Or.inl rfl, Or.inr rfl, Or.inl rfl, trivial⟩ ?_
          exact h
        have hE1 : ¬ ((mI M120 a0 16 = 0) ∧ (v133 = 0)) → mWm G y_MM_varItem (d + 1) 369 [vr a0, vi l1, vd, vi l3, vd, vi l5, vi l6, vd, vd, vi l9, vi k0, vi v133] [] M120 (fun r9 M9 => r9 = none ∧ Q M9) := by
          intro q149
          have h := h.2 q149
          refine wm_less (L' := [vr a0, vi l1, vd, vi l3, vd, vi l5, vi l6, vd, vd, vd, vi k0, vd]) ⟨Or.inr rfl, Or.inr rfl, Or.inl rfl, Or.inr rfl, Or.inl rfl, Or.inr rfl, Or.inr rfl, Or.inl rfl, Or.inl rfl, Or.inl rfl, Or.inr rfl, Or.inl rfl, trivial⟩ ?_
          exact h
        clear h
        refine wm_if_ne (tgt := 369) d_MM_varItem_347 rfl (hOM120 _ _).1 (fun c139 => ?_) (fun c139 => ?_)
        · exact hE1 (fun z152 => c139 z152.1)
        · replace c139 := Classical.not_not.mp c139
          refine wm_iload d_MM_varItem_350 rfl ?_
          refine wm_if_ne (tgt := 369) d_MM_varItem_352 rfl h136 (fun c138 => ?_) (fun c138 => ?_)
          · exact hE1 (fun z150 => c138 z150.2)
          · replace c138 := Classical.not_not.mp c138
            exact hE0 ⟨c139, c138⟩
      clear h
      have s153 := s134
      refine wm_icmp_gt (tgt := 340) d_MM_varItem_308 rfl (hOM120 _ _).1 (hOM120 _ _).1 (fun c128 => ?_) (fun c128 => ?_)
      · refine wm_iconst d_MM_varItem_340 ?_
        refine wm_less (L' := [vr a0, vi l1, vd, vi l3, vd, vi l5, vi l6, vd, vd, vi l9, vi k0, vd]) ⟨Or.inr rfl, Or.inr rfl, Or.inl rfl, Or.inr rfl, Or.inl rfl, Or.inr rfl, Or.inr rfl, Or.inl rfl, Or.inl rfl, Or.inr rfl, Or.inr rfl, Or.inl rfl, trivial⟩ ?_
        exact hJ 0 (if_pos (Or.inl c128)).symm
      · have s153 := s153 c128
        obtain ⟨h129, h130, h131⟩ := s153
        refine wm_aload_n d_MM_varItem_311 rfl rfl ?_
        refine gf_MM_38 rfl d_MM_varItem_312 h122 ?_
        refine gf_MM_463 rfl d_MM_varItem_315 h123 ?_
        refine wm_iload_n d_MM_varItem_318 rfl rfl ?_
        refine wm_iald d_MM_varItem_319 h126 h129 ?_
        refine wm_aload_n d_MM_varItem_320 rfl rfl ?_
        refine gf_MM_38 rfl d_MM_varItem_321 h122 ?_
        refine gf_MM_461 rfl d_MM_varItem_324 h123 ?_
        refine wm_iload_n d_MM_varItem_327 rfl rfl ?_
        refine wm_iald d_MM_varItem_328 h124 h130 ?_
        refine wm_isub d_MM_varItem_329 ?_
        refine wm_w ?_
        refine wm_sipush d_MM_varItem_330 (by decide) ?_
        refine wm_icmp_ge (tgt := 340) d_MM_varItem_333 rfl i32_w32 ⟨by decide, by decide⟩ (fun c132 => ?_) (fun c132 => ?_)
        · refine wm_iconst d_MM_varItem_340 ?_
          refine wm_less (L' := [vr a0, vi l1, vd, vi l3, vd, vi l5, vi l6, vd, vd, vi l9, vi k0, vd]) ⟨Or.inr rfl, Or.inr rfl, Or.inl rfl, Or.inr rfl, Or.inl rfl, Or.inr rfl, Or.inr rfl, Or.inl rfl, Or.inl rfl, Or.inr rfl, Or.inr rfl, Or.inl rfl, trivial⟩ ?_
          exact hJ 0 (if_pos (Or.inr c132)).symm
        · refine wm_iconst d_MM_varItem_336 ?_
          refine wm_goto (tgt := 341) d_MM_varItem_337 rfl ?_
          refine wm_less (L' := [vr a0, vi l1, vd, vi l3, vd, vi l5, vi l6, vd, vd, vi l9, vi k0, vd]) ⟨Or.inr rfl, Or.inr rfl, Or.inl rfl, Or.inr rfl, Or.inl rfl, Or.inr rfl, Or.inr rfl, Or.inl rfl, Or.inl rfl, Or.inr rfl, Or.inr rfl, Or.inl rfl, trivial⟩ ?_
          exact hJ 1 (if_neg (fun z154 => Or.elim z154 c128 c132)).symm
    · replace h := h.2 c104
      obtain ⟨h156, h⟩ := h
      obtain ⟨h157, h⟩ := h
      obtain ⟨h158, h⟩ := h
      obtain ⟨M159, e160⟩ : ∃ M159, M159 = mUI M (mR M (mR M a0 10) 14) (Int.toNat l3) 0 := ⟨_, rfl⟩
      replace h := h M159 e160
      obtain ⟨h161, h⟩ := h
      obtain ⟨h162, h⟩ := h
      obtain ⟨h163, h⟩ := h
      obtain ⟨M164, e165⟩ : ∃ M164, M164 = mUI M159 (mR M159 (mR M159 a0 10) 15) (Int.toNat l3) 1 := ⟨_, rfl⟩
      replace h := h M164 e165
      refine wm_aload_n d_MM_varItem_230 rfl rfl ?_
      refine gf_MM_38 rfl d_MM_varItem_231 h99 ?_
      refine gf_MM_461 rfl d_MM_varItem_234 h156 ?_
      refine wm_iload_n d_MM_varItem_237 rfl rfl ?_
      refine wm_iconst d_MM_varItem_238 ?_
      have hOM159 : mOk M159 := by rw [e160]; exact mOk_UI hO ⟨by decide, by decide⟩
      refine wm_iastE d_MM_varItem_239 h157 h158 ⟨by decide, by decide⟩ e160 ?_
      refine wm_aload_n d_MM_varItem_240 rfl rfl ?_
      refine gf_MM_38 rfl d_MM_varItem_241 (by rw [e160]; exact h99) ?_
      refine gf_MM_463 rfl d_MM_varItem_244 h161 ?_
      refine wm_iload_n d_MM_varItem_247 rfl rfl ?_
      refine wm_iconst d_MM_varItem_248 ?_
      have hOM164 : mOk M164 := by rw [e165]; exact mOk_UI hOM159 ⟨by decide, by decide⟩
      refine wm_iastE d_MM_varItem_249 h162 h163 ⟨by decide, by decide⟩ e165 ?_
      refine wm_goto (tgt := 369) d_MM_varItem_250 rfl ?_
      refine wm_less (L' := [vr a0, vi l1, vd, vi l3, vd, vi l5, vi l6, vd, vd, vd, vi k0, vd]) ⟨Or.inr rfl, Or.inr rfl, Or.inl rfl, Or.inr rfl, Or.inl rfl, Or.inr rfl, Or.inr rfl, Or.inl rfl, Or.inl rfl, Or.inl rfl, Or.inr rfl, Or.inl rfl, trivial⟩ ?_
      exact h
  · replace h := h.2 c102
    refine wm_return d_MM_varItem_224 rfl ?_
    exact ⟨rfl, h⟩
end
section
/-! The grammar as a machine over words: its steps, what it reaches, what it refuses. -/
/-- levels that are open -/
def slv (st : List Int) : Int := (c75 st : Int) - c76 st
/-- one step before the word x: none if it is refused; else the pile, and how many words were taken -/
def mst (x : Int) : List Int → Option (List Int × Nat)
  | [] => none
  | y :: r => if y = 75 then some (r, 0) else if y < 50 then (if y = x then some (r, 1) else none) else
    match ex y x with
    | none => none
    | some u => if dlv y u.1 = 1 ∧ 40 ≤ slv (y :: r) then none else some (u.1 ++ r, u.2)
section MA
variable {w : Nat → Int} {x y : Int} {r st : List Int} {k : Nat}
theorem mst_c : mst x (y :: r) = if y = 75 then some (r, 0) else if y < 50 then (if y = x then some (r, 1) else none) else
    match ex y x with
    | none => none
    | some u => if dlv y u.1 = 1 ∧ 40 ≤ slv (y :: r) then none else some (u.1 ++ r, u.2) := rfl
theorem mst_75 : mst x (75 :: r) = some (r, 0) := by rw [mst_c, if_pos rfl]
theorem mst_t (h : y < 50) (e : y = x) : mst x (y :: r) = some (r, 1) := by rw [mst_c, if_neg (by omega), if_pos h, if_pos e]
theorem mst_tn (h : y < 50) (e : y ≠ x) : mst x (y :: r) = none := by rw [mst_c, if_neg (by omega), if_pos h, if_neg e]
theorem mst_n (h : 50 ≤ y) (h5 : y ≠ 75) {ys : List Int} {t : Nat} (he : ex y x = some (ys, t)) (hd : dlv y ys ≠ 1 ∨ slv (y :: r) < 40) : mst x (y :: r) = some (ys ++ r, t) := by
  rw [mst_c, if_neg h5, if_neg (by omega), he]
  show (if dlv y ys = 1 ∧ 40 ≤ slv (y :: r) then none else some (ys ++ r, t)) = some (ys ++ r, t)
  rw [if_neg (by omega)]
theorem mst_no (h : 50 ≤ y) (h5 : y ≠ 75) (he : ex y x = none) : mst x (y :: r) = none := by
  rw [mst_c, if_neg h5, if_neg (by omega), he]
theorem mst_deep (h : 50 ≤ y) (h5 : y ≠ 75) {ys : List Int} {t : Nat} (he : ex y x = some (ys, t)) (hd : dlv y ys = 1) (hl : 40 ≤ slv (y :: r)) : mst x (y :: r) = none := by
  rw [mst_c, if_neg h5, if_neg (by omega), he]
  show (if dlv y ys = 1 ∧ 40 ≤ slv (y :: r) then none else some (ys ++ r, t)) = none
  rw [if_pos ⟨hd, hl⟩]
/-- n steps from the pile st at word k -/
def mit (w : Nat → Int) : Nat → List Int → Nat → Option (List Int × Nat)
  | 0, st, k => some (st, k)
  | n + 1, st, k => match mst (w k) st with
    | none => none
    | some u => mit w n u.1 (k + u.2)
/-- the machine comes from here to there -/
def Rc (w : Nat → Int) (st : List Int) (k : Nat) (st' : List Int) (k' : Nat) : Prop := ∃ n, mit w n st k = some (st', k')
/-- it refuses word q -/
def Rf (w : Nat → Int) (st : List Int) (k q : Nat) : Prop := ∃ st', Rc w st k st' q ∧ st' ≠ [] ∧ mst (w q) st' = none
theorem mit_s {n : Nat} {st1 : List Int} {t : Nat} (h : mst (w k) st = some (st1, t)) : mit w (n + 1) st k = mit w n st1 (k + t) := by
  show (match mst (w k) st with | none => none | some u => mit w n u.1 (k + u.2)) = _
  rw [h]
theorem mit_add {m : Nat} : ∀ (n : Nat) {st st1 : List Int} {k k1 : Nat}, mit w n st k = some (st1, k1) → mit w (n + m) st k = mit w m st1 k1
  | 0, st, st1, k, k1, h => by
    have e : (some (st, k) : Option (List Int × Nat)) = some (st1, k1) := h
    injection e with e
    injection e with e1 e2
    rw [← e1, ← e2, Nat.zero_add]
  | n + 1, st, st1, k, k1, h => by
    rw [show n + 1 + m = (n + m) + 1 by first | rfl | omega]
    cases q : mst (w k) st with
    | none =>
      have : mit w (n + 1) st k = none := by
        show (match mst (w k) st with | none => none | some u => mit w n u.1 (k + u.2)) = _
        rw [q]
      rw [this] at h
      cases h
    | some u =>
      obtain ⟨a, b⟩ := u
      rw [mit_s q] at h ⊢
      exact mit_add n h
theorem Rc.refl : Rc w st k st k := ⟨0, rfl⟩
theorem Rc.one {st1 : List Int} {t : Nat} (h : mst (w k) st = some (st1, t)) : Rc w st k st1 (k + t) := ⟨1, by rw [mit_s h]; rfl⟩
theorem Rc.zero {st1 : List Int} (h : mst (w k) st = some (st1, 0)) : Rc w st k st1 k := Rc.one h
theorem Rc.trans {s1 s2 : List Int} {k1 k2 : Nat} (h1 : Rc w st k s1 k1) (h2 : Rc w s1 k1 s2 k2) : Rc w st k s2 k2 := by
  obtain ⟨n, h1⟩ := h1
  obtain ⟨m, h2⟩ := h2
  exact ⟨n + m, by rw [mit_add n h1]; exact h2⟩
theorem Rf.of (h : mst (w k) (y :: r) = none) : Rf w (y :: r) k k := ⟨y :: r, Rc.refl, by simp, h⟩
theorem Rc.rf {s1 : List Int} {k1 q : Nat} (h : Rc w st k s1 k1) (f : Rf w s1 k1 q) : Rf w st k q := by
  obtain ⟨s, a, b⟩ := f
  exact ⟨s, h.trans a, b⟩
theorem mit_stop {m : Nat} (h : mst (w k) st = none) {u : List Int × Nat} (q : mit w m st k = some u) : m = 0 := by
  cases m with
  | zero => rfl
  | succ m =>
    have : mit w (m + 1) st k = none := by
      show (match mst (w k) st with | none => none | some u => mit w m u.1 (k + u.2)) = _
      rw [h]
    rw [this] at q
    cases q
/-- where it stops is one place -/
theorem Rc.same {s1 s2 : List Int} {k1 k2 : Nat} (h1 : Rc w st k s1 k1) (e1 : mst (w k1) s1 = none) (h2 : Rc w st k s2 k2) (e2 : mst (w k2) s2 = none) : s1 = s2 ∧ k1 = k2 := by
  obtain ⟨n, h1⟩ := h1
  obtain ⟨m, h2⟩ := h2
  by_cases c : n ≤ m
  · have q := mit_add (m := m - n) n h1
    rw [show n + (m - n) = m by first | rfl | omega, h2] at q
    have z := mit_stop e1 q.symm
    rw [z] at q
    have e : (some (s2, k2) : Option (List Int × Nat)) = some (s1, k1) := q
    injection e with e
    injection e with a b
    exact ⟨a.symm, b.symm⟩
  · have q := mit_add (m := n - m) m h2
    rw [show m + (n - m) = n by first | rfl | omega, h1] at q
    have z := mit_stop e2 q.symm
    omega
theorem Rf.same {q1 q2 : Nat} (h1 : Rf w st k q1) (h2 : Rf w st k q2) : q1 = q2 := by
  obtain ⟨s1, a1, -, c1⟩ := h1
  obtain ⟨s2, a2, -, c2⟩ := h2
  exact (a1.same c1 a2 c2).2
theorem Rf.not {q k1 : Nat} (h1 : Rf w st k q) (h2 : Rc w st k [] k1) : False := by
  obtain ⟨s1, a1, b1, c1⟩ := h1
  exact b1 (a1.same c1 h2 rfl).1
end MA
/-! THE CLASS'S OPEN OPERATIONS, and the pile that belongs to them. Operations by the class's numbers, the latest first. -/
/-- how strong an operand may stand behind an operation -/
def rsq (o : Int) : Nat := if o = 40 ∨ (27 ≤ o ∧ o ≤ 29) then 0 else if o = 25 ∨ o = 26 then 1 else if 19 ≤ o ∧ o ≤ 24 then 2 else if o = 41 ∨ o = 30 then 3 else if o = 31 then 4 else 6
/-- how strong it makes what it joins -/
def cst (o : Int) : Nat := if 27 ≤ o ∧ o ≤ 29 then 1 else if o = 25 ∨ o = 26 then 2 else if (19 ≤ o ∧ o ≤ 24) ∨ o = 41 then 3 else if o = 30 then 4 else if o = 31 then 5 else if o = 33 ∨ o = 42 then 6 else 0
/-- what is wanted behind its operand -/
def hdT (o : Int) : List Int := if 27 ≤ o ∧ o ≤ 29 then [72] else if o = 25 ∨ o = 26 then [70] else if 19 ≤ o ∧ o ≤ 24 then [] else if o = 41 ∨ o = 40 ∨ o = 42 then [75] else if o = 30 then [66] else if o = 31 then [64] else if o = 37 then [37, 75] else if o = 15 ∨ o = 16 then [74, 37, 75] else [33, 61, 75]
def cdq (o : Int) : Nat := if o = 15 ∨ o = 16 ∨ o = 33 ∨ o = 37 ∨ o = 40 ∨ o = 41 ∨ o = 42 then 1 else 0
def opq (o : Int) : Prop := o = 15 ∨ o = 16 ∨ (19 ≤ o ∧ o ≤ 31) ∨ o = 33 ∨ o = 37 ∨ o = 40 ∨ o = 41 ∨ o = 42
def rsl (q : Nat) : List Int → Nat
  | [] => q
  | o :: _ => rsq o
/-- the rests from strength a up to b -/
def rst (a b : Nat) : List Int := ([72, 70, 68, 66, 64, 62].take b).drop a
/-- what stands below the operand that is read or wanted; z below the rule, q its strength -/
def gyT (z : List Int) (q : Nat) : List Int → List Int
  | [] => z
  | o :: t => hdT o ++ (rst (cst o) (rsl q t) ++ gyT z q t)
def gyR (z : List Int) (q c : Nat) (os : List Int) : List Int := rst c (rsl q os) ++ gyT z q os
def ntq (c : Nat) : Int := if c = 0 then 73 else if c = 1 then 71 else if c = 2 then 69 else if c = 3 then 67 else if c = 4 then 65 else if c = 5 then 63 else 61
/-- an operand is wanted -/
def gyW (z : List Int) (q : Nat) (os : List Int) : List Int := ntq (rsl q os) :: gyT z q os
/-- operations stand one above another as they may -/
def woq (q : Nat) : List Int → Prop
  | [] => True
  | o :: t => opq o ∧ cst o ≤ rsl q t ∧ woq q t
def lvs : List Int → Nat
  | [] => 0
  | o :: t => cdq o + lvs t
/-- how strong the operation of a word is -/
def lwx (x : Int) : Nat := if 26 ≤ x ∧ x ≤ 28 then 1 else if x = 24 ∨ x = 25 then 2 else if 18 ≤ x ∧ x ≤ 23 then 3 else if x = 29 then 4 else if x = 30 then 5 else if x = 32 then 6 else 0
def rsy (c : Nat) : Int := if c = 0 then 72 else if c = 1 then 70 else if c = 2 then 68 else if c = 3 then 66 else if c = 4 then 64 else 62
section MB
variable {w : Nat → Int} {S z : List Int} {k q : Nat} {os t : List Int} {o : Int}
theorem rst_cons {a b : Nat} (hb : b ≤ 6) (h : a < b) : rst a b = rsy a :: rst (a + 1) b := by
  have g : b = 1 ∨ b = 2 ∨ b = 3 ∨ b = 4 ∨ b = 5 ∨ b = 6 := by omega
  have e : a = 0 ∨ a = 1 ∨ a = 2 ∨ a = 3 ∨ a = 4 ∨ a = 5 := by omega
  rcases e with e | e | e | e | e | e <;> rcases g with g | g | g | g | g | g <;> first | omega | (rw [e, g]; rfl)
theorem rst_nil {a b : Nat} (h : b ≤ a) : rst a b = [] := by
  unfold rst
  exact List.drop_eq_nil_of_le (by rw [List.length_take]; omega)
theorem rsq_le (o : Int) : rsq o ≤ 6 := by unfold rsq; (repeat' split) <;> omega
theorem cst_le (o : Int) : cst o ≤ 6 := by unfold cst; (repeat' split) <;> omega
theorem rsl_le (hq : q ≤ 6) : rsl q os ≤ 6 := by
  cases os with
  | nil => exact hq
  | cons o t => exact rsq_le o
theorem gyT_c : gyT z q (o :: t) = hdT o ++ gyR z q (cst o) t := rfl
/-- a rest that no word goes on with -/
theorem rc_drop {c : Nat} (hc : c < 6) (h : lwx (w k) ≠ c + 1) : Rc w (rsy c :: S) k S k := by
  have e : c = 0 ∨ c = 1 ∨ c = 2 ∨ c = 3 ∨ c = 4 ∨ c = 5 := by omega
  unfold lwx at h
  rcases e with e | e | e | e | e | e <;> subst e
  · exact Rc.zero (mst_n (y := 72) (ys := []) (by decide) (by decide) (by rw [ex_72]; unfold ex72; rw [if_neg (by intro c; rw [if_pos (by omega)] at h; omega)]) (Or.inl (by decide)))
  · exact Rc.zero (mst_n (y := 70) (ys := []) (by decide) (by decide) (by rw [ex_70]; unfold ex70; rw [if_neg (by intro c; rw [if_neg (by omega), if_pos (by omega)] at h; omega)]) (Or.inl (by decide)))
  · exact Rc.zero (mst_n (y := 68) (ys := []) (by decide) (by decide) (by rw [ex_68]; unfold ex68; rw [if_neg (by intro c; rw [if_neg (by omega), if_neg (by omega), if_pos (by omega)] at h; omega)]) (Or.inl (by decide)))
  · exact Rc.zero (mst_n (y := 66) (ys := []) (by decide) (by decide) (by rw [ex_66]; unfold ex66; rw [if_neg (by intro c; rw [if_neg (by omega), if_neg (by omega), if_neg (by omega), if_pos (by omega)] at h; omega)]) (Or.inl (by decide)))
  · exact Rc.zero (mst_n (y := 64) (ys := []) (by decide) (by decide) (by rw [ex_64]; unfold ex64; rw [if_neg (by intro c; rw [if_neg (by omega), if_neg (by omega), if_neg (by omega), if_neg (by omega), if_pos (by omega)] at h; omega)]) (Or.inl (by decide)))
  · exact Rc.zero (mst_n (y := 62) (ys := []) (by decide) (by decide) (by rw [ex_62]; unfold ex62; rw [if_neg (by intro c; rw [if_neg (by omega), if_neg (by omega), if_neg (by omega), if_neg (by omega), if_neg (by omega), if_pos (by omega)] at h; omega)]) (Or.inl (by decide)))
theorem rc_drops {b : Nat} (hb : b ≤ 6) : ∀ (n a : Nat), b - a = n → (lwx (w k) ≤ a ∨ b < lwx (w k)) → Rc w (rst a b ++ S) k S k
  | 0, a, h, _ => by rw [rst_nil (by omega)]; exact Rc.refl
  | n + 1, a, h, hl => by
    rw [rst_cons hb (by omega)]
    exact (rc_drop (S := rst (a + 1) b ++ S) (by omega) (by omega)).trans (rc_drops hb n (a + 1) (by omega) (by omega))
theorem rc_to {a b c : Nat} (hb : b ≤ 6) (hac : a ≤ c) (hcb : c ≤ b) (hl : lwx (w k) ≤ a ∨ c < lwx (w k)) : Rc w (rst a b ++ S) k (rst c b ++ S) k := by
  have e : rst a b = rst a c ++ rst c b := by
    have h : ∀ n a, c - a = n → a ≤ c → rst a b = rst a c ++ rst c b := by
      intro n
      induction n with
      | zero => intro a h1 h2; rw [rst_nil (a := a) (b := c) (by omega), show a = c by first | rfl | omega]; rfl
      | succ n ih => intro a h1 h2; rw [rst_cons (a := a) hb (by omega), rst_cons (a := a) (b := c) (by omega) (by omega), ih (a + 1) (by omega) (by omega)]; rfl
    exact h _ a rfl hac
  rw [e, List.append_assoc]
  exact rc_drops (by omega) _ a rfl hl
/-- the wanted sign comes down -/
theorem rc_desc1 {c : Nat} (hc : c < 6) (h : w k ≠ 31 ∨ c ≠ 2) : Rc w (ntq (c + 1) :: S) k (ntq c :: rsy c :: S) k := by
  have e : c = 0 ∨ c = 1 ∨ c = 2 ∨ c = 3 ∨ c = 4 ∨ c = 5 := by omega
  rcases e with e | e | e | e | e | e <;> subst e
  · exact Rc.zero (mst_n (y := 71) (ys := [73, 72]) (by decide) (by decide) rfl (Or.inl (by decide)))
  · exact Rc.zero (mst_n (y := 69) (ys := [71, 70]) (by decide) (by decide) rfl (Or.inl (by decide)))
  · exact Rc.zero (mst_n (y := 67) (ys := [69, 68]) (by decide) (by decide) (by rw [ex_67]; unfold ex67; rw [if_neg (by omega)]) (Or.inl (by decide)))
  · exact Rc.zero (mst_n (y := 65) (ys := [67, 66]) (by decide) (by decide) rfl (Or.inl (by decide)))
  · exact Rc.zero (mst_n (y := 63) (ys := [65, 64]) (by decide) (by decide) rfl (Or.inl (by decide)))
  · exact Rc.zero (mst_n (y := 61) (ys := [63, 62]) (by decide) (by decide) rfl (Or.inl (by decide)))
theorem rc_desc {a : Nat} : ∀ (n b : Nat), b - a = n → a ≤ b → b ≤ 6 → (w k ≠ 31 ∨ 3 ≤ a ∨ b ≤ 2) → ∀ S, Rc w (ntq b :: S) k (ntq a :: (rst a b ++ S)) k
  | 0, b, h, h1, _, _, S => by rw [rst_nil (by omega), show b = a by first | rfl | omega]; exact Rc.refl
  | n + 1, b, h, h1, h6, hx, S => by
    have e := rc_desc1 (w := w) (k := k) (S := S) (c := b - 1) (by omega) (by omega)
    rw [show b - 1 + 1 = b by first | rfl | omega] at e
    refine e.trans ?_
    have r := rc_desc (a := a) n (b - 1) (by omega) (by omega) (by omega) (by omega) (rsy (b - 1) :: S)
    have hh : rst a (b - 1) ++ rsy (b - 1) :: S = rst a b ++ S := by
      have g : ∀ m a, b - 1 - a = m → a ≤ b - 1 → rst a b = rst a (b - 1) ++ [rsy (b - 1)] := by
        intro m
        induction m with
        | zero => intro a p1 p2; rw [rst_nil (a := a) (b := b - 1) (by omega), show a = b - 1 by first | rfl | omega, rst_cons h6 (by omega), rst_nil (by omega)]; rfl
        | succ m ih => intro a p1 p2; rw [rst_cons (a := a) h6 (by omega), rst_cons (a := a) (b := b - 1) (by omega) (by omega), ih (a + 1) (by omega) (by omega)]; rfl
      rw [g _ a rfl (by omega), List.append_assoc]
      rfl
    rw [hh] at r
    exact r
theorem slv_app (u v : List Int) : slv (u ++ v) = slv u + slv v := by unfold slv; rw [c75_app, c76_app]; omega
theorem slv_rst {b : Nat} (hb : b ≤ 6) : ∀ (n a : Nat), b - a = n → slv (rst a b) = 0
  | 0, a, h => by rw [rst_nil (by omega)]; rfl
  | n + 1, a, h => by
    rw [rst_cons hb (by omega), show rsy a :: rst (a + 1) b = [rsy a] ++ rst (a + 1) b from rfl, slv_app, slv_rst hb n (a + 1) (by omega)]
    have e : a = 0 ∨ a = 1 ∨ a = 2 ∨ a = 3 ∨ a = 4 ∨ a = 5 := by omega
    rcases e with e | e | e | e | e | e <;> subst e <;> decide
theorem slv_hdT {o : Int} (h : opq o) : slv (hdT o) = cdq o := by
  unfold opq at h
  unfold hdT cdq
  by_cases c1 : 27 ≤ o ∧ o ≤ 29
  · rw [if_pos c1, if_neg (by omega)]; decide
  · rw [if_neg c1]
    by_cases c2 : o = 25 ∨ o = 26
    · rw [if_pos c2, if_neg (by omega)]; decide
    · rw [if_neg c2]
      by_cases c3 : 19 ≤ o ∧ o ≤ 24
      · rw [if_pos c3, if_neg (by omega)]; decide
      · rw [if_neg c3]
        by_cases c4 : o = 41 ∨ o = 40 ∨ o = 42
        · rw [if_pos c4, if_pos (by omega)]; decide
        · rw [if_neg c4]
          by_cases c5 : o = 30
          · rw [if_pos c5, if_neg (by omega)]; decide
          · rw [if_neg c5]
            by_cases c6 : o = 31
            · rw [if_pos c6, if_neg (by omega)]; decide
            · rw [if_neg c6]
              by_cases c7 : o = 37
              · rw [if_pos c7, if_pos (by omega)]; decide
              · rw [if_neg c7]
                by_cases c8 : o = 15 ∨ o = 16
                · rw [if_pos c8, if_pos (by omega)]; decide
                · rw [if_neg c8, if_pos (by omega)]; decide
theorem slv_T (hq : q ≤ 6) : ∀ {os : List Int}, woq q os → slv (gyT z q os) = slv z + lvs os
  | [], _ => by show slv z = slv z + ((0 : Nat) : Int); omega
  | o :: t, h => by
    rw [gyT_c, slv_app, slv_hdT h.1]
    unfold gyR
    rw [slv_app, slv_rst (rsl_le hq) _ _ rfl, slv_T hq h.2.2]
    show _ = slv z + ((cdq o + lvs t : Nat) : Int)
    omega
theorem slv_R {c : Nat} (hq : q ≤ 6) (h : woq q os) : slv (gyR z q c os) = slv z + lvs os := by
  unfold gyR
  rw [slv_app, slv_rst (rsl_le hq) _ _ rfl, slv_T hq h]
  omega
theorem slv_nt {c : Nat} {S : List Int} : slv (ntq c :: S) = slv S := by
  rw [show ntq c :: S = [ntq c] ++ S from rfl, slv_app]
  have : slv [ntq c] = 0 := by unfold ntq; (repeat' split) <;> decide
  omega
end MB
end
section
/-! Steps of the class's reader as steps of the grammar's machine. -/
section SM
variable {w : Nat → Int} {S z : List Int} {k q c : Nat} {os t : List Int} {o : Int}
theorem ex73_0 {x : Int} (h : x = 1 ∨ x = 2 ∨ x = 12 ∨ x = 13) : ex 73 x = some ([], 1) := by rw [ex_73]; unfold ex73; rw [if_pos h]
theorem ex73_l {x : Int} (h : x = 14 ∨ x = 15) : ex 73 x = some ([76, 61, 74, 37, 75], 1) := by rw [ex_73]; unfold ex73; rw [if_neg (by omega), if_pos h]
theorem ex73_m {x : Int} (h : x = 25) : ex 73 x = some ([73, 75], 1) := by rw [ex_73]; unfold ex73; rw [if_neg (by omega), if_neg (by omega), if_pos h]
theorem ex73_p {x : Int} (h : x = 36) : ex 73 x = some ([61, 37, 75], 1) := by rw [ex_73]; unfold ex73; rw [if_neg (by omega), if_neg (by omega), if_neg (by omega), if_pos h]
theorem ex73_n {x : Int} (h : ¬ (x = 1 ∨ x = 2 ∨ x = 12 ∨ x = 13 ∨ x = 14 ∨ x = 15 ∨ x = 25 ∨ x = 36)) : ex 73 x = none := by rw [ex_73]; unfold ex73; rw [if_neg (by omega), if_neg (by omega), if_neg (by omega), if_neg (by omega)]
/-- down to the tightest -/
theorem rc_73 (hq : q ≤ 6) (h : w k ≠ 31 ∨ rsl q os ≤ 2) : Rc w (gyW z q os) k (73 :: gyR z q 0 os) k := by
  have := rc_desc (w := w) (k := k) (a := 0) _ (rsl q os) rfl (by omega) (rsl_le hq) (by omega) (gyT z q os)
  exact this
theorem slv_73 (hq : q ≤ 6) (hw : woq q os) : slv (73 :: gyR z q 0 os) = slv z + lvs os := by
  have := slv_nt (c := 0) (S := gyR z q 0 os)
  rw [slv_R hq hw] at this
  exact this
theorem sim_val (hq : q ≤ 6) (hx : w k = 1 ∨ w k = 2 ∨ w k = 12 ∨ w k = 13) : Rc w (gyW z q os) k (gyR z q 0 os) (k + 1) :=
  (rc_73 hq (Or.inl (by omega))).trans (Rc.one (mst_n (ys := []) (by decide) (by decide) (ex73_0 hx) (Or.inl (by decide))))
theorem sim_open (hq : q ≤ 6) (hw : woq q os) (hx : w k = 36) (hl : slv z + lvs os < 40) : Rc w (gyW z q os) k (gyW z q (37 :: os)) (k + 1) :=
  (rc_73 hq (Or.inl (by omega))).trans (Rc.one (mst_n (ys := [61, 37, 75]) (by decide) (by decide) (ex73_p hx) (Or.inr (by rw [slv_73 hq hw]; exact hl))))
theorem sim_open_no (hq : q ≤ 6) (hw : woq q os) (hx : w k = 36) (hl : ¬ slv z + lvs os < 40) : Rf w (gyW z q os) k k :=
  (rc_73 hq (Or.inl (by omega))).rf (Rf.of (mst_deep (ys := [61, 37, 75]) (t := 1) (by decide) (by decide) (ex73_p hx) (by decide) (by rw [slv_73 hq hw]; omega)))
theorem sim_neg (hq : q ≤ 6) (hw : woq q os) (hx : w k = 25) (hl : slv z + lvs os < 40) : Rc w (gyW z q os) k (gyW z q (40 :: os)) (k + 1) :=
  (rc_73 hq (Or.inl (by omega))).trans (Rc.one (mst_n (ys := [73, 75]) (by decide) (by decide) (ex73_m hx) (Or.inr (by rw [slv_73 hq hw]; exact hl))))
theorem sim_neg_no (hq : q ≤ 6) (hw : woq q os) (hx : w k = 25) (hl : ¬ slv z + lvs os < 40) : Rf w (gyW z q os) k k :=
  (rc_73 hq (Or.inl (by omega))).rf (Rf.of (mst_deep (ys := [73, 75]) (t := 1) (by decide) (by decide) (ex73_m hx) (by decide) (by rw [slv_73 hq hw]; omega)))
theorem rc_67 (hq : q ≤ 6) (h3 : 3 ≤ rsl q os) : Rc w (gyW z q os) k (67 :: gyR z q 3 os) k := rc_desc (w := w) (k := k) (a := 3) _ (rsl q os) rfl h3 (rsl_le hq) (by omega) (gyT z q os)
theorem slv_67 (hq : q ≤ 6) (hw : woq q os) : slv (67 :: gyR z q 3 os) = slv z + lvs os := by
  have := slv_nt (c := 3) (S := gyR z q 3 os)
  rw [slv_R hq hw] at this
  exact this
theorem ex67_n {x : Int} (h : x = 31) : ex 67 x = some ([67, 75], 1) := by rw [ex_67]; unfold ex67; rw [if_pos h]
theorem sim_not (hq : q ≤ 6) (hw : woq q os) (h3 : 3 ≤ rsl q os) (hx : w k = 31) (hl : slv z + lvs os < 40) : Rc w (gyW z q os) k (gyW z q (41 :: os)) (k + 1) :=
  (rc_67 hq h3).trans (Rc.one (mst_n (ys := [67, 75]) (by decide) (by decide) (ex67_n hx) (Or.inr (by rw [slv_67 hq hw]; exact hl))))
theorem sim_not_no (hq : q ≤ 6) (hw : woq q os) (hx : w k = 31) (hl : ¬ (3 ≤ rsl q os ∧ slv z + lvs os < 40)) : Rf w (gyW z q os) k k := by
  by_cases h3 : 3 ≤ rsl q os
  · exact (rc_67 hq h3).rf (Rf.of (mst_deep (ys := [67, 75]) (t := 1) (by decide) (by decide) (ex67_n hx) (by decide) (by rw [slv_67 hq hw]; omega)))
  · exact (rc_73 hq (Or.inr (by omega))).rf (Rf.of (mst_no (by decide) (by decide) (ex73_n (by omega))))
theorem sim_no (hq : q ≤ 6) (hx : ¬ (w k = 1 ∨ w k = 2 ∨ w k = 12 ∨ w k = 13 ∨ w k = 14 ∨ w k = 15 ∨ w k = 25 ∨ w k = 31 ∨ w k = 36)) : Rf w (gyW z q os) k k :=
  (rc_73 hq (Or.inl (by omega))).rf (Rf.of (mst_no (by decide) (by decide) (ex73_n (by omega))))
theorem rc_76 (hq : q ≤ 6) (hx : w k = 14 ∨ w k = 15) : Rc w (gyW z q os) k (76 :: 61 :: 74 :: 37 :: 75 :: gyR z q 0 os) (k + 1) :=
  (rc_73 hq (Or.inl (by omega))).trans (Rc.one (mst_n (ys := [76, 61, 74, 37, 75]) (by decide) (by decide) (ex73_l hx) (Or.inl (by decide))))
theorem slv_76 (hq : q ≤ 6) (hw : woq q os) : slv (76 :: 61 :: 74 :: 37 :: 75 :: gyR z q 0 os) = slv z + lvs os := by
  have : slv ([76, 61, 74, 37, 75] ++ gyR z q 0 os) = slv [76, 61, 74, 37, 75] + slv (gyR z q 0 os) := slv_app _ _
  rw [slv_R hq hw] at this
  rw [show slv [76, 61, 74, 37, 75] = 0 by decide, Int.zero_add] at this
  exact this
theorem ex76_p {x : Int} (h : x = 36) : ex 76 x = some ([], 1) := by rw [ex_76]; unfold ex76; rw [if_pos h]
theorem ex76_n {x : Int} (h : x ≠ 36) : ex 76 x = none := by rw [ex_76]; unfold ex76; rw [if_neg h]
theorem sim_list {o : Int} (ho : o = 15 ∨ o = 16) (hq : q ≤ 6) (hw : woq q os) (hx : w k = 14 ∨ w k = 15) (h1 : w (k + 1) = 36) (hl : slv z + lvs os < 40) : Rc w (gyW z q os) k (gyW z q (o :: os)) (k + 2) := by
  have e : gyW z q (o :: os) = 61 :: 74 :: 37 :: 75 :: gyR z q 0 os := by rcases ho with e | e <;> subst e <;> rfl
  rw [e]
  exact (rc_76 hq hx).trans (Rc.one (k := k + 1) (mst_n (ys := []) (by decide) (by decide) (ex76_p h1) (Or.inr (by rw [slv_76 hq hw]; exact hl))))
theorem sim_list_no (hq : q ≤ 6) (hw : woq q os) (hx : w k = 14 ∨ w k = 15) (h1 : ¬ (w (k + 1) = 36 ∧ slv z + lvs os < 40)) : Rf w (gyW z q os) k (k + 1) := by
  by_cases h : w (k + 1) = 36
  · exact (rc_76 hq hx).rf (Rf.of (mst_deep (ys := []) (t := 1) (by decide) (by decide) (ex76_p h) (by decide) (by rw [slv_76 hq hw]; omega)))
  · exact (rc_76 hq hx).rf (Rf.of (mst_no (by decide) (by decide) (ex76_n h)))
/-- how strong the operand counts when an operation has been grouped -/
def pst (o : Int) : Nat := if 25 ≤ o ∧ o ≤ 31 then rsq o else cst o
theorem rst_up {a b : Nat} (hb : b ≤ 6) (h : a + 1 ≤ b) : rsy a :: rst (a + 1) b = rst a b := (rst_cons hb (by omega)).symm
theorem gyR_c : gyR z q c (o :: t) = rst c (rsq o) ++ (hdT o ++ gyR z q (cst o) t) := rfl
theorem sim_pop (hq : q ≤ 6) (hw : woq q (o :: t)) (ho : (19 ≤ o ∧ o ≤ 31) ∨ o = 40 ∨ o = 41 ∨ o = 42) (hl : lwx (w k) ≤ c ∨ rsq o < lwx (w k)) : Rc w (gyR z q c (o :: t)) k (gyR z q (pst o) t) k := by
  rw [gyR_c]
  refine (rc_drops (rsq_le o) _ c rfl hl).trans ?_
  obtain ⟨-, h2, -⟩ := hw
  by_cases c1 : 25 ≤ o ∧ o ≤ 31
  · have e : o = 25 ∨ o = 26 ∨ o = 27 ∨ o = 28 ∨ o = 29 ∨ o = 30 ∨ o = 31 := by omega
    have hh : hdT o ++ gyR z q (cst o) t = gyR z q (pst o) t := by
      unfold gyR
      have r := rst_up (a := rsq o) (b := rsl q t) (rsl_le hq) (by
        rcases e with e | e | e | e | e | e | e <;> subst e <;> exact h2)
      rcases e with e | e | e | e | e | e | e <;> subst e <;> exact congrArg (fun u => u ++ gyT z q t) r
    rw [hh]
    exact Rc.refl
  · have ep : pst o = cst o := by unfold pst; rw [if_neg c1]
    rw [ep]
    by_cases c2 : 19 ≤ o ∧ o ≤ 24
    · have : hdT o = [] := by unfold hdT; rw [if_neg (by omega), if_neg (by omega), if_pos c2]
      rw [this]
      exact Rc.refl
    · have : hdT o = [75] := by unfold hdT; rw [if_neg (by omega), if_neg (by omega), if_neg (by omega), if_pos (by omega)]
      rw [this]
      exact Rc.zero mst_75
/-- a sign between two operands -/
theorem sim_sign {x : Int} (hq : q ≤ 6) (hx : w k = x) (h1 : 1 ≤ lwx x) (h5 : lwx x ≤ 5) (hc : c < lwx x) (hr : lwx x ≤ rsl q os) : Rc w (gyR z q c os) k (gyW z q ((x + 1) :: os)) (k + 1) := by
  unfold gyR
  have hb := rsl_le (os := os) hq
  refine (rc_to (c := lwx x - 1) hb (by omega) (by omega) (by rw [hx]; omega)).trans ?_
  rw [rst_cons hb (by omega), show lwx x - 1 + 1 = lwx x by first | rfl | omega]
  have hd : ∀ (l : Nat) (ys : List Int), lwx x = l → l - 1 < 6 → ex (rsy (l - 1)) x = some (ys, 1) → (dlv (rsy (l - 1)) ys ≠ 1) → gyW z q ((x + 1) :: os) = ys ++ (rst l (rsl q os) ++ gyT z q os) → Rc w (rsy (lwx x - 1) :: rst (lwx x) (rsl q os) ++ gyT z q os) k (gyW z q ((x + 1) :: os)) (k + 1) := fun l ys e l6 he hv eg => by
    rw [e, eg]
    refine Rc.one (mst_n ?_ ?_ (by rw [hx]; exact he) (Or.inl hv))
    · unfold rsy; (repeat' split) <;> decide
    · unfold rsy; (repeat' split) <;> decide
  have ul : lwx x = lwx x := rfl
  conv at ul => rhs; unfold lwx
  by_cases c1 : 26 ≤ x ∧ x ≤ 28
  · rw [if_pos c1] at ul
    refine hd 1 [73, 72] ul (by decide) ?_ (by decide) ?_
    · show ex 72 x = _; rw [ex_72]; unfold ex72; rw [if_pos (by omega)]
    · have : x = 26 ∨ x = 27 ∨ x = 28 := by omega
      rcases this with e | e | e <;> subst e <;> rfl
  · rw [if_neg c1] at ul
    by_cases c2 : x = 24 ∨ x = 25
    · rw [if_pos c2] at ul
      refine hd 2 [71, 70] ul (by decide) ?_ (by decide) ?_
      · show ex 70 x = _; rw [ex_70]; unfold ex70; rw [if_pos c2]
      · rcases c2 with e | e <;> subst e <;> rfl
    · rw [if_neg c2] at ul
      by_cases c3 : 18 ≤ x ∧ x ≤ 23
      · rw [if_pos c3] at ul
        refine hd 3 [69] ul (by decide) ?_ (by decide) ?_
        · show ex 68 x = _; rw [ex_68]; unfold ex68; rw [if_pos c3]
        · have : x = 18 ∨ x = 19 ∨ x = 20 ∨ x = 21 ∨ x = 22 ∨ x = 23 := by omega
          rcases this with e | e | e | e | e | e <;> subst e <;> rfl
      · rw [if_neg c3] at ul
        by_cases c4 : x = 29
        · rw [if_pos c4] at ul
          refine hd 4 [67, 66] ul (by decide) ?_ (by decide) ?_
          · show ex 66 x = _; rw [ex_66]; unfold ex66; rw [if_pos c4]
          · subst c4; rfl
        · rw [if_neg c4] at ul
          by_cases c5 : x = 30
          · rw [if_pos c5] at ul
            refine hd 5 [65, 64] ul (by decide) ?_ (by decide) ?_
            · show ex 64 x = _; rw [ex_64]; unfold ex64; rw [if_pos c5]
            · subst c5; rfl
          · rw [if_neg c5] at ul
            split at ul <;> omega
theorem slv_62 (hq : q ≤ 6) (hw : woq q os) : slv (62 :: gyT z q os) = slv z + lvs os := by
  rw [show (62 : Int) :: gyT z q os = [62] ++ gyT z q os from rfl, slv_app, slv_T hq hw, show slv [62] = 0 by decide]
  omega
theorem rc_62 (h6 : rsl q os = 6) (hx : w k = 32) (hc : c ≤ 5) : Rc w (gyR z q c os) k (62 :: gyT z q os) k := by
  unfold gyR
  rw [h6]
  exact rc_to (b := 6) (c := 5) (by decide) hc (by decide) (Or.inr (by rw [hx]; decide))
theorem ex62_a {x : Int} (h : x = 32) : ex 62 x = some ([61, 33, 61, 75], 1) := by rw [ex_62]; unfold ex62; rw [if_pos h]
theorem sim_ask (hq : q ≤ 6) (hw : woq q os) (h6 : rsl q os = 6) (hx : w k = 32) (hc : c ≤ 5) (hl : slv z + lvs os < 40) : Rc w (gyR z q c os) k (gyW z q (33 :: os)) (k + 1) := by
  have e : gyW z q (33 :: os) = [61, 33, 61, 75] ++ gyT z q os := by
    show (61 : Int) :: ([33, 61, 75] ++ (rst 6 (rsl q os) ++ gyT z q os)) = _
    rw [h6]
    rfl
  rw [e]
  exact (rc_62 h6 hx hc).trans (Rc.one (mst_n (by decide) (by decide) (ex62_a hx) (Or.inr (by rw [slv_62 hq hw]; exact hl))))
theorem sim_ask_no (hq : q ≤ 6) (hw : woq q os) (h6 : rsl q os = 6) (hx : w k = 32) (hc : c ≤ 5) (hl : ¬ slv z + lvs os < 40) : Rf w (gyR z q c os) k k :=
  (rc_62 h6 hx hc).rf (Rf.of (mst_deep (t := 1) (by decide) (by decide) (ex62_a hx) (by decide) (by rw [slv_62 hq hw]; omega)))
/-- no sign goes on: all rests go -/
theorem sim_end (hq : q ≤ 6) (hl : lwx (w k) ≤ c ∨ rsl q os < lwx (w k)) : Rc w (gyR z q c os) k (gyT z q os) k := rc_drops (rsl_le hq) _ c rfl hl
theorem sim_close {o : Int} (ho : o = 37 ∨ o = 15 ∨ o = 16) (hx : w k = 37) : Rc w (gyT z q (o :: t)) k (gyR z q 0 t) (k + 1) := by
  have a37 : Rc w (37 :: 75 :: gyR z q 0 t) k (gyR z q 0 t) (k + 1) := (Rc.one (mst_t (by decide) hx.symm)).trans (Rc.zero (k := k + 1) mst_75)
  rcases ho with e | e | e <;> subst e
  · exact a37
  · exact (Rc.zero (mst_n (y := 74) (ys := []) (by decide) (by decide) (by rw [ex_74]; unfold ex74; rw [if_neg (by omega)]) (Or.inl (by decide)))).trans a37
  · exact (Rc.zero (mst_n (y := 74) (ys := []) (by decide) (by decide) (by rw [ex_74]; unfold ex74; rw [if_neg (by omega)]) (Or.inl (by decide)))).trans a37
theorem sim_comma {o : Int} (ho : o = 15 ∨ o = 16) (hx : w k = 35) : Rc w (gyT z q (o :: t)) k (gyW z q (o :: t)) (k + 1) := by
  rcases ho with e | e <;> subst e
  · exact Rc.one (mst_n (y := 74) (ys := [61, 74]) (by decide) (by decide) (by rw [ex_74]; unfold ex74; rw [if_pos hx]) (Or.inl (by decide)))
  · exact Rc.one (mst_n (y := 74) (ys := [61, 74]) (by decide) (by decide) (by rw [ex_74]; unfold ex74; rw [if_pos hx]) (Or.inl (by decide)))
theorem sim_colon (hx : w k = 33) : Rc w (gyT z q (33 :: t)) k (gyW z q (42 :: t)) (k + 1) := Rc.one (mst_t (y := 33) (by decide) hx.symm)
theorem sim_close_no {o : Int} (ho : o = 37 ∨ o = 15 ∨ o = 16 ∨ o = 33) (h1 : o = 37 → w k ≠ 37) (h2 : o = 15 ∨ o = 16 → w k ≠ 37 ∧ w k ≠ 35) (h3 : o = 33 → w k ≠ 33) : Rf w (gyT z q (o :: t)) k k := by
  rcases ho with e | e | e | e
  · subst e
    exact Rf.of (mst_tn (y := 37) (by decide) (fun c => h1 rfl c.symm))
  · have h := h2 (Or.inl e)
    subst e
    exact (Rc.zero (mst_n (y := 74) (ys := []) (by decide) (by decide) (by rw [ex_74]; unfold ex74; rw [if_neg h.2]) (Or.inl (by decide)))).rf (Rf.of (mst_tn (y := 37) (by decide) (fun c => h.1 c.symm)))
  · have h := h2 (Or.inr e)
    subst e
    exact (Rc.zero (mst_n (y := 74) (ys := []) (by decide) (by decide) (by rw [ex_74]; unfold ex74; rw [if_neg h.2]) (Or.inl (by decide)))).rf (Rf.of (mst_tn (y := 37) (by decide) (fun c => h.1 c.symm)))
  · subst e
    exact Rf.of (mst_tn (y := 33) (by decide) (fun c => h3 rfl c.symm))
/-- a second comparison is refused wherever it stands -/
theorem sim_dead (hq : q ≤ 6) (hx : lwx (w k) = 3) (hz : Rf w z k k) : ∀ {os : List Int} {c : Nat}, woq q os → 3 ≤ c → c ≤ rsl q os → Rf w (gyR z q c os) k k
  | [], c, _, h3, hc => (sim_end (os := []) hq (Or.inl (by omega))).rf hz
  | o :: t, c, hw, h3, hc => by
    have hc : c ≤ rsq o := hc
    have hb := (sim_end (z := z) (os := o :: t) (w := w) (k := k) (c := c) hq (Or.inl (by omega)))
    have hx35 : w k ≠ 35 ∧ w k ≠ 37 ∧ w k ≠ 33 := by
      unfold lwx at hx
      refine ⟨?_, ?_, ?_⟩ <;> intro e <;> rw [e] at hx <;> exact absurd hx (by decide)
    obtain ⟨h1, h2, hw'⟩ := hw
    by_cases d1 : o = 37 ∨ o = 15 ∨ o = 16 ∨ o = 33
    · exact hb.rf (sim_close_no d1 (fun _ => hx35.2.1) (fun _ => ⟨hx35.2.1, hx35.1⟩) (fun _ => hx35.2.2))
    · have e : o = 41 ∨ o = 42 ∨ o = 30 ∨ o = 31 := by
        unfold opq at h1
        unfold rsq at hc
        (repeat' split at hc) <;> omega
      refine hb.rf ?_
      rcases e with e | e | e | e <;> subst e
      · exact (Rc.zero (st := 75 :: gyR z q 3 t) mst_75).rf (sim_dead hq hx hz hw' (by decide) h2)
      · exact (Rc.zero (st := 75 :: gyR z q 6 t) mst_75).rf (sim_dead hq hx hz hw' (by decide) h2)
      · exact (rc_drop (S := gyR z q 4 t) (c := 3) (by decide) (by omega)).rf (sim_dead hq hx hz hw' (by decide) h2)
      · exact (rc_drop (S := gyR z q 5 t) (c := 4) (by decide) (by omega)).rf (sim_dead hq hx hz hw' (by decide) h2)
end SM
end
section
/-! What a rule means: kinds, faults, orders, told by the words from i to j - 1. -/
section SE
variable {w : Nat → Int} {i j l m : Nat}
/-- behind a '?': where its ':' stands, seen from i on -/
def cl1 (w : Nat → Int) (i : Nat) : Nat → Nat → Nat
  | 0, m => m
  | f + 1, m => if dp w i m = 0 ∧ aq w i m = 0 ∧ w (i + m) = 33 then m else cl1 w i f (m + 1)
theorem cl1_b : ∀ f m, m ≤ cl1 w i f m ∧ cl1 w i f m ≤ m + f
  | 0, m => ⟨Nat.le_refl _, Nat.le_refl _⟩
  | f + 1, m => by
    have := cl1_b f (m + 1)
    unfold cl1
    split <;> omega
theorem cl1_at (b : Bl w i l) (h : w (i + l) = 33) : ∀ f m, m ≤ l → l ≤ m + f → cl1 w i f m = l
  | 0, m, h1, h2 => by show m = l; omega
  | f + 1, m, h1, h2 => by
    unfold cl1
    by_cases e : m = l
    · rw [if_pos ⟨by rw [e]; exact b.1, by rw [e]; exact b.2.1, by rw [e]; exact h⟩]; exact e
    · rw [if_neg (fun q => (b.2.2.2 m (by omega)).2 q.1 q.2.1 q.2.2)]
      exact cl1_at b h f (m + 1) (by omega) (by omega)
def clq (w : Nat → Int) (m j : Nat) : Nat := (m + 1) + cl1 w (m + 1) (j - (m + 1)) 0
theorem clq_b : m + 1 ≤ clq w m j ∧ clq w m j ≤ (m + 1) + (j - (m + 1)) := by
  have := cl1_b (w := w) (i := m + 1) (j - (m + 1)) 0
  unfold clq
  omega
theorem clq_at {q : Nat} (hm : m + 1 ≤ q) (hq : q < j) (b : Bl w (m + 1) (q - (m + 1))) (h : w q = 33) : clq w m j = q := by
  unfold clq
  rw [cl1_at b (by rw [show m + 1 + (q - (m + 1)) = q by first | rfl | omega]; exact h) _ _ (by omega) (by omega)]
  omega
/-- the last comma outside parentheses: 0 if there is none, else one more than its distance -/
def lcq (w : Nat → Int) (i : Nat) : Nat → Nat
  | 0 => 0
  | l + 1 => if dp w i l = 0 ∧ w (i + l) = 35 then l + 1 else lcq w i l
theorem lcq_le : ∀ l, lcq w i l ≤ l
  | 0 => Nat.le_refl _
  | l + 1 => by
    have := lcq_le l
    unfold lcq
    split <;> omega
theorem lcq_0 : ∀ l, Nx w 35 i l → lcq w i l = 0
  | 0, _ => rfl
  | l + 1, h => by
    unfold lcq
    rw [if_neg (fun q => h l (by omega) q.1 q.2)]
    exact lcq_0 l (fun m hm q => h m (by omega) q)
theorem lcq_at {p : Nat} (hp : dp w i p = 0) (h : w (i + p) = 35) : ∀ n, (∀ m, p < m → m < p + 1 + n → dp w i m = 0 → w (i + m) ≠ 35) → lcq w i (p + 1 + n) = p + 1
  | 0, _ => by show (if dp w i p = 0 ∧ w (i + p) = 35 then p + 1 else lcq w i p) = p + 1; rw [if_pos ⟨hp, h⟩]
  | n + 1, hn => by
    show (if dp w i (p + 1 + n) = 0 ∧ w (i + (p + 1 + n)) = 35 then p + 1 + n + 1 else lcq w i (p + 1 + n)) = p + 1
    rw [if_neg (fun q => hn (p + 1 + n) (by omega) (by omega) q.1 q.2)]
    exact lcq_at hp h n (fun m a b => hn m a (by omega))
/-- the loosest, as a place within -/
def loq (w : Nat → Int) (i j : Nat) : Nat := (lo w i j).toNat
def lin (w : Nat → Int) (i j : Nat) : Prop := 0 ≤ lo w i j ∧ i ≤ loq w i j ∧ loq w i j < j
/-- a sign between two operands that answers a truth -/
def tru (x : Int) : Prop := (18 ≤ x ∧ x ≤ 23) ∨ x = 29 ∨ x = 30
end SE
/-- the kind: 1 a truth, 0 a number; c = 1: of a list (1 if one of them is a truth) -/
noncomputable def kdq (w E : Nat → Int) (c i j : Nat) : Int :=
  haveI := Classical.propDecidable (lin w i j)
  haveI := Classical.propDecidable (tru (w (loq w i j)))
  if hij : i < j then
    if hc : c = 1 then
      if hp : lcq w i (j - i) = 0 then kdq w E 0 i j
      else if kdq w E 1 i (i + lcq w i (j - i) - 1) = 1 ∨ kdq w E 0 (i + lcq w i (j - i)) j = 1 then 1 else 0
    else if hm : lin w i j then
      if w (loq w i j) = 32 then kdq w E 0 (clq w (loq w i j) j + 1) j
      else if tru (w (loq w i j)) then 1 else 0
    else if w i = 36 then kdq w E 0 (i + 1) (j - 1)
    else if w i = 31 ∨ w i = 12 ∨ w i = 13 then 1
    else if w i = 1 ∧ E i = 1 then 1 else 0
  else 0
termination_by 2 * (j - i) + c
decreasing_by
  all_goals simp_wf
  all_goals have a1 := lcq_le (w := w) (i := i) (j - i)
  all_goals have a2 := clq_b (w := w) (m := loq w i j) (j := j)
  all_goals first | omega | (have a3 := hm.2; omega)
/-- the first of two faults -/
def fst9 (a b : Int × Int) : Int × Int := if a.1 = 0 then b else a
/-- a fault of kinds, if they don't fit -/
noncomputable def kft (p : Prop) (x : Int) : Int × Int := haveI := Classical.propDecidable p; if p then (0, 0) else (3, x)
/-- which kinds fit a sign -/
def okq (x a b : Int) : Prop := if x = 29 ∨ x = 30 then a = 1 ∧ b = 1 else if x = 23 ∨ x = 18 then a = b else a = 0 ∧ b = 0
/-- the first fault of kinds and names, in the order of reading; (0, 0): none -/
noncomputable def fl (w E pl : Nat → Int) (c i j : Nat) : Int × Int :=
  haveI := Classical.propDecidable (lin w i j)
  if hij : i < j then
    if hc : c = 1 then
      if hp : lcq w i (j - i) = 0 then fl w E pl 0 i j
      else fst9 (fl w E pl 1 i (i + lcq w i (j - i) - 1)) (fl w E pl 0 (i + lcq w i (j - i)) j)
    else if hm : lin w i j then
      if w (loq w i j) = 32 then fst9 (fst9 (fst9 (fl w E pl 0 i (loq w i j)) (fl w E pl 0 (loq w i j + 1) (clq w (loq w i j) j))) (fl w E pl 0 (clq w (loq w i j) j + 1) j)) (kft (kdq w E 0 i (loq w i j) = 1 ∧ kdq w E 0 (loq w i j + 1) (clq w (loq w i j) j) = kdq w E 0 (clq w (loq w i j) j + 1) j) (pl (loq w i j)))
      else fst9 (fst9 (fl w E pl 0 i (loq w i j)) (fl w E pl 0 (loq w i j + 1) j)) (kft (okq (w (loq w i j)) (kdq w E 0 i (loq w i j)) (kdq w E 0 (loq w i j + 1) j)) (pl (loq w i j)))
    else if w i = 36 then fl w E pl 0 (i + 1) (j - 1)
    else if w i = 25 then fst9 (fl w E pl 0 (i + 1) j) (kft (kdq w E 0 (i + 1) j = 0) (pl i))
    else if w i = 31 then fst9 (fl w E pl 0 (i + 1) j) (kft (kdq w E 0 (i + 1) j = 1) (pl i))
    else if w i = 14 ∨ w i = 15 then fst9 (fl w E pl 1 (i + 2) (j - 1)) (kft (kdq w E 1 (i + 2) (j - 1) = 0) (pl i))
    else if w i = 1 ∧ E i = -1 then (2, pl i) else (0, 0)
  else (0, 0)
termination_by 2 * (j - i) + c
decreasing_by
  all_goals simp_wf
  all_goals have a1 := lcq_le (w := w) (i := i) (j - i)
  all_goals have a2 := clq_b (w := w) (m := loq w i j) (j := j)
  all_goals first | omega | (have a3 := hm.2; omega)
/-- the orders of a rule lie from s to e - 1; c: 0 a rule, 1 a list with the order x (place y) -/
def Cd (w : Nat → Int) (ec : Nat → Int × Int) (pl O P : Nat → Int) (c : Nat) (x y : Int) (i j s e : Nat) : Prop :=
  haveI := Classical.propDecidable (lin w i j)
  if hij : i < j then
    if hc : c = 1 then
      if hp : lcq w i (j - i) = 0 then Cd w ec pl O P 0 0 0 i j s e
      else ∃ a b, Cd w ec pl O P 1 x y i (i + lcq w i (j - i) - 1) s a ∧ Cd w ec pl O P 0 0 0 (i + lcq w i (j - i)) j a b ∧ e = b + 1 ∧ O b = x ∧ P b = y
    else if hm : lin w i j then
      if w (loq w i j) = 32 then ∃ a b : Nat, Cd w ec pl O P 0 0 0 i (loq w i j) s a ∧ O a = 33 ∧ P a = (b : Int) + 1 ∧ Cd w ec pl O P 0 0 0 (loq w i j + 1) (clq w (loq w i j) j) (a + 1) b ∧ O b = 42 ∧ P b = e ∧ Cd w ec pl O P 0 0 0 (clq w (loq w i j) j + 1) j (b + 1) e
      else if w (loq w i j) = 29 ∨ w (loq w i j) = 30 then ∃ a, Cd w ec pl O P 0 0 0 i (loq w i j) s a ∧ O a = w (loq w i j) + 1 ∧ P a = e ∧ Cd w ec pl O P 0 0 0 (loq w i j + 1) j (a + 1) e
      else ∃ a b, Cd w ec pl O P 0 0 0 i (loq w i j) s a ∧ Cd w ec pl O P 0 0 0 (loq w i j + 1) j a b ∧ e = b + 1 ∧ O b = w (loq w i j) + 1 ∧ P b = pl (loq w i j)
    else if w i = 36 then Cd w ec pl O P 0 0 0 (i + 1) (j - 1) s e
    else if w i = 25 ∨ w i = 31 then ∃ b, Cd w ec pl O P 0 0 0 (i + 1) j s b ∧ e = b + 1 ∧ O b = (if w i = 25 then 40 else 41) ∧ P b = pl i
    else if w i = 14 ∨ w i = 15 then Cd w ec pl O P 1 (w i + 1) (pl i) (i + 2) (j - 1) s e
    else e = s + 1 ∧ O s = (ec i).1 ∧ P s = (ec i).2
  else False
termination_by 2 * (j - i) + c
decreasing_by
  all_goals simp_wf
  all_goals have a1 := lcq_le (w := w) (i := i) (j - i)
  all_goals have a2 := clq_b (w := w) (m := loq w i j) (j := j)
  all_goals first | omega | (have a3 := hm.2; omega)
section SF
variable {w E pl O P : Nat → Int} {ec : Nat → Int × Int} {i j m s e : Nat} {x y : Int}
theorem lin_of (h : lo w i j = (m : Int)) (h1 : i ≤ m) (h2 : m < j) : lin w i j ∧ loq w i j = m := by
  have : loq w i j = m := by unfold loq; rw [h]; rfl
  exact ⟨⟨by rw [h]; omega, by rw [this]; exact h1, by rw [this]; exact h2⟩, this⟩
theorem lin_no (h : lo w i j = -1) : ¬ lin w i j := fun q => by have := q.1; omega
/-! kinds -/
theorem kd_bin (h : lo w i j = (m : Int)) (h1 : i ≤ m) (h2 : m < j) (h3 : w m ≠ 32) : kdq w E 0 i j = haveI := Classical.propDecidable (tru (w m)); if tru (w m) then 1 else 0 := by
  obtain ⟨a, b⟩ := lin_of h h1 h2
  rw [kdq, dif_pos (by omega), dif_neg (by decide), dif_pos a, b, if_neg h3]
theorem kd_ask {q : Nat} (h : lo w i j = (m : Int)) (h1 : i ≤ m) (h2 : m < j) (h3 : w m = 32) (hq : clq w m j = q) : kdq w E 0 i j = kdq w E 0 (q + 1) j := by
  obtain ⟨a, b⟩ := lin_of h h1 h2
  rw [kdq, dif_pos (by omega), dif_neg (by decide), dif_pos a, b, if_pos h3, hq]
theorem kd_par (h : lo w i j = -1) (hij : i < j) (h3 : w i = 36) : kdq w E 0 i j = kdq w E 0 (i + 1) (j - 1) := by
  rw [kdq, dif_pos hij, dif_neg (by decide), dif_neg (lin_no h), if_pos h3]
theorem kd_tru (h : lo w i j = -1) (hij : i < j) (h3 : w i = 31 ∨ w i = 12 ∨ w i = 13) : kdq w E 0 i j = 1 := by
  rw [kdq, dif_pos hij, dif_neg (by decide), dif_neg (lin_no h), if_neg (by omega), if_pos h3]
theorem kd_num (h : lo w i j = -1) (hij : i < j) (h3 : w i = 25 ∨ w i = 2 ∨ w i = 14 ∨ w i = 15) : kdq w E 0 i j = 0 := by
  rw [kdq, dif_pos hij, dif_neg (by decide), dif_neg (lin_no h), if_neg (by omega), if_neg (by omega), if_neg (by omega)]
theorem kd_nam (h : lo w i j = -1) (hij : i < j) (h3 : w i = 1) : kdq w E 0 i j = if E i = 1 then 1 else 0 := by
  rw [kdq, dif_pos hij, dif_neg (by decide), dif_neg (lin_no h), if_neg (by omega), if_neg (by omega)]
  by_cases c : E i = 1
  · rw [if_pos ⟨h3, c⟩, if_pos c]
  · rw [if_neg (fun q => c q.2), if_neg c]
theorem kd_l1 (hij : i < j) (h : lcq w i (j - i) = 0) : kdq w E 1 i j = kdq w E 0 i j := by
  rw [kdq, dif_pos hij, dif_pos rfl, dif_pos h]
theorem kd_ln (hij : i < j) (h : lcq w i (j - i) = m - i + 1) (hm : i ≤ m) : kdq w E 1 i j = if kdq w E 1 i m = 1 ∨ kdq w E 0 (m + 1) j = 1 then 1 else 0 := by
  rw [kdq, dif_pos hij, dif_pos rfl, dif_neg (by omega), h, show i + (m - i + 1) - 1 = m by first | rfl | omega, show i + (m - i + 1) = m + 1 by first | rfl | omega]
/-! faults -/
theorem fl_bin (h : lo w i j = (m : Int)) (h1 : i ≤ m) (h2 : m < j) (h3 : w m ≠ 32) : fl w E pl 0 i j = fst9 (fst9 (fl w E pl 0 i m) (fl w E pl 0 (m + 1) j)) (kft (okq (w m) (kdq w E 0 i m) (kdq w E 0 (m + 1) j)) (pl m)) := by
  obtain ⟨a, b⟩ := lin_of h h1 h2
  rw [fl, dif_pos (by omega), dif_neg (by decide), dif_pos a, b, if_neg h3]
theorem fl_ask {q : Nat} (h : lo w i j = (m : Int)) (h1 : i ≤ m) (h2 : m < j) (h3 : w m = 32) (hq : clq w m j = q) : fl w E pl 0 i j = fst9 (fst9 (fst9 (fl w E pl 0 i m) (fl w E pl 0 (m + 1) q)) (fl w E pl 0 (q + 1) j)) (kft (kdq w E 0 i m = 1 ∧ kdq w E 0 (m + 1) q = kdq w E 0 (q + 1) j) (pl m)) := by
  obtain ⟨a, b⟩ := lin_of h h1 h2
  rw [fl, dif_pos (by omega), dif_neg (by decide), dif_pos a, b, if_pos h3, hq]
theorem fl_par (h : lo w i j = -1) (hij : i < j) (h3 : w i = 36) : fl w E pl 0 i j = fl w E pl 0 (i + 1) (j - 1) := by
  rw [fl, dif_pos hij, dif_neg (by decide), dif_neg (lin_no h), if_pos h3]
theorem fl_neg (h : lo w i j = -1) (hij : i < j) (h3 : w i = 25) : fl w E pl 0 i j = fst9 (fl w E pl 0 (i + 1) j) (kft (kdq w E 0 (i + 1) j = 0) (pl i)) := by
  rw [fl, dif_pos hij, dif_neg (by decide), dif_neg (lin_no h), if_neg (by omega), if_pos h3]
theorem fl_not (h : lo w i j = -1) (hij : i < j) (h3 : w i = 31) : fl w E pl 0 i j = fst9 (fl w E pl 0 (i + 1) j) (kft (kdq w E 0 (i + 1) j = 1) (pl i)) := by
  rw [fl, dif_pos hij, dif_neg (by decide), dif_neg (lin_no h), if_neg (by omega), if_neg (by omega), if_pos h3]
theorem fl_lst (h : lo w i j = -1) (hij : i < j) (h3 : w i = 14 ∨ w i = 15) : fl w E pl 0 i j = fst9 (fl w E pl 1 (i + 2) (j - 1)) (kft (kdq w E 1 (i + 2) (j - 1) = 0) (pl i)) := by
  rw [fl, dif_pos hij, dif_neg (by decide), dif_neg (lin_no h), if_neg (by omega), if_neg (by omega), if_neg (by omega), if_pos h3]
theorem fl_leaf (h : lo w i j = -1) (hij : i < j) (h3 : w i = 1 ∨ w i = 2 ∨ w i = 12 ∨ w i = 13) : fl w E pl 0 i j = if w i = 1 ∧ E i = -1 then (2, pl i) else (0, 0) := by
  rw [fl, dif_pos hij, dif_neg (by decide), dif_neg (lin_no h), if_neg (by omega), if_neg (by omega), if_neg (by omega), if_neg (by omega)]
theorem fl_l1 (hij : i < j) (h : lcq w i (j - i) = 0) : fl w E pl 1 i j = fl w E pl 0 i j := by
  rw [fl, dif_pos hij, dif_pos rfl, dif_pos h]
theorem fl_ln (hij : i < j) (h : lcq w i (j - i) = m - i + 1) (hm : i ≤ m) : fl w E pl 1 i j = fst9 (fl w E pl 1 i m) (fl w E pl 0 (m + 1) j) := by
  rw [fl, dif_pos hij, dif_pos rfl, dif_neg (by omega), h, show i + (m - i + 1) - 1 = m by first | rfl | omega, show i + (m - i + 1) = m + 1 by first | rfl | omega]
/-! orders -/
theorem Cd_bin (h : lo w i j = (m : Int)) (h1 : i ≤ m) (h2 : m < j) (h3 : w m ≠ 32) (h4 : w m ≠ 29) (h5 : w m ≠ 30) : Cd w ec pl O P 0 x y i j s e ↔ ∃ a b, Cd w ec pl O P 0 0 0 i m s a ∧ Cd w ec pl O P 0 0 0 (m + 1) j a b ∧ e = b + 1 ∧ O b = w m + 1 ∧ P b = pl m := by
  obtain ⟨a, b⟩ := lin_of h h1 h2
  rw [Cd, dif_pos (by omega), dif_neg (by decide), dif_pos a, b, if_neg h3, if_neg (by omega)]
theorem Cd_jmp (h : lo w i j = (m : Int)) (h1 : i ≤ m) (h2 : m < j) (h3 : w m = 29 ∨ w m = 30) : Cd w ec pl O P 0 x y i j s e ↔ ∃ a, Cd w ec pl O P 0 0 0 i m s a ∧ O a = w m + 1 ∧ P a = e ∧ Cd w ec pl O P 0 0 0 (m + 1) j (a + 1) e := by
  obtain ⟨a, b⟩ := lin_of h h1 h2
  rw [Cd, dif_pos (by omega), dif_neg (by decide), dif_pos a, b, if_neg (by omega), if_pos h3]
theorem Cd_ask {q : Nat} (h : lo w i j = (m : Int)) (h1 : i ≤ m) (h2 : m < j) (h3 : w m = 32) (hq : clq w m j = q) : Cd w ec pl O P 0 x y i j s e ↔ ∃ a b : Nat, Cd w ec pl O P 0 0 0 i m s a ∧ O a = 33 ∧ P a = (b : Int) + 1 ∧ Cd w ec pl O P 0 0 0 (m + 1) q (a + 1) b ∧ O b = 42 ∧ P b = e ∧ Cd w ec pl O P 0 0 0 (q + 1) j (b + 1) e := by
  obtain ⟨a, b⟩ := lin_of h h1 h2
  rw [Cd, dif_pos (by omega), dif_neg (by decide), dif_pos a, b, if_pos h3, hq]
theorem Cd_par (h : lo w i j = -1) (hij : i < j) (h3 : w i = 36) : Cd w ec pl O P 0 x y i j s e ↔ Cd w ec pl O P 0 0 0 (i + 1) (j - 1) s e := by
  rw [Cd, dif_pos hij, dif_neg (by decide), dif_neg (lin_no h), if_pos h3]
theorem Cd_pre (h : lo w i j = -1) (hij : i < j) (h3 : w i = 25 ∨ w i = 31) : Cd w ec pl O P 0 x y i j s e ↔ ∃ b, Cd w ec pl O P 0 0 0 (i + 1) j s b ∧ e = b + 1 ∧ O b = (if w i = 25 then 40 else 41) ∧ P b = pl i := by
  rw [Cd, dif_pos hij, dif_neg (by decide), dif_neg (lin_no h), if_neg (by omega), if_pos h3]
theorem Cd_lst (h : lo w i j = -1) (hij : i < j) (h3 : w i = 14 ∨ w i = 15) : Cd w ec pl O P 0 x y i j s e ↔ Cd w ec pl O P 1 (w i + 1) (pl i) (i + 2) (j - 1) s e := by
  rw [Cd, dif_pos hij, dif_neg (by decide), dif_neg (lin_no h), if_neg (by omega), if_neg (by omega), if_pos h3]
theorem Cd_leaf (h : lo w i j = -1) (hij : i < j) (h3 : w i = 1 ∨ w i = 2 ∨ w i = 12 ∨ w i = 13) : Cd w ec pl O P 0 x y i j s e ↔ e = s + 1 ∧ O s = (ec i).1 ∧ P s = (ec i).2 := by
  rw [Cd, dif_pos hij, dif_neg (by decide), dif_neg (lin_no h), if_neg (by omega), if_neg (by omega), if_neg (by omega)]
theorem Cd_l1 (hij : i < j) (h : lcq w i (j - i) = 0) : Cd w ec pl O P 1 x y i j s e ↔ Cd w ec pl O P 0 0 0 i j s e := by
  rw [Cd, dif_pos hij, dif_pos rfl, dif_pos h]
theorem Cd_ln (hij : i < j) (h : lcq w i (j - i) = m - i + 1) (hm : i ≤ m) : Cd w ec pl O P 1 x y i j s e ↔ ∃ a b, Cd w ec pl O P 1 x y i m s a ∧ Cd w ec pl O P 0 0 0 (m + 1) j a b ∧ e = b + 1 ∧ O b = x ∧ P b = y := by
  rw [Cd, dif_pos hij, dif_pos rfl, dif_neg (by omega), h, show i + (m - i + 1) - 1 = m by first | rfl | omega, show i + (m - i + 1) = m + 1 by first | rfl | omega]
end SF
end
section
/-! The class's reader: what its open operations and its operands stand for. -/
theorem fst9_a (a b c : Int × Int) : fst9 (fst9 a b) c = fst9 a (fst9 b c) := by
  unfold fst9
  by_cases h : a.1 = 0
  · rw [if_pos h, if_pos h]
  · rw [if_neg h, if_neg h, if_neg h]
theorem fst9_0 (b : Int × Int) : fst9 (0, 0) b = b := if_pos rfl
section OQ
variable {w E pl O P O' P' : Nat → Int} {ec : Nat → Int × Int} {i j m s e : Nat} {x y : Int}
theorem Eo.le {c c' : Nat} (h : Eo w c i j) (hc : c ≤ c') (h6 : c' ≤ 6) : Eo w c' i j := by
  have : ∀ n c, c + n ≤ 6 → Eo w c i j → Eo w (c + n) i j := by
    intro n
    induction n with
    | zero => intro c _ q; exact q
    | succ n ih => intro c q1 q2; exact Eo.one (c := c + n) (by omega) (ih c (by omega) q2)
  have r := this (c' - c) c (by omega) h
  rw [show c + (c' - c) = c' by first | rfl | omega] at r
  exact r
theorem lo_ask (p5 : Pr w 5 i m) (h1 : w m = 32) (hj : m < j) : lo w i j = (m : Int) := by
  have em : i + (m - i) = m := by have := p5.1; omega
  have hb : bh w i (j - i) = ((m : Int), 6) := by
    have hm1 := p5.1
    rw [show j - i = (m - i) + 1 + (j - (m + 1)) by first | rfl | omega]
    have hm0 : ll w i (m - i) = 6 := by
      unfold ll
      rw [if_pos p5.2.2.2.2.1.1, em, lz_32 h1]
    have k := bh_max (w := w) (i := i) (a := m - i) (c := 6) (by omega) (fun k hk => by have := lb_ll p5.2.2.2.2.2.2 hk; omega) hm0 (j - (m + 1)) (fun k k1 k2 => ⟨by unfold ll; have := lz_le (w := w) (i := i) (k := i + k); split <;> omega, fun z => by omega⟩) (fun z k hk => by have := lb_ll p5.2.2.2.2.2.2 hk; omega)
    rw [em] at k
    exact k
  unfold lo
  rw [hb, if_neg]
  show ¬ (w i = 31 ∧ 6 < 4)
  omega
/-- how strong an operand may stand before an operation -/
def lsq (o : Int) : Nat := if 27 ≤ o ∧ o ≤ 29 then 1 else if 19 ≤ o ∧ o ≤ 26 then 2 else if o = 30 then 4 else 5
/-- two operands joined -/
theorem lo_bin {o : Int} {b a : Nat} (h1 : Eo w (lsq o) b m) (h2 : Eo w (rsq o) (m + 1) a) (hw : w m = o - 1) (ho : 19 ≤ o ∧ o ≤ 31) : lo w b a = (m : Int) ∧ Eo w (cst o) b a := by
  have p1 := h1.pr
  have p2 := h2.pr
  by_cases c1 : 27 ≤ o ∧ o ≤ 29
  · have e1 : lsq o = 1 := if_pos c1
    have e2 : rsq o = 0 := if_pos (Or.inr c1)
    have e3 : cst o = 1 := if_pos c1
    rw [e1] at h1 p1
    rw [e2] at h2 p2
    rw [e3]
    exact ⟨lo_op (c := 1) p1 p2 (by omega) (by omega) (by omega) (fun _ => by omega) (fun _ => by omega) (by omega) (lz_26 (by omega)) (fun q => absurd q (p1.2.2.1 (by omega))), eo1 (by omega) h1 h2⟩
  · by_cases c2 : o = 25 ∨ o = 26
    · have e1 : lsq o = 2 := by unfold lsq; rw [if_neg c1, if_pos (by omega)]
      have e2 : rsq o = 1 := by unfold rsq; rw [if_neg (by omega), if_pos c2]
      have e3 : cst o = 2 := by unfold cst; rw [if_neg c1, if_pos c2]
      rw [e1] at h1 p1
      rw [e2] at h2 p2
      rw [e3]
      exact ⟨lo_op (c := 2) p1 p2 (by omega) (by omega) (by omega) (fun _ => by omega) (fun _ => by omega) (by omega) (lz_24 (by omega) p1.1 p1.2.2.2.1) (fun q => absurd q (p1.2.2.1 (by omega))), eo2 (by omega) h1 h2⟩
    · by_cases c3 : 19 ≤ o ∧ o ≤ 24
      · have e1 : lsq o = 2 := by unfold lsq; rw [if_neg c1, if_pos (by omega)]
        have e2 : rsq o = 2 := by unfold rsq; rw [if_neg (by omega), if_neg c2, if_pos c3]
        have e3 : cst o = 3 := by unfold cst; rw [if_neg c1, if_neg c2, if_pos (Or.inl c3)]
        rw [e1] at h1 p1
        rw [e2] at h2 p2
        rw [e3]
        exact ⟨lo_op (c := 3) p1 p2 (by omega) (by omega) (by omega) (fun _ => by omega) (fun _ => by omega) (by omega) (lz_18 (by omega)) (fun q => absurd q (p1.2.2.1 (by omega))), eo3 (by omega) h1 h2⟩
      · by_cases c4 : o = 30
        · subst c4
          exact ⟨lo_op (c := 4) (c1 := 4) (c2 := 3) p1 p2 (by omega) (by omega) (by omega) (fun _ => by omega) (fun _ => by omega) (by omega) (lz_29 (by omega)) (fun _ => by omega), eo4 (by omega) h1 h2⟩
        · have c5 : o = 31 := by omega
          subst c5
          exact ⟨lo_op (c := 5) (c1 := 5) (c2 := 4) p1 p2 (by omega) (by omega) (by omega) (fun _ => by omega) (fun _ => by omega) (by omega) (lz_30 (by omega)) (fun _ => by omega), eo5 (by omega) h1 h2⟩
theorem clq_eo {q : Nat} (h2 : Eo w 6 (m + 1) q) (hq : w q = 33) (hj : q < j) : clq w m j = q := clq_at (Nat.le_of_lt h2.pr.1) hj h2.pr.2.2.2.2.1 hq
theorem lcq_eo {c : Nat} (h : Eo w c i j) (hc : c ≤ 6) : lcq w i (j - i) = 0 := by
  obtain ⟨n, h⟩ := h
  exact lcq_0 _ (ex_nc hc h)
theorem lcq_7 (h1 : Eo w 7 i m) (hw : w m = 35) (h2 : Eo w 6 (m + 1) j) : lcq w i (j - i) = m - i + 1 := by
  have p1 := h1.pr
  have p2 := h2.pr
  have hi := p1.1
  have hj := p2.1
  obtain ⟨n, h2⟩ := h2
  have nx := ex_nc (by omega) h2
  have d1 : dp w i (m - i) = 0 := p1.2.2.2.2.1.1
  have em : i + (m - i) = m := by omega
  have d2 : dp w i (m - i + 1) = 0 := by rw [dp_s, em, if_neg (by omega), if_neg (by omega), d1]; omega
  rw [show j - i = (m - i) + 1 + (j - (m + 1)) by first | rfl | omega]
  refine lcq_at d1 (by rw [em]; exact hw) _ (fun t t1 t2 t3 => ?_)
  have e : t = (m - i + 1) + (t - (m - i + 1)) := by omega
  rw [e, dp_app, d2, show i + (m - i + 1) = m + 1 by first | rfl | omega] at t3
  have := nx (t - (m - i + 1)) (by omega) (by omega)
  rw [show m + 1 + (t - (m - i + 1)) = i + t by first | rfl | omega] at this
  exact this
/-! orders: they take room, and ask nothing of what lies elsewhere -/
theorem Cd_lt : ∀ (n c i j : Nat), 2 * (j - i) + c ≤ n → ∀ {x y : Int} {s e : Nat}, Cd w ec pl O P c x y i j s e → s < e := by
  intro n
  induction n with
  | zero =>
    intro c i j hn x y s e h
    rw [Cd] at h
    rw [dif_neg (by omega)] at h
    exact h.elim
  | succ n ih =>
    intro c i j hn x y s e h
    have a1 := lcq_le (w := w) (i := i) (j - i)
    have a2 := clq_b (w := w) (m := loq w i j) (j := j)
    rw [Cd] at h
    by_cases hij : i < j
    · rw [dif_pos hij] at h
      by_cases hc : c = 1
      · rw [dif_pos hc] at h
        by_cases hp : lcq w i (j - i) = 0
        · rw [dif_pos hp] at h
          exact ih _ _ _ (by omega) h
        · rw [dif_neg hp] at h
          obtain ⟨a, b, h1, h2, h3, -⟩ := h
          have := ih _ _ _ (by omega) h1
          have := ih _ _ _ (by omega) h2
          omega
      · rw [dif_neg hc] at h
        by_cases hm : lin w i j
        · rw [dif_pos hm] at h
          have a3 := hm.2
          split at h
          · obtain ⟨a, b, h1, -, -, h2, -, -, h3⟩ := h
            have := ih _ _ _ (by omega) h1
            have := ih _ _ _ (by omega) h2
            have := ih _ _ _ (by omega) h3
            omega
          · split at h
            · obtain ⟨a, h1, -, -, h2⟩ := h
              have := ih _ _ _ (by omega) h1
              have := ih _ _ _ (by omega) h2
              omega
            · obtain ⟨a, b, h1, h2, h3, -⟩ := h
              have := ih _ _ _ (by omega) h1
              have := ih _ _ _ (by omega) h2
              omega
        · rw [dif_neg hm] at h
          split at h
          · exact ih _ _ _ (by omega) h
          · split at h
            · obtain ⟨b, h1, h2, -⟩ := h
              have := ih _ _ _ (by omega) h1
              omega
            · split at h
              · exact ih _ _ _ (by omega) h
              · omega
    · rw [dif_neg hij] at h
      exact h.elim
theorem Cd.lt {c i j : Nat} (h : Cd w ec pl O P c x y i j s e) : s < e := Cd_lt _ c i j (Nat.le_refl _) h
theorem Cd_cg : ∀ (n c i j : Nat), 2 * (j - i) + c ≤ n → ∀ {x y : Int} {s e : Nat}, Cd w ec pl O P c x y i j s e → (∀ t, s ≤ t → t < e → O' t = O t ∧ P' t = P t) → Cd w ec pl O' P' c x y i j s e := by
  intro n
  induction n with
  | zero =>
    intro c i j hn x y s e h _
    rw [Cd] at h
    rw [dif_neg (by omega)] at h
    exact h.elim
  | succ n ih =>
    intro c i j hn x y s e h hO
    have a1 := lcq_le (w := w) (i := i) (j - i)
    have a2 := clq_b (w := w) (m := loq w i j) (j := j)
    rw [Cd] at h ⊢
    by_cases hij : i < j
    · rw [dif_pos hij] at h ⊢
      by_cases hc : c = 1
      · rw [dif_pos hc] at h ⊢
        by_cases hp : lcq w i (j - i) = 0
        · rw [dif_pos hp] at h ⊢
          exact ih _ _ _ (by omega) h hO
        · rw [dif_neg hp] at h ⊢
          obtain ⟨a, b, h1, h2, h3, h4, h5⟩ := h
          have l1 := h1.lt
          have l2 := h2.lt
          have k := hO b (by omega) (by omega)
          exact ⟨a, b, ih _ _ _ (by omega) h1 (fun t u v => hO t u (by omega)), ih _ _ _ (by omega) h2 (fun t u v => hO t (by omega) (by omega)), h3, by rw [k.1]; exact h4, by rw [k.2]; exact h5⟩
      · rw [dif_neg hc] at h ⊢
        by_cases hm : lin w i j
        · rw [dif_pos hm] at h ⊢
          have a3 := hm.2
          by_cases c1 : w (loq w i j) = 32
          · rw [if_pos c1] at h ⊢
            obtain ⟨a, b, h1, h4, h5, h2, h6, h7, h3⟩ := h
            have l1 := h1.lt
            have l2 := h2.lt
            have l3 := h3.lt
            have k1 := hO a (by omega) (by omega)
            have k2 := hO b (by omega) (by omega)
            exact ⟨a, b, ih _ _ _ (by omega) h1 (fun t u v => hO t u (by omega)), by rw [k1.1]; exact h4, by rw [k1.2]; exact h5, ih _ _ _ (by omega) h2 (fun t u v => hO t (by omega) (by omega)), by rw [k2.1]; exact h6, by rw [k2.2]; exact h7, ih _ _ _ (by omega) h3 (fun t u v => hO t (by omega) v)⟩
          · rw [if_neg c1] at h ⊢
            by_cases c2 : w (loq w i j) = 29 ∨ w (loq w i j) = 30
            · rw [if_pos c2] at h ⊢
              obtain ⟨a, h1, h4, h5, h2⟩ := h
              have l1 := h1.lt
              have l2 := h2.lt
              have k1 := hO a (by omega) (by omega)
              exact ⟨a, ih _ _ _ (by omega) h1 (fun t u v => hO t u (by omega)), by rw [k1.1]; exact h4, by rw [k1.2]; exact h5, ih _ _ _ (by omega) h2 (fun t u v => hO t (by omega) v)⟩
            · rw [if_neg c2] at h ⊢
              obtain ⟨a, b, h1, h2, h3, h4, h5⟩ := h
              have l1 := h1.lt
              have l2 := h2.lt
              have k := hO b (by omega) (by omega)
              exact ⟨a, b, ih _ _ _ (by omega) h1 (fun t u v => hO t u (by omega)), ih _ _ _ (by omega) h2 (fun t u v => hO t (by omega) (by omega)), h3, by rw [k.1]; exact h4, by rw [k.2]; exact h5⟩
        · rw [dif_neg hm] at h ⊢
          by_cases c1 : w i = 36
          · rw [if_pos c1] at h ⊢
            exact ih _ _ _ (by omega) h hO
          · rw [if_neg c1] at h ⊢
            by_cases c2 : w i = 25 ∨ w i = 31
            · rw [if_pos c2] at h ⊢
              obtain ⟨b, h1, h2, h3, h4⟩ := h
              have l1 := h1.lt
              have k := hO b (by omega) (by omega)
              exact ⟨b, ih _ _ _ (by omega) h1 (fun t u v => hO t u (by omega)), h2, by rw [k.1]; exact h3, by rw [k.2]; exact h4⟩
            · rw [if_neg c2] at h ⊢
              by_cases c3 : w i = 14 ∨ w i = 15
              · rw [if_pos c3] at h ⊢
                exact ih _ _ _ (by omega) h hO
              · rw [if_neg c3] at h ⊢
                have k := hO s (by omega) (by omega)
                exact ⟨h.1, by rw [k.1]; exact h.2.1, by rw [k.2]; exact h.2.2⟩
    · rw [dif_neg hij] at h
      exact h.elim
theorem Cd.cg {c i j : Nat} (h : Cd w ec pl O P c x y i j s e) (hO : ∀ t, s ≤ t → t < e → O' t = O t ∧ P' t = P t) : Cd w ec pl O' P' c x y i j s e := Cd_cg _ c i j (Nat.le_refl _) h hO
end OQ
end
end
