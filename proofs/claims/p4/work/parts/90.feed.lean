/-! The reference: feed and end. -/
/-- a step of the reference: lists P have changed, and numbers of cells S -/
def Mv (P S : Nat → Prop) (M : mM) (a : Nat) (M' : mM) : Prop := mOk M' ∧ Wd M' a ∧ RmL (nums a) M M' ∧ FN P S M M' ∧ ∀ q, q ∈ nums a → ¬ P q → sameN M M' q
section MV
variable {P S P' S' : Nat → Prop} {M M1 M2 : mM} {a p : Nat}
theorem Mv.trans (h : Mv P S M a M1) (k : Mv P S M1 a M2) : Mv P S M a M2 :=
  ⟨k.1, k.2.1, h.2.2.1.trans k.2.2.1, h.2.2.2.1.trans k.2.2.2.1, fun q hq hp => (h.2.2.2.2 q hq hp).trans (k.2.2.2.2 q hq hp)⟩
theorem Mv.refl (hO : mOk M) (h : Wd M a) (hP : ∀ q, P q → q < mZ M) : Mv P S M a M :=
  ⟨hO, h, RmL.fi (S := fun _ => False) FI.refl, FN.refl hP, fun q _ _ => sameN.refl⟩
theorem Mv.mono (h : Mv P S M a M1) (hp : ∀ q, P q → P' q) (hs : ∀ x, S x → S' x) (h0 : ∀ q, P' q → q < mZ M) : Mv P' S' M a M1 :=
  ⟨h.1, h.2.1, h.2.2.1, h.2.2.2.1.mono hp hs h0, fun q hq hq' => h.2.2.2.2 q hq (fun w => hq' (hp q w))⟩
theorem Wd.lt (h : Wd M a) (hp : p ∈ nums a) : p < mZ M := (h.nu hp).2.2.1.1
theorem FN.drop (h : FN P S M M1) (hs : ∀ x, S x → P x) : FN P (fun _ => False) M M1 :=
  ⟨h.1, h.2.1, h.2.2.1, fun x hx hp hq _ => h.2.2.2.1 x hx hp hq (fun w => hp (hs x w)), h.2.2.2.2⟩
theorem mv_add {v : Int} (h : Wd M a) (hp : p ∈ nums a) (t : adQ M p v M1) : Mv (fun x => x = p) (fun _ => False) M a M1 := by
  obtain ⟨k1, k2, k3⟩ := h.add (B := 32768) hp t bd_lo
  exact ⟨t.1, k1, k2, t.2.2.1, fun q hq hne => k3 q hq hne⟩
theorem mv_addB {v : Int} (h : Wd M a) (hp : p ∈ nums a) (hb : p = a + 91 ∨ p = a + 93 ∨ p = a + 95 ∨ p = a + 99) (t : adB 65536 M p v M1) : Mv (fun x => x = p) (fun _ => False) M a M1 := by
  obtain ⟨k1, k2, k3⟩ := h.add hp t (by rw [bd_hi hb]; decide)
  exact ⟨t.1, k1, k2, t.2.2.1, fun q hq hne => k3 q hq hne⟩
theorem mv_set {v : Int} (hO : mOk M) (h : Wd M a) (hp : p ∈ nums a) (h0 : 0 ≤ v) (h1 : v ≤ ln M p) (e : M1 = mUI M p 1 v) : Mv (fun x => x = p) (fun _ => False) M a M1 ∧ ln M1 p = v ∧ (∀ j, nt M1 p j = nt M p j) ∧ cp M1 p = cp M p := by
  obtain ⟨k1, k2, k3, k4, k5, k6⟩ := h.set hp h0 h1 e
  have hN := (h.nu hp).2.2.2
  have o1 : mOk M1 := by rw [e]; exact mOk_UI hO ⟨by omega, by unfold ln at h1; omega⟩
  refine ⟨⟨o1, k1, RmL.fi k2, (k2.fn.mono (P' := fun x => x = p) (fun p q => q.elim) (fun x q => q) (fun q w => by rw [w]; exact h.lt hp)).drop (fun x w => w), fun q hq hne => k6 q hq hne⟩, k3, k4, k5⟩
theorem mv_take {x : Int} (h : Wd M a) (hp : p ∈ nums a) (t : tkQ M p x M1) : Mv (fun x => x = p) (fun _ => False) M a M1 := by
  obtain ⟨k1, k2⟩ := h.take hp t
  exact ⟨t.1, k1, RmL.fi t.2.2.1, (t.2.2.1.fn.mono (P' := fun x => x = p) (fun p q => q.elim) (fun x q => q) (fun q w => by rw [w]; exact h.lt hp)).drop (fun x w => w), fun q hq hne => k2 q hq hne⟩
/-- a number of a cell that belongs to no list -/
theorem mv_fi (o1 : mOk M1) (h : Wd M a) (f : FI S M M1) (hS : ∀ x, S x → a ≤ x ∧ x ≤ a + 21191 ∧ x ∉ nums a ∧ (∀ q, q ∈ nums a → x ≠ q + 1)) : Mv (fun _ => False) S M a M1 := by
  obtain ⟨k1, k2⟩ := h.fi f (fun q hq => ⟨fun w => (hS q w).2.2.1 hq, fun w => by
    rcases (h.arr hq).2 with z | z
    · exact (hS _ w).2.2.2 q hq z
    · have := (hS _ w).2.1; omega⟩)
  exact ⟨o1, k1, RmL.fi f, f.fn, fun q hq _ => k2 q hq⟩
theorem a_free : ∀ q, q ∈ nums a → a ≠ q + 1 := fun q hq => by have := nums_in hq; omega
theorem a_free2 : a ∉ nums a := fun w => by have := nums_in w; omega
/-- a field of the reference itself -/
theorem mv_fld {j : Nat} {v : Int} (hv : i32 v) (hO : mOk M) (h : Wd M a) (e : M1 = mUI M a j v) : Mv (fun _ => False) (fun x => x = a) M a M1 ∧ (∀ i, mI M1 a i = if i = j then v else mI M a i) := by
  have f : FI (fun x => x = a) M M1 := by rw [e]; exact FI.ui rfl
  have o1 : mOk M1 := by rw [e]; exact mOk_UI hO hv
  refine ⟨mv_fi o1 h f (fun x w => by rw [w]; exact ⟨by omega, by omega, a_free2, a_free⟩), fun i => ?_⟩
  rw [e, mI_UI]
  by_cases z : i = j
  · rw [if_pos ⟨rfl, z⟩, if_pos z]
  · rw [if_neg (fun w => z w.2), if_neg z]
theorem Mv.fld (h : Mv P S M a M1) (hw : Wd M a) (hP : ∀ q, P q → q ∈ nums a) (hS : ¬ S a) : mI M1 a = mI M a ∧ mR M1 a = mR M a := by
  have hz := hw.2.2.2
  have f := h.2.2.2.1
  have hp : ¬ P a := fun w => a_free2 (hP a w)
  refine ⟨(f.2.2.2.1 a (by omega) hp (fun q hq w => ?_) hS).1, f.2.2.1 a (by omega) hp⟩
  rcases (hw.arr (hP q hq)).2 with z | z
  · have := nums_in (hP q hq); omega
  · omega
theorem Mv.rfl_a (h : Mv P S M a M1) (hw : Wd M a) (hP : ∀ q, P q → q ∈ nums a) : mR M1 a = mR M a :=
  h.2.2.2.1.2.2.1 a (by have := hw.2.2.2; omega) (fun w => a_free2 (hP a w))
end MV
section FE
variable {G : mG} {d a : Nat} {M : mM}
theorem Wd.tape (h : Wd M a) : mR M a 1 ∈ nums a ∧ mR M a 2 ∈ nums a ∧ mR M a 1 ≠ mR M a 2 := by
  obtain ⟨⟨-, h1, -⟩, -⟩ := h
  rcases h1 with ⟨e1, e2⟩ | ⟨e1, e2⟩ <;> rw [e1, e2]
  · exact ⟨nums_o (by decide), nums_o (by decide), by omega⟩
  · exact ⟨nums_o (by decide), nums_o (by decide), by omega⟩
/-- v's four bytes -/
def byt (v : Int) (j : Nat) : Int := shrI v (24 - 8 * (j : Int)) % 256
theorem s_MM_add4 {v : Int} (hv : i32 v) (hO : mOk M) (h : Wd M a) (hs : ln M (mR M a 1) ≤ 16380) : Cv G y_MM_add4 (d + 1) [vr a, vi v] M (fun M' => Mv (fun x => x = mR M a 1) (fun _ => False) M a M' ∧ ln M' (mR M a 1) = ln M (mR M a 1) + 4 ∧ (∀ j : Nat, (j : Int) < ln M (mR M a 1) → nt M' (mR M a 1) j = nt M (mR M a 1) j) ∧ ∀ j, j < 4 → nt M' (mR M a 1) ((ln M (mR M a 1)).toNat + j) = byt v j) := by
  have hp := h.tape.1
  generalize hpe : mR M a 1 = p at *
  have hl0 : 0 ≤ ln M p := (h.nu hp).2.2.2.1.1
  refine k_MM_add4 hO hv ?_
  suffices H : ∀ (c i : Nat) (M2 : mM), i + c = 4 → Mv (fun x => x = p) (fun _ => False) M a M2 → ln M2 p = ln M p + i → (∀ j : Nat, (j : Int) < ln M p → nt M2 p j = nt M p j) → (∀ j, j < i → nt M2 p ((ln M p).toNat + j) = byt v j) → h_MM_add4_3 G d a v (24 - 8 * (i : Int)) M2 (fun M' => Mv (fun x => x = p) (fun _ => False) M a M' ∧ ln M' p = ln M p + 4 ∧ (∀ j : Nat, (j : Int) < ln M p → nt M' p j = nt M p j) ∧ ∀ j, j < 4 → nt M' p ((ln M p).toNat + j) = byt v j) from
    H 4 0 M (by omega) (Mv.refl hO h (fun q w => by rw [w]; exact h.lt hp)) (by omega) (fun j hj => rfl) (fun j hj => by omega)
  intro c
  induction c with
  | zero =>
    intro i M2 hi h2 l2 b2 n2
    have ei : i = 4 := by omega
    subst ei
    exact k_MM_add4_3 h2.1 hv ⟨by omega, by omega⟩ ⟨fun _ => ⟨h2, l2, b2, n2⟩, fun w => by omega⟩
  | succ c ih =>
    intro i M2 hi h2 l2 b2 n2
    have w2 := h2.2.1
    have hr2 : mR M2 a = mR M a := h2.rfl_a h (fun q w => by rw [w]; exact hp)
    have hN := w2.nu hp
    refine k_MM_add4_3 h2.1 hv ⟨by omega, by omega⟩ ⟨fun w => by omega, fun _ => ?_⟩
    rw [hr2, hpe]
    have e255 : andI (shrI v (24 - 8 * (i : Int))) 255 = byt v i := by
      unfold byt
      exact i_and 8 (by omega) 255 (by decide) ⟨by omega, by omega⟩
    have hb : 0 ≤ byt v i ∧ byt v i < 256 := by unfold byt; omega
    rw [e255]
    refine ⟨w2.1.1, hN.1, (s_MN_add ⟨by omega, by omega⟩ h2.1 hN (by omega)).mono (fun M3 t => ?_)⟩
    have m3 := mv_add w2 hp t
    obtain ⟨t1, t2, t3, t4, t5, t6, -⟩ := t
    have k3 := h2.trans m3
    have a := ih (i + 1) M3 (by omega) k3 (by omega) (fun j hj => by rw [t5 j (by omega)]; exact b2 j hj) (fun j hj => by
      by_cases z : j = i
      · rw [z, show (ln M p).toNat + i = (ln M2 p).toNat by omega]
        exact t6
      · rw [t5 _ (by omega)]
        exact n2 j (by omega))
    rw [show 24 - 8 * ((i + 1 : Nat) : Int) = 24 - 8 * (i : Int) + (-8) by omega] at a
    exact ⟨t1, a⟩
/-- feed's answer, and the tape after it -/
def fdQ (M : mM) (a : Nat) (v : Nat → Int) (r : Int) (M' : mM) : Prop := Mv (fun x => x = mR M a 1) (fun x => x = a) M a M' ∧ (∀ i, i ≠ 0 → mI M' a i = mI M a i) ∧ mI M' a 0 = 0 ∧ ((ln M (mR M a 1) + 20 ≤ 16384 ∧ r = ln M (mR M a 1) + 20 ∧ ln M' (mR M a 1) = r ∧ (∀ j : Nat, (j : Int) < ln M (mR M a 1) → nt M' (mR M a 1) j = nt M (mR M a 1) j) ∧ ∀ i j, i < 5 → j < 4 → nt M' (mR M a 1) ((ln M (mR M a 1)).toNat + 4 * i + j) = byt (v i) j) ∨ (16384 < ln M (mR M a 1) + 20 ∧ r = -1 ∧ sameN M M' (mR M a 1)))
theorem s_MM_feed {v : Nat → Int} (hv : ∀ i, i32 (v i)) (hO : mOk M) (h : Wd M a) (hs : ln M (mR M a 1) ≤ 16384) : Ci G y_MM_feed (d + 2) [vr a, vi (v 0), vi (v 1), vi (v 2), vi (v 3), vi (v 4)] M (fdQ M a v) := by
  have hp := h.tape.1
  have hl0 : 0 ≤ ln M (mR M a 1) := (h.nu hp).2.2.2.1.1
  have hpl : ∀ q, q = mR M a 1 → q < mZ M := fun q w => by rw [w]; exact h.lt hp
  refine k_MM_feed hO (hv 0) (hv 1) (hv 2) (hv 3) (hv 4) ⟨h.1.1, fun M1 e1 => ?_⟩
  obtain ⟨m1, f1⟩ := mv_fld ⟨by omega, by omega⟩ hO h e1
  have r1 : mR M1 a = mR M a := m1.rfl_a h (fun q w => w.elim)
  have s1 := m1.2.2.2.2 (mR M a 1) hp (fun w => w)
  have l1 : mI M1 (mR M a 1) 1 = ln M (mR M a 1) := s1.1
  have m1' : Mv (fun x => x = mR M a 1) (fun x => x = a) M a M1 := m1.mono (fun q w => w.elim) (fun x w => w) hpl
  have w1 := m1.2.1
  rw [r1, l1]
  have ha0 : mI M1 a 0 = 0 := by rw [f1, if_pos rfl]
  have ha1 : ∀ i, i ≠ 0 → mI M1 a i = mI M a i := fun i hi => by rw [f1, if_neg hi]
  refine ⟨(w1.nu hp).1, ⟨by omega, by omega⟩, fun hle => ?_, fun hgt => ⟨m1', ha1, ha0, Or.inr ⟨by omega, rfl, s1⟩⟩⟩
  -- five times four bytes
  have step : ∀ (i : Nat) (Mi : mM), i < 5 → Mv (fun x => x = mR M a 1) (fun x => x = a) M a Mi → mI Mi a = mI M1 a → ln Mi (mR M a 1) = ln M (mR M a 1) + 4 * i → (∀ j : Nat, (j : Int) < ln M (mR M a 1) → nt Mi (mR M a 1) j = nt M (mR M a 1) j) → (∀ k j, k < i → j < 4 → nt Mi (mR M a 1) ((ln M (mR M a 1)).toNat + 4 * k + j) = byt (v k) j) → Cv G y_MM_add4 (d + 1) [vr a, vi (v i)] Mi (fun Mj => mOk Mj ∧ Mv (fun x => x = mR M a 1) (fun x => x = a) M a Mj ∧ mI Mj a = mI M1 a ∧ ln Mj (mR M a 1) = ln M (mR M a 1) + 4 * ((i : Int) + 1) ∧ (∀ j : Nat, (j : Int) < ln M (mR M a 1) → nt Mj (mR M a 1) j = nt M (mR M a 1) j) ∧ (∀ k j, k < i + 1 → j < 4 → nt Mj (mR M a 1) ((ln M (mR M a 1)).toNat + 4 * k + j) = byt (v k) j)) := by
    intro i Mi hi mi ai li bi ni
    have ri : mR Mi a = mR M a := mi.rfl_a h (fun q w => by rw [w]; exact hp)
    have key := s_MM_add4 (G := G) (d := d) (hv i) mi.1 mi.2.1 (by rw [ri]; omega)
    rw [ri] at key
    refine key.mono (fun Mj hj => ?_)
    obtain ⟨mj, lj, bj, nj⟩ := hj
    refine ⟨mj.1, mi.trans (mj.mono (fun q w => w) (fun x w => w.elim) (fun q w => by rw [w]; exact mi.2.1.lt hp)), ?_, by omega, fun j hj => by rw [bj j (by omega)]; exact bi j hj, fun k j hk hj => ?_⟩
    · rw [← ai]
      exact (mj.fld mi.2.1 (fun q w => by rw [w]; exact hp) (fun w => w)).1
    · by_cases z : k = i
      · subst z
        have := nj j hj
        rw [show (ln Mi (mR M a 1)).toNat + j = (ln M (mR M a 1)).toNat + 4 * k + j by omega] at this
        exact this
      · rw [bj _ (by omega)]
        exact ni k j (by omega) hj
  refine (step 0 M1 (by omega) m1' rfl (by rw [s1.1]; omega) (fun j _ => s1.2.1 j) (fun k j hk => by omega)).mono (fun M2 h2 => ?_)
  obtain ⟨o2, m2, a2, l2, b2, n2⟩ := h2
  refine ⟨o2, m2.2.1.1.1, (step 1 M2 (by omega) m2 a2 (by omega) b2 n2).mono (fun M3 h3 => ?_)⟩
  obtain ⟨o3, m3, a3, l3, b3, n3⟩ := h3
  refine ⟨o3, m3.2.1.1.1, (step 2 M3 (by omega) m3 a3 (by omega) b3 n3).mono (fun M4 h4 => ?_)⟩
  obtain ⟨o4, m4, a4, l4, b4, n4⟩ := h4
  refine ⟨o4, m4.2.1.1.1, (step 3 M4 (by omega) m4 a4 (by omega) b4 n4).mono (fun M5 h5 => ?_)⟩
  obtain ⟨o5, m5, a5, l5, b5, n5⟩ := h5
  refine ⟨o5, m5.2.1.1.1, (step 4 M5 (by omega) m5 a5 (by omega) b5 n5).mono (fun M6 h6 => ?_)⟩
  obtain ⟨o6, m6, a6, l6, b6, n6⟩ := h6
  have r6 : mR M6 a = mR M a := m6.rfl_a h (fun q w => by rw [w]; exact hp)
  rw [r6]
  have l6' : mI M6 (mR M a 1) 1 = ln M (mR M a 1) + 20 := by
    have : mI M6 (mR M a 1) 1 = ln M6 (mR M a 1) := rfl
    omega
  rw [l6']
  refine ⟨o6, m6.2.1.1.1, (m6.2.1.nu hp).1, m6, fun i hi => by rw [a6]; exact ha1 i hi, by rw [a6]; exact ha0, Or.inl ⟨hle, rfl, l6', b6, fun i j hi hj => n6 i j (by omega) hj⟩⟩
/-- end's answer -/
theorem s_MM_end {n : Int} (hn : i32 n) (hO : mOk M) (h : Wd M a) (hs : ln M (mR M a 1) ≤ 16384) : Ci G y_MM_end d [vr a, vi n] M (fun r M' => Mv (fun x => x = mR M a 1) (fun x => x = a) M a M' ∧ (∀ i, i ≠ 0 → mI M' a i = mI M a i) ∧ ((0 ≤ n ∧ n ≤ 20 ∧ 20 ≤ ln M (mR M a 1) ∧ mI M' a 0 = 0 ∧ r = ln M (mR M a 1) - 20 + n ∧ ln M' (mR M a 1) = r ∧ ∀ j, nt M' (mR M a 1) j = nt M (mR M a 1) j) ∨ (¬ (0 ≤ n ∧ n ≤ 20 ∧ 20 ≤ ln M (mR M a 1)) ∧ mI M' a 0 = 1 ∧ r = 0 ∧ sameN M M' (mR M a 1)))) := by
  have hp := h.tape.1
  have hl0 : 0 ≤ ln M (mR M a 1) := (h.nu hp).2.2.2.1.1
  have hpl : ∀ q, q = mR M a 1 → q < mZ M := fun q w => by rw [w]; exact h.lt hp
  have el : mI M (mR M a 1) 1 = ln M (mR M a 1) := rfl
  refine k_MM_end hO hn ?_
  rw [el]
  refine ⟨fun _ _ => ⟨h.1.1, (h.nu hp).1⟩, fun v hv => ⟨h.1.1, fun M1 e1 => ?_⟩⟩
  obtain ⟨m1, f1⟩ := mv_fld (v := v) ⟨by split at hv <;> omega, by split at hv <;> omega⟩ hO h e1
  have r1 : mR M1 a = mR M a := m1.rfl_a h (fun q w => w.elim)
  have s1 := m1.2.2.2.2 (mR M a 1) hp (fun w => w)
  have l1 : mI M1 (mR M a 1) 1 = ln M (mR M a 1) := s1.1
  have m1' : Mv (fun x => x = mR M a 1) (fun x => x = a) M a M1 := m1.mono (fun q w => w.elim) (fun x w => w) hpl
  have w1 := m1.2.1
  have ha0 : mI M1 a 0 = v := by rw [f1, if_pos rfl]
  have ha1 : ∀ i, i ≠ 0 → mI M1 a i = mI M a i := fun i hi => by rw [f1, if_neg hi]
  rw [ha0, r1, l1]
  by_cases q : n < 0 ∨ (20 < n ∨ ¬ (20 ≤ ln M (mR M a 1)))
  · rw [if_pos q] at hv
    exact ⟨fun w => by omega, fun _ => ⟨m1', ha1, Or.inr ⟨by omega, hv, rfl, s1⟩⟩⟩
  · rw [if_neg q] at hv
    refine ⟨fun _ => ⟨(w1.nu hp).1, ⟨by omega, by omega⟩, fun M2 e2 => ?_⟩, fun w => by omega⟩
    obtain ⟨m2, l2, n2, -⟩ := mv_set m1.1 w1 hp (v := ln M (mR M a 1) - 20 + n) (by omega) (by rw [s1.1]; omega) e2
    have r2 : mR M2 a = mR M1 a := m2.rfl_a w1 (fun q w => by rw [w]; exact hp)
    have i2 := (m2.fld w1 (fun q w => by rw [w]; exact hp) (fun w => w)).1
    rw [r2, r1]
    have l2' : mI M2 (mR M a 1) 1 = ln M (mR M a 1) - 20 + n := l2
    rw [l2']
    exact ⟨(m2.2.1.nu hp).1, m1'.trans (m2.mono (fun q w => w) (fun x w => w.elim) (fun q w => by rw [w]; exact w1.lt hp)), fun i hi => by rw [i2]; exact ha1 i hi, Or.inl ⟨by omega, by omega, by omega, by rw [i2, ha0, hv], rfl, l2, fun j => by rw [n2 j]; exact s1.2.1 j⟩⟩
end FE
