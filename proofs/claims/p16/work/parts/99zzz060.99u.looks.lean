/-! The reference: the pile of nodes to look at. -/
section LP
variable {G : mG} {d a N g T K : Nat} {M M2 M3 M4 : mM} {nm : Int → Prop}
/-- only the pile of looks has changed -/
def kp (M : mM) (a g N T K : Nat) (M3 M4 : mM) : Prop := LO M a g N T K M4 ∧ mI M4 a 16 = mI M3 a 16 ∧ (∀ k, va M4 g k = va M3 g k) ∧ sameN M3 M4 (a + 93)
theorem kp.refl (h : LO M a g N T K M3) : kp M a g N T K M3 M3 := ⟨h, rfl, fun _ => rfl, sameN.refl⟩
theorem kp.trans {M5 : mM} (h : kp M a g N T K M3 M4) (k : kp M a g N T K M4 M5) : kp M a g N T K M3 M5 :=
  ⟨k.1, k.2.1.trans h.2.1, fun n => (k.2.2.1 n).trans (h.2.2.1 n), h.2.2.2.trans k.2.2.2⟩
theorem kp.mk {S : Nat → Prop} (h : LO M a g N T K M3) (m : Mv (fun x => x = a + 95) S M3 a M4) (hS : ∀ x, ¬ S x) : kp M a g N T K M3 M4 := by
  obtain ⟨hO, hw, -, -, -, hg, -, -⟩ := id h.2.1
  have w := hw.1.1
  have f := (m.fld w (fun q hq => by rw [hq]; exact n95) (hS a)).1
  have s7 := m.lst (tL_in (a := a) (q := g + 7) hg (tLk7 g)) (by omega)
  exact ⟨h.step m (fun q hq => Or.inr (Or.inl hq)) (fun x hx => (hS x hx).elim) s7.1 (fun i _ _ => by rw [f]), by rw [f], s7.2.1, m.lst n93 (by omega)⟩
theorem Tn.lo {f md n e : Nat} (h : Tn nm M3 g f md n e) (h3 : LO M a g N T K M3) (h4 : LO M a g N T K M4) (hv : ∀ k, n ≤ k → k < e → va M4 g k = va M3 g k) : Tn nm M4 g f md n e := by
  have s : ∀ k, so M4 g k = so M3 g k ∧ fp M4 g k = fp M3 g k ∧ np M4 g k = np M3 g k := fun k => by
    have a1 := h3.2.2.2.1 k
    have a2 := h4.2.2.2.1 k
    exact ⟨a2.1.trans a1.1.symm, a2.2.1.trans a1.2.1.symm, a2.2.2.trans a1.2.2.symm⟩
  exact h.fr (fun k b1 b2 => ⟨(s k).1, hv k b1 b2, (s k).2.1⟩) (fun k _ _ => (s k).2.2) (fun _ => (s n).2.2)
theorem s_lk_push {X : Nat} {v : Int} (hv : i32 v) (h : LO M a g N T K M3) (hl : ln M3 (a + 95) = (X : Int)) (hX : X ≤ 65000) : Cv G y_MN_add d [vr (a + 95), vi v] M3 (fun M4 => mOk M4 ∧ kp M a g N T K M3 M4 ∧ ln M4 (a + 95) = (X + 1 : Nat) ∧ (∀ j, j < X → nt M4 (a + 95) j = nt M3 (a + 95) j) ∧ nt M4 (a + 95) X = v) := by
  obtain ⟨hO, hw, -⟩ := id h.2.1
  have w := hw.1.1
  refine (s_MN_addB (B := 65536) hv hO (w.nu n95) (by omega) (by decide)).mono (fun M4 t => ?_)
  have m := mv_addB w n95 (Or.inr (Or.inr (Or.inl rfl))) t
  obtain ⟨-, -, -, t1, t2, t3, -⟩ := t
  rw [hl] at t1 t2 t3
  rw [Int.toNat_natCast] at t3
  exact ⟨m.1, kp.mk h m (fun _ z => z), by rw [t1]; omega, fun j hj => t2 j (by omega), t3⟩
theorem s_lk_pop {X : Nat} (h : LO M a g N T K M3) (hl : ln M3 (a + 95) = (X + 1 : Nat)) : Ci G y_MN_take d [vr (a + 95)] M3 (fun x M4 => i32 x ∧ mOk M4 ∧ kp M a g N T K M3 M4 ∧ ln M4 (a + 95) = (X : Int) ∧ (∀ j, nt M4 (a + 95) j = nt M3 (a + 95) j) ∧ x = nt M3 (a + 95) X) := by
  obtain ⟨hO, hw, -⟩ := id h.2.1
  have w := hw.1.1
  refine (s_MN_take hO (w.nu n95) (by omega)).mono (fun x M4 t => ?_)
  have m := mv_take w n95 t
  obtain ⟨-, -, -, t1, t2, t3⟩ := t
  rw [hl] at t1 t3
  rw [show (((X + 1 : Nat) : Int) - 1).toNat = X by omega] at t3
  exact ⟨by rw [t3]; exact (hO _ _).1, m.1, kp.mk h m (fun _ z => z), by rw [t1]; omega, t2, t3⟩
/-- the brothers from n on -/
def ci (M : mM) (g n : Nat) : Nat → Int
  | 0 => n
  | j + 1 => np M g (ci M g n j).toNat
theorem ci_succ {n m : Nat} (h : np M g n = (m : Int)) : ∀ j, ci M g n (j + 1) = ci M g m j
  | 0 => h
  | j + 1 => by
    have := ci_succ h j
    rw [ci, this, ci]
theorem Tn.ge : ∀ {f md n e : Nat}, Tn nm M g f md n e → n + md ≤ e := by
  intro f
  induction f with
  | zero => intro md n e h; exact h.elim
  | succ f ih =>
    intro md n e h
    have hl := h.lt
    rw [Tn] at h
    by_cases c0 : md = 0
    · omega
    · rw [if_neg c0] at h
      by_cases c1 : md = 1
      · omega
      · rw [if_neg c1] at h
        obtain ⟨m, -, h2, h3⟩ := h
        have := h2.lt
        have := ih h3
        omega
/-- pushing the parts -/
theorem s_look126 {co : Int} {Q : Int → mM → Prop} {X : Nat} (hco : i32 co) (hX : X ≤ 65000) : ∀ (k f c e Y : Nat) (M3 : mM), 1 ≤ k → Tn nm M3 g f k c e → e ≤ T → LO M a g N T K M3 → ln M3 (a + 95) = (Y : Int) → Y + 2 * k ≤ 65000 → (∀ M4, kp M a g N T K M3 M4 → ln M4 (a + 95) = (Y + 2 * k : Nat) → (∀ j, j < Y → nt M4 (a + 95) j = nt M3 (a + 95) j) → (∀ j, j < k → nt M4 (a + 95) (Y + 2 * j) = ci M g c j ∧ nt M4 (a + 95) (Y + 2 * j + 1) = 0) → h_MM_look_126 G d a co (-1) X M4 Q) → h_MM_look_126 G d a co c X M3 Q := by
  intro k
  induction k with
  | zero => intro f c e Y M3 hk; omega
  | succ k ih =>
    intro f c e Y M3 hk ht he h3 l3 hY hQ
    obtain ⟨hO, hw, -, -, h10, hg, -, hT⟩ := id h3.2.1
    have w := hw.1.1
    have hlt := ht.lt
    have r20 : ∀ {M3 : mM}, Wd M3 a → mR M3 a 20 = a + 95 := fun w => w.1.2.2.2.2.1.2.2.2.2.2.1
    refine k_MM_look_126 hO hco (i32s (by omega) (by omega)) (i32s (by omega) (by omega)) ⟨fun q => by omega, fun _ => ?_⟩
    rw [r20 w]
    refine ⟨w.1.1, (w.nu n95).1, (s_lk_push (i32s (by omega) (by omega)) h3 l3 (by omega)).mono (fun M4 h4 => ?_)⟩
    obtain ⟨o4, k4, l4, e4, v4⟩ := h4
    have w4 := k4.1.2.1.2.1.1.1
    rw [r20 w4]
    refine ⟨o4, w4.1.1, (w4.nu n95).1, (s_lk_push (i32s (by omega) (by omega)) k4.1 l4 (by omega)).mono (fun M5 h5 => ?_)⟩
    obtain ⟨o5, k5, l5, e5, v5⟩ := h5
    obtain ⟨-, hw5, -, hd5, h105, -, -, -⟩ := id k5.1.2.1
    have w5 := hw5.1.1
    have gp := w5.gp hg
    have r5 : mR M5 g 5 = g + 11 := gp.2.1.2.2.2.2.2.1
    have u11 := w5.nu (tL_in (a := a) (q := g + 11) hg (tLk11 g))
    have l11 := hd5 (g + 11) (by omega)
    rw [h105, r5]
    refine ⟨o5, w5.1.1, gp.1, u11.1, (s_MN_at o5 u11 (by omega)).mono (fun z M6 e6 => ?_)⟩
    obtain ⟨e6, hz⟩ := e6
    subst e6
    refine ⟨by rw [hz]; exact (o5 _ _).1, o5, ?_⟩
    have kk := k4.trans k5
    have ht6 : Tn nm M6 g f (k + 1) c e := ht.lo h3 kk.1 (fun j _ _ => kk.2.2.1 j)
    have hnp : np M6 g c = np M g c := (kk.1.2.2.2.1 c).2.2
    have base : ∀ j, j < Y → nt M6 (a + 95) j = nt M3 (a + 95) j := fun j hj => (e5 j (by omega)).trans (e4 j hj)
    have b0 : nt M6 (a + 95) Y = (c : Int) := (e5 Y (by omega)).trans v4
    cases f with
    | zero => exact ht6.elim
    | succ f =>
      rw [Tn, if_neg (by omega)] at ht6
      by_cases k0 : k + 1 = 1
      · rw [if_pos k0] at ht6
        have : z = -1 := hz.trans ht6.1
        rw [this]
        refine hQ M6 kk (by rw [l5]; omega) base (fun j hj => ?_)
        have : j = 0 := by omega
        subst this
        exact ⟨b0, v5⟩
      · rw [if_neg k0] at ht6
        obtain ⟨m, q1, q2, q3⟩ := ht6
        have hzm : z = (m : Int) := hz.trans q1
        rw [hzm]
        refine ih f m e (Y + 2) M6 (by omega) q3 he kk.1 (by rw [l5]) (by omega) (fun M7 k7 l7 e7 v7 => ?_)
        refine hQ M7 (kk.trans k7) (by rw [l7]; omega) (fun j hj => (e7 j (by omega)).trans (base j hj)) (fun j hj => ?_)
        cases j with
        | zero => exact ⟨(e7 Y (by omega)).trans b0, (e7 (Y + 1) (by omega)).trans v5⟩
        | succ j =>
          have := v7 j (by omega)
          rw [ci_succ (hnp.symm.trans q1), show Y + 2 * (j + 1) = Y + 2 + 2 * j by omega]
          exact this
end LP
