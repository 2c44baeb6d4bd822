/-! The reference: explore, its beginning and its end. -/
section EXP
variable {G : mG} {d a g T R W C Z n L w : Nat} {M M2 M' : mM} {E : Eg9} {tg : Int} {B F : Nat → Nat} {Nt9 : tP9}
/-- nothing is told -/
theorem tl_zero {s : Nat} {mu to up dn : Nat → Int} (h : Sv M s 0) (h2 : mI M s 2 = 0) (h3 : mI M s 3 = 0) (h5 : ∀ w, w < 3 → mI M (s + 30) w = 0) (h11 : 11 ≤ s) : TL M s F B mu to up dn 0 0 0 := by
  obtain ⟨V, g, c, e, t, Wk', Ct', R', H, hc⟩ := h
  exact ⟨⟨V, Wk', Ct', R', h5⟩, ⟨e, h2, h3⟩, ⟨fun j hj => absurd hj (by omega), g.2.2.2.2.1⟩, ⟨fun j hj => absurd hj (by omega), g.2.2.2.2.2.1⟩, fun j hj => absurd hj (by omega), fun j hj => absurd hj (by omega), fun j hj => absurd hj (by omega), h11, fun j hj => absurd hj (by omega)⟩
/-- a call that leaves what was explored -/
def FX (M : mM) (a : Nat) (M' : mM) : Prop := FR M a M' ∧ xeF M M' a ∧ mI M' a 12 = mI M a 12 ∧ mI M' (a + 117 + 30) 0 = mI M (a + 117 + 30) 0
/-- all but whether values are worked out -/
def FX0 (M : mM) (a : Nat) (M' : mM) : Prop := FR M a M' ∧ xeF M M' a ∧ mI M' a 12 = mI M a 12
theorem FX0.fx (h : FX0 M a M') (k : mI M' (a + 117 + 30) 0 = mI M (a + 117 + 30) 0) : FX M a M' := ⟨h.1, h.2.1, h.2.2, k⟩
theorem FX.trans {M2 : mM} (h : FX M a M') (k : FX M' a M2) : FX M a M2 := ⟨h.1.trans k.1, h.2.1.trans k.2.1, k.2.2.1.trans h.2.2.1, k.2.2.2.trans h.2.2.2⟩
theorem RI0.step {j : Nat} {v : Int} (h : RI0 Nt9 M a) (hv : i32 v) (hj : j ≠ 11 ∧ j ≠ 29 ∧ j ≠ 48) (e : M' = mUI M a j v) (h0 : j < 12 := by decide) : RI0 Nt9 M' a ∧ FX M a M' ∧ (∀ i, mI M' a i = if i = j then v else mI M a i) := by
  obtain ⟨hO, w, ht, hx⟩ := h
  have hg := w.g9
  have p0 : pk M a (mR M a 9) M := ⟨hO, w, ra_mv (P := fun _ => False) (S := fun _ => False) w hg (Mv.refl hO w (fun _ z => z.elim)) (fun _ z => z.elim) (fun _ z => z.elim) (fun _ z => z.elim) ⟨rfl, rfl, rfl, rfl, rfl⟩, FR.mv (P := fun _ => False) (S := fun _ => False) (Mv.refl hO w (fun _ z => z.elim)) (fun _ z => z.elim) (fun _ z => z.elim)⟩
  obtain ⟨p2, f2, r2, s2⟩ := p0.fld hg hv ⟨hj.1, hj.2.1, hj.2.2, by omega, by omega⟩ e
  have tp := w.tape
  refine ⟨⟨p2.1, p2.2.1, ⟨by rw [r2]; exact ht.1.sm (s2 _ tp.1), by rw [r2, (s2 _ tp.2.1).1]; exact ht.2⟩, ?_⟩, ⟨p2.2.2.2, p2.2.2.1.2.2.2.2.2.2.2, by rw [f2, if_neg (by omega)], by rw [(p2.2.2.1.2.1 (a + 117 + 30) (by omega) (by omega)).2.2.2]⟩, f2⟩
  rw [r2]
  exact hx.ra p2.2.2.1
/-- the tables, as the solver will be told them -/
theorem XD.tt (h : XD M a g n W L w L B) (hw : B L = w) (hF : F 0 = 0 ∧ F n = L ∧ ∀ k, k < n → F k ≤ F (k + 1) ∧ mI M (a + 107) k = (F k : Int) ∧ mI M (a + 108) k = ((F (k + 1) - F k : Nat) : Int)) : TT M a n L w F B (nt M (a + 115)) (mI M (a + 21185)) (mL M (a + 21186)) (mL M (a + 21187)) := by
  have hL := h.le
  have mB := h.mono
  have mF : ∀ k, k ≤ n → F k ≤ L := fun k hk => by
    have : ∀ j, j ≤ n - k → F k ≤ F (k + j) := fun j => by
      induction j with
      | zero => intro _; exact Nat.le_refl _
      | succ j ih =>
        intro hj
        have a1 := ih (by omega)
        have a2 := (hF.2.2 (k + j) (by omega)).1
        have e : k + (j + 1) = k + j + 1 := by omega
        rw [e]
        omega
    have := this (n - k) (Nat.le_refl _)
    rw [show k + (n - k) = n by omega, hF.2.1] at this
    exact this
  obtain ⟨d1, d2, d3, d4, ⟨l1, l2, l3, l4⟩, d6, d7⟩ := h
  refine ⟨⟨d1.2.2, hL, d2.2⟩, ⟨hF.2.1, fun k hk => ⟨(hF.2.2 k hk).2.1, (hF.2.2 k hk).2.2, (hF.2.2 k hk).1, mF (k + 1) (by omega)⟩⟩, ⟨l2, l3, l4⟩, fun i hi => ?_, fun j hj => ?_⟩
  · obtain ⟨o1, o2, o3, o4, o5⟩ := d7 i hi
    have := mB (i + 1) L (by omega) (Nat.le_refl _)
    exact ⟨o2.1, o2.2, by omega, by omega, rfl⟩
  · obtain ⟨y1, y2, y3⟩ := d4 j hj
    exact ⟨rfl, rfl, rfl, ⟨by omega, by omega⟩, ⟨by omega, by omega⟩, ⟨by omega, by omega⟩⟩
/-- all states are told -/
theorem exp_sv {mu to up dn : Nat → Int} (h : XD M a g n W L w L B) (hw : B L = w) (hF : F 0 = 0 ∧ F n = L ∧ ∀ k, k < n → F k ≤ F (k + 1) ∧ mI M (a + 107) k = (F k : Int) ∧ mI M (a + 108) k = ((F (k + 1) - F k : Nat) : Int)) (e1 : mu = nt M (a + 115)) (e2 : to = mI M (a + 21185)) (e3 : up = mL M (a + 21186)) (e4 : dn = mL M (a + 21187)) (t : TL M2 (a + 117) F B mu to up dn n L w) : Sv M2 (a + 117) n ∧ ∀ k, k < n → mny M2 (a + 117) k = ((F (k + 1) - F k : Nat) : Int) := by
  subst e1 e2 e3 e4
  have hL := h.le
  have mB := h.mono
  obtain ⟨d1, d2, d3, d4, ⟨l1, l2, l3, l4⟩, d6, d7⟩ := id h
  refine t.sv d1.2.2 (by omega) d2.2 ⟨hF.1, hF.2.1, fun k hk => (hF.2.2 k hk).1⟩ ⟨d6.1, hw, fun k hk => (d7 k hk).1⟩ (fun j hj => (d4 j hj).1) (fun k hk => (d7 k hk).2.2.1) (fun j hj => ⟨(d4 j hj).2.1.1, (d4 j hj).2.2.1⟩) (fun k hk j j0 j1 => (d7 k hk).2.2.2.1 j j0 j1) (fun k hk => (d7 k hk).2.2.2.2)
/-- the states after the loop -/
def pI (M : mM) (a g T R W C Z : Nat) (E : Eg9) (tg : Int) (k : Nat) (M2 : mM) : Prop := xF M a M2 ∧ GG M2 a g T R W C Z E tg ∧ (mI M2 a 16 = 0 → ∃ (n L w : Nat) (B F : Nat → Nat), XD M2 a g n W L w L B ∧ B L = w ∧ k ≤ n ∧ (F 0 = 0 ∧ F k = L ∧ ∀ k', k' < k → F k' ≤ F (k' + 1) ∧ mI M2 (a + 107) k' = (F k' : Int) ∧ mI M2 (a + 108) k' = ((F (k' + 1) - F k' : Nat) : Int)))
theorem pI.next {k : Nat} {M3 : mM} (x : xF M a M2) (h : sI M2 a g T R W C Z E tg n L k B M3) (xd : XD M2 a g n W L w L B) (hw : B L = w) (hk : k < n) (hF : F 0 = 0 ∧ F k = L ∧ ∀ k', k' < k → F k' ≤ F (k' + 1) ∧ mI M2 (a + 107) k' = (F k' : Int) ∧ mI M2 (a + 108) k' = ((F (k' + 1) - F k' : Nat) : Int)) : pI M a g T R W C Z E tg (k + 1) M3 := by
  obtain ⟨x3, gg3, en3, hh⟩ := h
  refine ⟨x.trans x3, gg3, fun z => ?_⟩
  obtain ⟨⟨t1, t2⟩, n2, L2, w2, B2, y1, y2, y3, y4, y5, y6⟩ := hh z
  obtain ⟨F', hF'⟩ : ∃ F' : Nat → Nat, ∀ i, F' i = if i ≤ k then F i else L2 := ⟨fun i => if i ≤ k then F i else L2, fun _ => rfl⟩
  have fl : ∀ i, i ≤ k → F' i = F i := fun i hi => by rw [hF', if_pos hi]
  have fk : F' (k + 1) = L2 := by rw [hF', if_neg (by omega)]
  refine ⟨n2, L2, w2, B2, F', y6, y5, by omega, by rw [fl 0 (by omega)]; exact hF.1, fk, fun k' hk' => ?_⟩
  by_cases e : k' = k
  · subst e
    rw [fk, fl k' (Nat.le_refl _), hF.2.1]
    exact ⟨y2, t1, y3⟩
  · rw [fl k' (by omega), fl (k' + 1) (by omega), (t2 k' e).1, (t2 k' e).2]
    exact hF.2.2 k' (by omega)
end EXP
