section
/-! The reference: workOut. -/
section WT
variable {G : mG} {F : Prop} {d a g R W T : Nat} {M : mM} {E : Nat → Nat}
/-- a rule has been worked out, or a fault told -/
def wrkQ (F : Prop) (M : mM) (a g R W T : Nat) (t : Int) (M' : mM) : Prop := EO F M a g R W T M' ∧ (mI M' a 16 ≠ 0 ∨ (mI M' a 16 = 0 ∧ vok t (mL M' (a + 97) 0) (mL M' (a + 98) 0)))
theorem s_MM_workOut {b f n e : Nat} {t : Int} (h : Ev F M a g R W T) (hF : F → Fm M g R W T E) (hb : b ≤ R) (hbE : ∀ r : Nat, r < b → mI M (g + 13) r ≠ 0 → E r ≤ n) (ht : Ty (nme F M g b W) (tn M g) M g f 0 n e (fun _ => t)) (he : e ≤ T) : Cv G y_MM_workOut (d + 4) [vr a, vr g, vi n] M (fun M' => mOk M' ∧ wrkQ F M a g R W T t M') := by
  obtain ⟨hO, w, hg, hd, hB, -, -⟩ := id h
  have hlt := ht.tn.lt
  refine k_MM_workOut hO (i32s (by omega) (by omega)) ⟨w.1.1, fun M2 e2 => ?_⟩
  obtain ⟨m2, f2⟩ := mv_fld (v := 0) ⟨by omega, by omega⟩ hO w e2
  have E2 : EO F M a g R W T M2 := (EO.refl h).step m2 (fun _ z => z.elim) (fun x hx => Or.inl hx) (fun i _ _ i3 => by rw [f2, if_neg i3])
  have w2 := m2.2.1
  rw [r24w w2]
  refine ⟨(w2.nu n99).1, fun M5 e5 => ?_⟩
  have b99 : 0 ≤ ln M2 (a + 99) := (w2.nu n99).2.2.2.1.1
  obtain ⟨m5, l5, -, -⟩ := mv_set m2.1 w2 n99 (v := 0) (by omega) b99 e5
  have E5 := E2.pile m5
  have K5 := kp99 w2 m5
  refine (s_MM_todo (d := d + 2) (X := 0) ⟨by omega, by omega⟩ (i32s (by omega) (by omega)) m5.1 m5.2.1 l5 (by omega)).mono (fun M7 t7 => ⟨t7.1, ?_⟩)
  obtain ⟨o7, m7, l7, -, x7, y7⟩ := t7
  have E7 := E5.pile m7
  have K7 := kp99 E5.1.2.1 m7
  have fin : ∀ M3, EO F M a g R W T M3 → mI M3 a 16 ≠ 0 → mOk M3 ∧ wrkQ F M a g R W T t M3 := fun M3 h3 z => ⟨h3.1.1, h3, Or.inl z⟩
  refine s_wo_f fin E7 (fun z => ?_)
  refine s_wo_run h hF fin b f 0 n e n e 0 0 1 (fun _ => t) M7 hb hbE (by omega) ht (Nat.le_refl _) (Nat.le_refl _) he E7 z l7 (fun j hj => ?_) (by rw [K7.1, K5.1, f2, if_pos rfl]; rfl) (by omega) (by omega) (fun M8 h8 => ?_)
  · have j0 : j = 0 := by omega
    subst j0
    exact ⟨x7, y7⟩
  · obtain ⟨E8, z16, l8, -, -, -, o8⟩ := h8
    have w8 := E8.1.2.1
    have l8' : mI M8 (a + 99) 1 = 0 := l8
    refine k_MM_workOut_19 E8.1.1 ?_
    rw [r24w w8, l8']
    exact ⟨w8.1.1, (w8.nu n99).1, fun _ => ⟨E8.1.1, E8, Or.inr ⟨z16, o8 0 (by omega)⟩⟩, fun q => absurd (Or.inl (Int.le_refl _)) q⟩
end WT
end
section
/-! The reference: what is known of a game's rules, variables and commands. -/
section DF
variable {a g R W C Z T R' W' T' : Nat} {M M' : mM} {E E' : Nat → Nat}
/-- n is the root of a rule of type t, whose formulas lie before it -/
def Rt (M : mM) (g R W T : Nat) (E : Nat → Nat) (n t : Int) : Prop := ∃ n' b f e : Nat, n = (n' : Int) ∧ b ≤ R ∧ (∀ r : Nat, r < b → mI M (g + 13) r ≠ 0 → E r ≤ n') ∧ Ty (nme True M g b W) (tn M g) M g f 0 n' e (fun _ => t) ∧ e ≤ T
/-- the constants' values -/
def Cn (M : mM) (g R : Nat) : Prop := ∀ r : Nat, r < R → mI M (g + 13) r = 0 → vok (tn M g r) (mL M (g + 16) r) (mL M (g + 17) r)
/-- the variables' ranges -/
def Vr (M : mM) (g W : Nat) : Prop := ∀ v : Nat, v < W → (mI M (g + 18) v ≠ 0 → mI M (g + 19) v = 0 ∧ mI M (g + 20) v = 1) ∧ mI M (g + 19) v ≤ mI M (g + 21) v ∧ mI M (g + 21) v ≤ mI M (g + 20) v ∧ -1000000000 < mI M (g + 19) v ∧ mI M (g + 20) v < 1000000000 ∧ (mI M (g + 18) v = 0 ∨ mI M (g + 18) v = 1)
/-- a branch -/
def Bc (M : mM) (g R W T : Nat) (E : Nat → Nat) (Z x : Nat) : Prop := Rt M g R W T E (mI M (g + 26) x) 0 ∧ 0 ≤ mI M (g + 28) x ∧ 0 ≤ mI M (g + 29) x ∧ mI M (g + 28) x + mI M (g + 29) x ≤ Z
/-- a command -/
def Cc (M : mM) (g R W T : Nat) (E : Nat → Nat) (Z c : Nat) : Prop := Rt M g R W T E (mI M (g + 24) c) 1 ∧ 0 ≤ mI M (g + 25) c ∧ mI M (g + 25) c ≤ 8 ∧ ∀ b : Nat, (b : Int) < mI M (g + 25) c → Bc M g R W T E Z (8 * c + b)
/-- the sets -/
def Sx (M : mM) (g R W T : Nat) (E : Nat → Nat) (Z : Nat) : Prop := ∀ i : Nat, i < Z → 0 ≤ nt M (g + 30) i ∧ nt M (g + 30) i < W ∧ Rt M g R W T E (nt M (g + 34) i) (tn M g (100 + nt M (g + 30) i))
def Dg (M : mM) (g R W C Z T : Nat) (E : Nat → Nat) (tg : Int) : Prop := (R ≤ 60 ∧ W ≤ 12 ∧ C ≤ 60) ∧ Cn M g R ∧ Fm M g R W T E ∧ Vr M g W ∧ (∀ c : Nat, c < C → Cc M g R W T E Z c) ∧ Sx M g R W T E Z ∧ (tg = -1 ∨ Rt M g R W T E tg 1)
/-- the nodes and the names' types are the same so far -/
def Gn (M : mM) (g R W T : Nat) (M' : mM) : Prop := (∀ n, n < T → so M' g n = so M g n ∧ va M' g n = va M g n ∧ fp M' g n = fp M g n ∧ np M' g n = np M g n) ∧ (∀ r : Nat, r < R → mI M' (g + 13) r = mI M (g + 13) r ∧ mI M' (g + 14) r = mI M (g + 14) r) ∧ (∀ v : Nat, v < W → mI M' (g + 18) v = mI M (g + 18) v)
theorem Gn.tr {r : Nat} (h : Gn M g R W T M') (hR : R ≤ 60) (hr : r < R) : tn M' g r = tn M g r := by
  unfold tn
  rw [if_neg (show ¬ (100 : Int) ≤ (r : Int) by omega), if_neg (show ¬ (100 : Int) ≤ (r : Int) by omega), Int.toNat_natCast, (h.2.1 r hr).2]
theorem Gn.tv {v : Int} (h : Gn M g R W T M') (h1 : 100 ≤ v) (h2 : v < 100 + W) : tn M' g v = tn M g v := by
  unfold tn
  rw [if_pos h1, if_pos h1, h.2.2 _ (by omega)]
theorem Gn.tnm {v : Int} {b : Nat} (h : Gn M g R W T M') (hR : R ≤ 60) (hv : nme True M g b W v) (hb : b ≤ R) : tn M' g v = tn M g v := by
  rcases hv with ⟨h1, h2, -⟩ | ⟨-, h1, h2⟩
  · have := h.tr (r := v.toNat) hR (by omega)
    rw [show ((v.toNat : Nat) : Int) = v by omega] at this
    exact this
  · exact h.tv h1 h2
theorem nme.tt {v : Int} {b : Nat} (h : nme True M g b W v) : nme True M' g b W v := by
  rcases h with ⟨h1, h2, -⟩ | h
  · exact Or.inl ⟨h1, h2, Or.inl trivial⟩
  · exact Or.inr h
theorem nme.wu {v : Int} {b : Nat} (h : nme True M g b W v) (hW : W ≤ W') : nme True M g b W' v := by
  rcases h with ⟨h1, h2, h3⟩ | ⟨-, h1, h2⟩
  · exact Or.inl ⟨h1, h2, Or.inl trivial⟩
  · exact Or.inr ⟨trivial, h1, by omega⟩
theorem Gn.ty {b f n e : Nat} {u : Nat → Int} (h : Gn M g R W T M') (hR : R ≤ 60) (hb : b ≤ R) (he : e ≤ T) (t : Ty (nme True M g b W) (tn M g) M g f 0 n e u) : Ty (nme True M' g b W) (tn M' g) M' g f 0 n e u :=
  (t.mono (nm' := nme True M' g b W) (w' := tn M' g) (fun v hv => ⟨hv.tt, h.tnm hR hv hb⟩)).fr (fun k _ k2 => ⟨(h.1 k (by omega)).1, (h.1 k (by omega)).2.1, (h.1 k (by omega)).2.2.1⟩) (fun k _ k2 => (h.1 k (by omega)).2.2.2) (fun z => absurd rfl z)
theorem Rt.gn {n t : Int} (h : Rt M g R W T E n t) (k : Gn M g R W T M') (hR : R ≤ 60) : Rt M' g R W T E n t := by
  obtain ⟨n', b, f, e, h1, h2, h3, h4, h5⟩ := h
  exact ⟨n', b, f, e, h1, h2, fun r hr z => h3 r hr (by rw [← (k.2.1 r (by omega)).1]; exact z), k.ty hR h2 h5 h4, h5⟩
theorem Rt.up {n t : Int} (h : Rt M g R W T E n t) (hR : R ≤ R') (hW : W ≤ W') (hT : T ≤ T') (hE : ∀ r, r < R → E' r = E r) : Rt M g R' W' T' E' n t := by
  obtain ⟨n', b, f, e, h1, h2, h3, h4, h5⟩ := h
  exact ⟨n', b, f, e, h1, by omega, fun r hr z => by rw [hE r (by omega)]; exact h3 r hr z, h4.mono (fun v hv => ⟨hv.wu hW, rfl⟩), by omega⟩
theorem Fm.gn (h : Fm M g R W T E) (k : Gn M g R W T M') (hR : R ≤ 60) (h15 : ∀ r : Nat, r < R → mI M' (g + 15) r = mI M (g + 15) r) : Fm M' g R W T E := by
  intro r hr z
  rw [(k.2.1 r hr).1] at z
  obtain ⟨n, f, h1, h2, h3, h4⟩ := h r hr z
  refine ⟨n, f, by rw [h15 r hr]; exact h1, h2, fun r' hr' z' => h3 r' hr' (by rw [← (k.2.1 r' (by omega)).1]; exact z'), ?_⟩
  rw [k.tr hR hr]
  exact k.ty hR (by omega) h2 h4
theorem Fm.up (h : Fm M g R W T E) (hW : W ≤ W') (hT : T ≤ T') (hE : ∀ r, r < R → E' r = E r) : Fm M g R W' T' E' := by
  intro r hr z
  obtain ⟨n, f, h1, h2, h3, h4⟩ := h r hr z
  refine ⟨n, f, h1, by rw [hE r hr]; omega, fun r' hr' z' => by rw [hE r' (by omega)]; exact h3 r' hr' z', ?_⟩
  rw [hE r hr]
  exact h4.mono (fun v hv => ⟨hv.wu hW, rfl⟩)
/-- the draft so far is the same -/
def Ge (M : mM) (g R W C Z T : Nat) (M' : mM) : Prop := Gn M g R W T M' ∧ (∀ r : Nat, r < R → mI M' (g + 15) r = mI M (g + 15) r ∧ mL M' (g + 16) r = mL M (g + 16) r ∧ mL M' (g + 17) r = mL M (g + 17) r) ∧ (∀ v : Nat, v < W → mI M' (g + 19) v = mI M (g + 19) v ∧ mI M' (g + 20) v = mI M (g + 20) v ∧ mI M' (g + 21) v = mI M (g + 21) v) ∧ (∀ c : Nat, c < C → mI M' (g + 24) c = mI M (g + 24) c ∧ mI M' (g + 25) c = mI M (g + 25) c ∧ ∀ b : Nat, b < 8 → mI M' (g + 26) (8 * c + b) = mI M (g + 26) (8 * c + b) ∧ mI M' (g + 28) (8 * c + b) = mI M (g + 28) (8 * c + b) ∧ mI M' (g + 29) (8 * c + b) = mI M (g + 29) (8 * c + b)) ∧ ∀ i : Nat, i < Z → nt M' (g + 30) i = nt M (g + 30) i ∧ nt M' (g + 34) i = nt M (g + 34) i
theorem Bc.gn {x : Nat} (h : Bc M g R W T E Z x) (k : Gn M g R W T M') (hR : R ≤ 60) (e : mI M' (g + 26) x = mI M (g + 26) x ∧ mI M' (g + 28) x = mI M (g + 28) x ∧ mI M' (g + 29) x = mI M (g + 29) x) : Bc M' g R W T E Z x := by
  unfold Bc at h ⊢
  rw [e.1, e.2.1, e.2.2]
  exact ⟨h.1.gn k hR, h.2⟩
theorem Cc.gn {c : Nat} (h : Cc M g R W T E Z c) (k : Gn M g R W T M') (hR : R ≤ 60) (e : mI M' (g + 24) c = mI M (g + 24) c ∧ mI M' (g + 25) c = mI M (g + 25) c ∧ ∀ b : Nat, b < 8 → mI M' (g + 26) (8 * c + b) = mI M (g + 26) (8 * c + b) ∧ mI M' (g + 28) (8 * c + b) = mI M (g + 28) (8 * c + b) ∧ mI M' (g + 29) (8 * c + b) = mI M (g + 29) (8 * c + b)) : Cc M' g R W T E Z c := by
  unfold Cc at h ⊢
  rw [e.1, e.2.1]
  obtain ⟨h1, h2, h3, h4⟩ := h
  exact ⟨h1.gn k hR, h2, h3, fun b hb => (h4 b hb).gn k hR (e.2.2 b (by omega))⟩
theorem Bc.up {x Z' : Nat} (h : Bc M g R W T E Z x) (hR : R ≤ R') (hW : W ≤ W') (hT : T ≤ T') (hZ : Z ≤ Z') (hE : ∀ r, r < R → E' r = E r) : Bc M g R' W' T' E' Z' x := by
  obtain ⟨h1, h2, h3, h4⟩ := h
  exact ⟨h1.up hR hW hT hE, h2, h3, by omega⟩
theorem Cc.up {c Z' : Nat} (h : Cc M g R W T E Z c) (hR : R ≤ R') (hW : W ≤ W') (hT : T ≤ T') (hZ : Z ≤ Z') (hE : ∀ r, r < R → E' r = E r) : Cc M g R' W' T' E' Z' c := by
  obtain ⟨h1, h2, h3, h4⟩ := h
  exact ⟨h1.up hR hW hT hE, h2, h3, fun b hb => (h4 b hb).up hR hW hT hZ hE⟩
theorem Dg.ge {tg : Int} (h : Dg M g R W C Z T E tg) (k : Ge M g R W C Z T M') : Dg M' g R W C Z T E tg := by
  obtain ⟨hB, h1, h2, h3, h4, h5, h6⟩ := h
  obtain ⟨kn, k1, k2, k3, k4⟩ := k
  refine ⟨hB, fun r hr z => ?_, h2.gn kn hB.1 (fun r hr => (k1 r hr).1), fun v hv => ?_, fun c hc => (h4 c hc).gn kn hB.1 (k3 c hc), fun i hi => ?_, h6.imp (fun z => z) (fun z => z.gn kn hB.1)⟩
  · rw [(kn.2.1 r hr).1] at z
    rw [kn.tr hB.1 hr, (k1 r hr).2.1, (k1 r hr).2.2]
    exact h1 r hr z
  · rw [kn.2.2 v hv, (k2 v hv).1, (k2 v hv).2.1, (k2 v hv).2.2]
    exact h3 v hv
  · obtain ⟨s1, s2, s3⟩ := h5 i hi
    rw [(k4 i hi).1, (k4 i hi).2]
    refine ⟨s1, s2, ?_⟩
    rw [kn.tv (by omega) (by omega)]
    exact s3.gn kn hB.1
/-- more nodes -/
theorem Dg.tu {tg : Int} (h : Dg M g R W C Z T E tg) (hT : T ≤ T') : Dg M g R W C Z T' E tg := by
  obtain ⟨hB, h1, h2, h3, h4, h5, h6⟩ := h
  have r0 := Nat.le_refl R
  have w0 := Nat.le_refl W
  have hE : ∀ r, r < R → E r = E r := fun _ _ => rfl
  exact ⟨hB, h1, h2.up w0 hT hE, h3, fun c hc => (h4 c hc).up r0 w0 hT (Nat.le_refl Z) hE, fun i hi => ⟨(h5 i hi).1, (h5 i hi).2.1, (h5 i hi).2.2.up r0 w0 hT hE⟩, h6.imp (fun z => z) (fun z => z.up r0 w0 hT hE)⟩
/-- one more rule -/
theorem Dg.ru {tg : Int} (h : Dg M g R W C Z T E tg) (hR : R < 60) (hE : ∀ r, r < R → E' r = E r) (hc : mI M (g + 13) R = 0 → vok (tn M g R) (mL M (g + 16) R) (mL M (g + 17) R)) (hf : mI M (g + 13) R ≠ 0 → ∃ n f : Nat, mI M (g + 15) R = (n : Int) ∧ E' R ≤ T ∧ (∀ r' : Nat, r' < R → mI M (g + 13) r' ≠ 0 → E' r' ≤ n) ∧ Ty (nme True M g R W) (tn M g) M g f 0 n (E' R) (fun _ => tn M g R)) : Dg M g (R + 1) W C Z T E' tg := by
  obtain ⟨hB, h1, h2, h3, h4, h5, h6⟩ := h
  have r0 := Nat.le_succ R
  have w0 := Nat.le_refl W
  have t0 := Nat.le_refl T
  have f2 := h2.up w0 t0 hE
  refine ⟨⟨by omega, hB.2⟩, fun r hr z => ?_, fun r hr z => ?_, h3, fun c hc => (h4 c hc).up r0 w0 t0 (Nat.le_refl Z) hE, fun i hi => ⟨(h5 i hi).1, (h5 i hi).2.1, (h5 i hi).2.2.up r0 w0 t0 hE⟩, h6.imp (fun z => z) (fun z => z.up r0 w0 t0 hE)⟩
  · by_cases y : r = R
    · rw [y] at z ⊢; exact hc z
    · exact h1 r (by omega) z
  · by_cases y : r = R
    · rw [y] at z ⊢; exact hf z
    · exact f2 r (by omega) z
/-- one more variable -/
theorem Dg.vu {tg : Int} (h : Dg M g R W C Z T E tg) (hW : W < 12) (hv : (mI M (g + 18) W ≠ 0 → mI M (g + 19) W = 0 ∧ mI M (g + 20) W = 1) ∧ mI M (g + 19) W ≤ mI M (g + 21) W ∧ mI M (g + 21) W ≤ mI M (g + 20) W ∧ -1000000000 < mI M (g + 19) W ∧ mI M (g + 20) W < 1000000000 ∧ (mI M (g + 18) W = 0 ∨ mI M (g + 18) W = 1)) : Dg M g R (W + 1) C Z T E tg := by
  obtain ⟨hB, h1, h2, h3, h4, h5, h6⟩ := h
  have r0 := Nat.le_refl R
  have w0 := Nat.le_succ W
  have t0 := Nat.le_refl T
  have hE : ∀ r, r < R → E r = E r := fun _ _ => rfl
  refine ⟨⟨hB.1, by omega, hB.2.2⟩, h1, h2.up w0 t0 hE, fun v hv' => ?_, fun c hc => (h4 c hc).up r0 w0 t0 (Nat.le_refl Z) hE, fun i hi => ⟨(h5 i hi).1, by have := (h5 i hi).2.1; omega, (h5 i hi).2.2.up r0 w0 t0 hE⟩, h6.imp (fun z => z) (fun z => z.up r0 w0 t0 hE)⟩
  by_cases y : v = W
  · rw [y]; exact hv
  · exact h3 v (by omega)
/-- one more command -/
theorem Dg.cu {tg : Int} (h : Dg M g R W C Z T E tg) (hC : C < 60) (hc : Cc M g R W T E Z C) : Dg M g R W (C + 1) Z T E tg := by
  obtain ⟨hB, h1, h2, h3, h4, h5, h6⟩ := h
  refine ⟨⟨hB.1, hB.2.1, by omega⟩, h1, h2, h3, fun c hc' => ?_, h5, h6⟩
  by_cases y : c = C
  · rw [y]; exact hc
  · exact h4 c (by omega)
/-- one more set -/
theorem Dg.zu {tg : Int} (h : Dg M g R W C Z T E tg) (hs : 0 ≤ nt M (g + 30) Z ∧ nt M (g + 30) Z < W ∧ Rt M g R W T E (nt M (g + 34) Z) (tn M g (100 + nt M (g + 30) Z))) : Dg M g R W C (Z + 1) T E tg := by
  obtain ⟨hB, h1, h2, h3, h4, h5, h6⟩ := h
  have hE : ∀ r, r < R → E r = E r := fun _ _ => rfl
  refine ⟨hB, h1, h2, h3, fun c hc => (h4 c hc).up (Nat.le_refl _) (Nat.le_refl _) (Nat.le_refl _) (Nat.le_succ Z) hE, fun i hi => ?_, h6⟩
  by_cases y : i = Z
  · rw [y]; exact hs
  · exact h5 i (by omega)
theorem Dg.tgu {tg tg' : Int} (h : Dg M g R W C Z T E tg) (ht : tg' = -1 ∨ Rt M g R W T E tg' 1) : Dg M g R W C Z T E tg' :=
  ⟨h.1, h.2.1, h.2.2.1, h.2.2.2.1, h.2.2.2.2.1, h.2.2.2.2.2.1, ht⟩
end DF
end
