/-! The reference's draft and the pure state. -/
section RST
variable {a g N T K R W C Z : Nat} {M M' M2 M3 : mM} {nms : List nm9}
/-- the same text -/
def SXq (M : mM) (a : Nat) (M' : mM) : Prop := wk M' a = wk M a ∧ nt M' (a + 7) = nt M (a + 7) ∧ nt M' (a + 9) = nt M (a + 9) ∧ nt M' (mR M' a 2) = nt M (mR M a 2)
theorem SXq.refl : SXq M a M := ⟨rfl, rfl, rfl, rfl⟩
theorem SXq.trans (h : SXq M a M2) (k : SXq M2 a M3) : SXq M a M3 := ⟨k.1.trans h.1, k.2.1.trans h.2.1, k.2.2.1.trans h.2.2.1, k.2.2.2.trans h.2.2.2⟩
theorem SXq.sm (h : SXq M a M') : smx M' a = smx M a := by
  funext x y
  unfold smx
  rw [h.2.1, h.2.2.1, h.2.2.2]
theorem SXq.nv (h : SXq M a M') : nvq M' a = nvq M a := by
  funext k
  unfold nvq
  rw [h.1, h.2.1, h.2.2.1, h.2.2.2]
theorem iF.sx (h : iF M a g M') (w : Wd M a) (hg : g = a + 13 ∨ g = a + 49) : SXq M a M' := by
  have no : ∀ q, q = a + 1 ∨ q = a + 3 ∨ q = a + 5 ∨ q = a + 7 ∨ q = a + 9 → ¬ itP a g q := fun q hq z => by
    have := z.2
    omega
  have r := h.1.rfl_a w (fun q hq => hq.1)
  refine ⟨funext (fun k => (h.1.lst n5 (no _ (by omega))).2.1 k), funext (fun k => (h.1.lst n7 (no _ (by omega))).2.1 k), funext (fun k => (h.1.lst n9 (no _ (by omega))).2.1 k), ?_⟩
  rw [r]
  refine funext (fun k => (h.1.lst w.tape.2.1 (no _ ?_)).2.1 k)
  rcases w.1.2.1 with y | y <;> rw [y.2] <;> omega
/-- the values of numbers, in a text -/
def nuq (M : mM) (a k : Nat) : Int := numq (nt M (mR M a 2)) (nt M (a + 7) k).toNat (nt M (a + 9) k - nt M (a + 7) k).toNat
theorem SXq.nu (h : SXq M a M') : nuq M' a = nuq M a := by
  funext k
  unfold nuq
  rw [h.2.1, h.2.2.1, h.2.2.2]
/-- names stay what they are -/
theorem RSq.ge (h : RSq M a g K nms) (hn : Nm M a g N K) (g6 : mI M g 6 = R) (g12 : mI M g 12 = W) (hR : R ≤ 60) (k : Ge M g R W C Z T M') (sx : SXq M a M') (s85 : ∀ q, q < K → nt M' (a + 85) q = nt M (a + 85) q ∧ nt M' (a + 87) q = nt M (a + 87) q ∧ nt M' (a + 89) q = nt M (a + 89) q) : RSq M' a g K nms := by
  obtain ⟨h1, h2, h3, h4⟩ := h
  refine ⟨h1, fun q hq => ?_, fun p q hpq hq => ?_, fun p q hpq hq => by rw [(s85 p (by omega)).2.1, (s85 q hq).2.1, (s85 p (by omega)).2.2, (s85 q hq).2.2]; exact h4 p q hpq hq⟩
  · obtain ⟨e, e1, e2, e3, e4, e5, e6, e7⟩ := h2 q hq
    obtain ⟨s1, s2, s3⟩ := s85 q hq
    have nq := (hn.2.2.2.2 q hq).2.1
    rw [g6, g12] at nq
    refine ⟨e, e1, by rw [s1]; exact e2, by rw [s2]; exact e3, e4, ?_, fun z => ?_, by rw [s3]; exact e7⟩
    · rw [e5, s2, s3]
      by_cases c : nt M (a + 87) q = 3
      · rw [if_pos c]
        exact (k.1.tv (by omega) (by omega)).symm
      · rw [if_neg c]
        have := k.1.tr (r := (nt M (a + 89) q).toNat) hR (by omega)
        rw [show (((nt M (a + 89) q).toNat : Nat) : Int) = nt M (a + 89) q by omega] at this
        exact this.symm
    · rw [e6 z, s3, (k.2.1 _ (by omega)).2.1, (k.2.1 _ (by omega)).2.2]
  · rw [sx.sm, (s85 p (by omega)).1, (s85 q hq).1]
    exact h3 p q hpq hq
/-- one name more -/
theorem RSq.kn {u : Nat} {v x : Int} {e : nm9} (h : RSq M a g K nms) (hs : ∀ q, q < K → nt M' (a + 85) q = nt M (a + 85) q ∧ nt M' (a + 87) q = nt M (a + 87) q ∧ nt M' (a + 89) q = nt M (a + 89) q) (ht : tn M' g = tn M g) (hl : mL M' (g + 16) = mL M (g + 16) ∧ mL M' (g + 17) = mL M (g + 17)) (sx : SXq M a M') (e1 : nt M' (a + 85) K = (u : Int)) (e2 : nt M' (a + 87) K = v) (e3 : nt M' (a + 89) K = x) (f1 : e.1 = u) (f2 : (e.2.1 : Int) = v) (f3 : 1 ≤ e.2.1 ∧ e.2.1 ≤ 3) (f4 : e.2.2.1 = tn M g (if v = 3 then 100 + x else x)) (f5 : e.2.1 = 1 → e.2.2.2 = vr9 e.2.2.1 (mL M (g + 16) x.toNat) (mL M (g + 17) x.toNat)) (hnew : fdn M a K u = -1) (f6 : v = 3 → ∀ p, p < K → nt M (a + 87) p = 3 → nt M (a + 89) p ≠ x) (f7 : x = if e.2.1 = 3 then ((vcn nms : Nat) : Int) else ((rcn nms : Nat) : Int)) : RSq M' a g (K + 1) (nms ++ [e]) := by
  obtain ⟨h1, h2, h3, h4⟩ := h
  refine ⟨by rw [List.length_append, h1]; rfl, fun q hq => ?_, fun p q hpq hq => ?_, fun p q hpq hq z1 z2 => ?_⟩
  · by_cases c : q = K
    · subst c
      refine ⟨e, by rw [List.getElem?_append_right (by omega), h1, Nat.sub_self]; rfl, by rw [e1, f1], by rw [e2, f2], f3, ?_, fun z => ?_, by rw [e3, f7, List.take_append_of_le_length (by omega), List.take_of_length_le (by omega)]⟩
      · rw [f4, e2, e3, ht]
      · rw [f5 z, e3, hl.1, hl.2]
    · obtain ⟨e', g1, g2, g3, g4, g5, g6, g7⟩ := h2 q (by omega)
      obtain ⟨s1, s2, s3⟩ := hs q (by omega)
      exact ⟨e', by rw [List.getElem?_append_left (by omega)]; exact g1, by rw [s1]; exact g2, by rw [s2]; exact g3, g4, by rw [g5, s2, s3, ht], fun z => by rw [g6 z, s3, hl.1, hl.2], by rw [s3, List.take_append_of_le_length (by omega)]; exact g7⟩
  · rw [sx.sm, (hs p (by omega)).1]
    by_cases c : q = K
    · subst c
      rw [e1, Int.toNat_natCast]
      rcases fdn_x (M := M) (a := a) (K := q) u with ⟨-, k2⟩ | ⟨q', k1, -⟩
      · exact k2 p hpq
      · omega
    · rw [(hs q (by omega)).1]
      exact h3 p q hpq (by omega)
  · rw [(hs p (by omega)).2.1] at z1
    rw [(hs p (by omega)).2.2]
    by_cases c : q = K
    · subst c
      rw [e2] at z2
      rw [e3]
      exact f6 z2 p hpq z1
    · rw [(hs q (by omega)).2.1] at z2
      rw [(hs q (by omega)).2.2]
      exact h4 p q hpq (by omega) z1 z2
/-- the values of words -/
theorem RSq.cv (h : RSq M a g K nms) {k : Nat} (hk : wk M a k = 1 → Ern M a g K 1 k ≠ -1) : cvq M a g (nrq M a (rvn M a K)) k = cv9 (wk M a) (nuq M a) (smx M a) nms k := by
  unfold cvq cv9 nrq
  by_cases c : wk M a k = 1
  · rw [if_pos c, if_pos c, if_pos c]
    have hk := hk c
    unfold Ern at hk
    rcases h.fnd k with ⟨h1, h2⟩ | ⟨q, e, h1, h2, h3, h4⟩
    · rw [if_pos (Or.inl h1)] at hk
      exact absurd rfl hk
    · rw [h4]
      obtain ⟨e', z1, z2, z3, z4, z5, z6, -⟩ := h.2.1 q h2
      have : e' = e := Option.some.inj (z1.symm.trans h3)
      subst this
      have s1 : e'.2.1 = 1 := by
        by_cases c1 : nt M (a + 87) q = 1
        · rw [z3] at c1; omega
        · rw [if_pos (Or.inr ⟨by decide, by rw [h1, Int.toNat_natCast]; exact c1⟩)] at hk
          exact absurd rfl hk
      have s2 : nt M (a + 87) q ≠ 3 := by rw [z3, s1]; decide
      show _ = e'.2.2.2
      unfold rvn
      rw [z6 s1, h1, Int.toNat_natCast, if_neg s2, z5, if_neg s2]
  · rw [if_neg c, if_neg c]
    by_cases c2 : wk M a k = 2
    · rw [if_pos c2, if_pos c2, if_neg c]
      unfold nvq nuq
      rw [if_neg c, if_pos c2]
    · rw [if_neg c2, if_neg c2, if_neg c]
/-- how numbers and names stand in a tree -/
theorem RSq.nvo (h : RSq M a g K nms) : Nvq (wk M a) (nuq M a) (smx M a) nms (nrq M a (rvn M a K)) := by
  refine ⟨fun k hk => ?_, fun k hk l1 e l2 he hs hno => ?_⟩
  · unfold nrq nvq nuq
    rw [if_neg (by omega), if_neg (by omega), if_pos hk]
  · have hl : l1.length < K := by
      rw [← h.1, he, List.length_append, List.length_cons]
      omega
    have ge : nms[l1.length]? = some e := by rw [he, List.getElem?_append_right (Nat.le_refl _), Nat.sub_self]; rfl
    have tk : nms.take l1.length = l1 := by rw [he, List.take_left']; rfl
    obtain ⟨e0, z1, z2, z3, z4, z5, z6, z7⟩ := h.2.1 l1.length hl
    have e0e : e0 = e := Option.some.inj (z1.symm.trans ge)
    subst e0e
    have fq : fdn M a K k = (l1.length : Int) := by
      rcases fdn_x (M := M) (a := a) (K := K) k with ⟨f1, f2⟩ | ⟨q, f1, f2, f3, f4⟩
      · have := f2 l1.length hl
        rw [z2, Int.toNat_natCast] at this
        exact absurd hs this
      · rcases Nat.lt_trichotomy q l1.length with c | c | c
        · have := f4 l1.length c hl
          rw [z2, Int.toNat_natCast] at this
          exact absurd hs this
        · rw [f1, c]
        · have := h.2.2.1 l1.length q c f2
          rw [z2, Int.toNat_natCast] at this
          exact absurd (hs.trans f3.symm) this
    unfold nrq
    rw [if_pos hk]
    unfold rvn
    rw [fq, Int.toNat_natCast, z3, z7, tk]
    by_cases c : e0.2.1 = 3
    · rw [if_pos (by omega), if_pos c, if_pos c]
    · rw [if_neg (by omega), if_neg c, if_neg c]
end RST
