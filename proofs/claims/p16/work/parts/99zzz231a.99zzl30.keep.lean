/-! The class's top: numbers of which nothing was touched. -/
section NCQ
variable {G : mG} {d t g s b e f i j a Ra n cn cc bc cn' cc' bc' z w x Y Cy : Nat} {v R k : Nat → Nat} {M M0 M' M1 : mM} {L L' : List Nat} {W : Nat → Nat} {T C S Z : Nat → Prop} {r : Prop}
theorem FC.sm (h : FC Z M M') (hx : x < mZ M) (nz : ¬ Z x) : Sm M M' x := ⟨(h.2 x hx).1, (h.2 x hx).2.1, ((h.2 x hx).2.2 nz).2.1, ((h.2 x hx).2.2 nz).2.2⟩
theorem SoT.sm (h : SoT M s g) (hs : ∀ x, s ≤ x → x ≤ s + 134 → Sm M M' x) : SoT M' s g := by
  have q := fun i (hi : i ≤ 134) => hs (s + i) (by omega) (by omega)
  obtain ⟨⟨a1, a2⟩, a3, a4, a5⟩ := h
  have s0 := hs s (by omega) (by omega)
  exact ⟨⟨by rw [s0.1]; exact a1, a2⟩, by rw [s0.2.2.1]; exact a3, by rw [(q 29 (by decide)).1, (q 30 (by decide)).1, (q 122 (by decide)).1, (q 123 (by decide)).1, (q 124 (by decide)).1, (q 125 (by decide)).1, (q 126 (by decide)).1, (q 128 (by decide)).1, (q 129 (by decide)).1]; exact a4, by rw [(q 29 (by decide)).2.1, (q 30 (by decide)).2.1, (q 122 (by decide)).2.1, (q 123 (by decide)).2.1, (q 124 (by decide)).2.1, (q 125 (by decide)).2.1, (q 126 (by decide)).2.1, (q 128 (by decide)).2.1, (q 129 (by decide)).2.1]; exact a5⟩
theorem SG.sm (h : SG M s g cn cc bc) (o : mOk M') (hs : ∀ x, s ≤ x → x ≤ s + 134 → Sm M M' x) (hg : ∀ i, i ≤ 9 → Sm M M' (g + i)) : SG M' s g cn cc bc := by
  obtain ⟨-, h2, ⟨b1, b2, b3, b4⟩, ⟨h4, h5⟩, h6⟩ := h
  have g0 := hg 0 (by decide)
  rw [Nat.add_zero] at g0
  exact ⟨o, h2.sm hs, ⟨by rw [g0.1]; exact b1, by rw [g0.2.2.1]; exact b2, fun i i1 i2 => by rw [(hg i i2).1]; exact b3 i i1 i2, by rw [(hg 2 (by decide)).2.1, (hg 4 (by decide)).2.1, (hg 6 (by decide)).2.1, (hg 7 (by decide)).2.1, (hg 8 (by decide)).2.1, (hg 9 (by decide)).2.1]; exact b4⟩, ⟨by rw [g0.2.2.1]; exact h4, by rw [(hg 3 (by decide)).2.1]; exact h5⟩, h6.same (fun i hi => (hg i hi).2.2.2)⟩
theorem Tb1.sm (h : Tb1 L M s b a Ra n) (ha : mK M' a = mK M a ∧ mR M' a = mR M a) (hR : Sm M M' Ra) (hrow : ∀ j, j < n → Sm M M' (mR M Ra j)) (hr : ∀ a, a ∈ L → mR M' a = mR M a) (hz : mZ M ≤ mZ M') : Tb1 L M' s b a Ra n := by
  obtain ⟨⟨h1, h2, h3, h4, ⟨h5, h6⟩, h7⟩, h8, h9, h10, h11⟩ := h
  exact ⟨⟨by rw [ha.1]; exact h1, by rw [ha.2]; exact h2, by rw [hR.1]; exact h3, by rw [hR.2.1]; exact h4, ⟨h5.sm hr hz, h6.sm hr hz⟩, fun i hi => by rw [hR.2.2.1]; exact (h7 i hi).sm (hrow i hi) hz⟩, by rw [hR.2.2.1]; exact h8, by unfold RwD; rw [hR.2.2.1]; exact h9, h10, h11⟩
/-- all cells of the numbers are the same, but for the marks of the tables -/
def Ks (L : List Nat) (s : Nat) (v R k : Nat → Nat) (M M' : mM) : Prop := mZ M ≤ mZ M' ∧ (∀ x, s ≤ x → x ≤ s + 134 → Sm M M' x) ∧ (∀ a, a ∈ L → Sm M M' a ∧ Sm M M' (mR M a 0)) ∧ (∀ i, i < 4 → (mK M' (v i) = mK M (v i) ∧ mR M' (v i) = mR M (v i)) ∧ Sm M M' (R i) ∧ ∀ j, j < k i → Sm M M' (mR M (R i) j))
/-- the same, without the Solver's own cell -/
def Ks0 (L : List Nat) (s : Nat) (v R k : Nat → Nat) (M M' : mM) : Prop := mZ M ≤ mZ M' ∧ (∀ x, s < x → x ≤ s + 134 → Sm M M' x) ∧ (∀ a, a ∈ L → Sm M M' a ∧ Sm M M' (mR M a 0)) ∧ (∀ i, i < 4 → (mK M' (v i) = mK M (v i) ∧ mR M' (v i) = mR M (v i)) ∧ Sm M M' (R i) ∧ ∀ j, j < k i → Sm M M' (mR M (R i) j))
theorem Nms.keep0 (h : Nms L W s g b cn cc bc v R k M) (hk : Ks0 L s v R k M M') (sg : SG M' s g cn' cc' bc') (tk : ∀ i, i < 4 → i ≠ 2 → mI M' (v i) 1 = 0 ∨ (mI M' (v i) 1 = mI M (v i) 1 ∧ cn' = cn) ∨ cn' = 0) : Nms L W s g b cn' cc' bc' v R k M' ∧ ∀ a, a ∈ L → cp M' a = cp M a := by
  obtain ⟨⟨-, ⟨hF, hS, hRs, hf⟩, hSt, hgo⟩, tb, ⟨b1, b2⟩, tk0⟩ := h
  obtain ⟨hz, k1, k2, k3⟩ := hk
  obtain ⟨F', nvs⟩ := hF.sm k2 hz
  have hr : ∀ a, a ∈ L → mR M' a = mR M a := fun a ha => (nvs a ha).2.2
  refine ⟨⟨⟨sg, ⟨F', hS.sm (k1 _ (by omega) (by omega)) (k1 _ (by omega) (by omega)) (k1 _ (by omega) (by omega)) (k1 _ (by omega) (by omega)) hz, hRs.sm (fun i hi => k1 _ (by omega) (by omega)) hr hz, hf.sm (k1 _ (by omega) (by omega)) hz⟩, fun x hx => (hSt x hx).sm hr hz, fun i hi => (hgo i hi).sm hr hz⟩, ⟨fun i hi => (tb.1 i hi).sm (k3 i hi).1 (k3 i hi).2.1 (k3 i hi).2.2 hr hz, fun i j hi hj ij => ⟨?_, (tb.2 i j hi hj ij).2⟩⟩, ⟨b1, by omega⟩, fun i hi i2 => ?_⟩, fun a ha => (nvs a ha).2.1⟩
  · unfold Rsp
    rw [(k3 i hi).2.1.2.2.1, (k3 j hj).2.1.2.2.1]
    exact (tb.2 i j hi hj ij).1
  · rcases tk i hi i2 with e | ⟨e, ec⟩ | ec
    · intro kn
      exact absurd e kn
    · rw [ec]
      refine (tk0 i hi i2).keep (Or.inl e) (k3 i hi).2.1.2.2.1 (fun l hl => ?_)
      have fl := (tb.1 i hi).1.2.2.2.2.2 l hl
      exact ⟨(nvs _ fl.2.1).1, (nvs _ fl.2.2).1, ((k3 i hi).2.2 l hl).2.2.2⟩
    · subst ec
      exact fun _ => ⟨Nat.zero_le _, fun l hl => absurd hl (Nat.not_lt_zero _), fun l hl => absurd hl (Nat.not_lt_zero _)⟩
theorem Nms.keep (h : Nms L W s g b cn cc bc v R k M) (hk : Ks L s v R k M M') (sg : SG M' s g cn' cc' bc') (tk : ∀ i, i < 4 → i ≠ 2 → mI M' (v i) 1 = 0 ∨ (mI M' (v i) 1 = mI M (v i) 1 ∧ cn' = cn) ∨ cn' = 0) : Nms L W s g b cn' cc' bc' v R k M' ∧ ∀ a, a ∈ L → cp M' a = cp M a := h.keep0 ⟨hk.1, fun x a b => hk.2.1 x (Nat.le_of_lt a) b, hk.2.2⟩ sg tk
/-- the room of the numbers is the same -/
theorem pn_cg (hc : ∀ a, a ∈ L → cp M' a = cp M a) : Pn L k M' = Pn L k M ∧ Qn L k M' = Qn L k M := by
  unfold Pn Qn
  rw [psum_cg L hc, psum_cg (f := fun p => cp M' p / 4) (g := fun p => cp M p / 4) L (fun p hp => by show cp M' p / 4 = cp M p / 4; rw [hc p hp])]
  exact ⟨rfl, rfl⟩
/-- the cells of the numbers -/
def Zm (L : List Nat) (s : Nat) (v R k : Nat → Nat) (M : mM) (x : Nat) : Prop := (s ≤ x ∧ x ≤ s + 134) ∨ x ∈ L ∨ (∃ a, a ∈ L ∧ x = mR M a 0) ∨ ∃ i, i < 4 ∧ (x = v i ∨ x = R i ∨ ∃ j, j < k i ∧ x = mR M (R i) j)
theorem zm_in (hc : Cnu Z L s v R k M) : ∀ x, Zm L s v R k M x → Z x := fun x u => by
  rcases u with u | u | ⟨a, ha, u⟩ | ⟨i, hi, u | u | ⟨j, hj, u⟩⟩
  · exact hc.1 x u.1 u.2
  · exact (hc.2.1 x u).1
  · rw [u]; exact (hc.2.1 a ha).2
  · rw [u]; exact (hc.2.2.1 i hi).1
  · rw [u]; exact (hc.2.2.1 i hi).2.1
  · rw [u]; exact (hc.2.2.1 i hi).2.2 j hj
/-- what leaves them alone -/
theorem FC.ks (f : FC Z M M') (h : Nms L W s g b cn cc bc v R k M) (hz : ∀ x, Zm L s v R k M x → ¬ Z x ∨ ∃ i, i < 4 ∧ x = v i ∧ mR M' x = mR M x) : Ks L s v R k M M' := by
  have tb := h.2.1
  have hF := h.1.2.1.1
  have hk : ∀ i, i < 4 → mK M (v i) = 13 := fun i hi => (tb.1 i hi).1.1
  have sm : ∀ x, x < mZ M → Zm L s v R k M x → mK M x ≠ 13 → Sm M M' x := fun x hx zx k13 => by
    rcases hz x zx with u | ⟨i, hi, u, -⟩
    · exact f.sm hx u
    · rw [u] at k13; exact absurd (hk i hi) k13
  have zz := h.2.2.1
  refine ⟨f.1.1, fun x a1 a2 => ?_, fun a ha => ⟨sm a (hF.lt ha).1 (Or.inr (Or.inl ha)) (by rw [hF.kd ha]; decide), sm _ (hF.lt ha).2 (Or.inr (Or.inr (Or.inl ⟨a, ha, rfl⟩))) (by rw [hF.ka ha]; decide)⟩, fun i hi => ⟨⟨?_, ?_⟩, ?_, fun j hj => ?_⟩⟩
  · rcases hz x (Or.inl ⟨a1, a2⟩) with u | ⟨i, hi, u, -⟩
    · exact f.sm (by omega) u
    · have := (tb.1 i hi).2.2.2.2.1; omega
  · exact (f.2 _ (tb.1 i hi).1.2.2.2.2.1.1.1).1
  · have lt := (tb.1 i hi).1.2.2.2.2.1.1.1
    rcases hz (v i) (Or.inr (Or.inr (Or.inr ⟨i, hi, Or.inl rfl⟩))) with u | ⟨-, -, -, u⟩
    · exact ((f.2 _ lt).2.2 u).2.1
    · exact u
  · exact sm _ (tb.1 i hi).1.2.2.2.2.1.2.1 (Or.inr (Or.inr (Or.inr ⟨i, hi, Or.inr (Or.inl rfl)⟩))) (by rw [(tb.1 i hi).1.2.2.1]; decide)
  · have fl := (tb.1 i hi).1.2.2.2.2.2 j hj
    exact sm _ fl.1.2.2 (Or.inr (Or.inr (Or.inr ⟨i, hi, Or.inr (Or.inr ⟨j, hj, rfl⟩)⟩))) (by rw [fl.1.1]; decide)
/-- a step elsewhere -/
theorem Nms.off (h : Nms L W s g b cn cc bc v R k M) (f : FC Z M M') (o : mOk M') (hz : ∀ x, Zm L s v R k M x → ¬ Z x) (hg : ∀ i, i ≤ 9 → ¬ Z (g + i)) : Nms L W s g b cn cc bc v R k M' ∧ Ks L s v R k M M' ∧ ∀ a, a ∈ L → cp M' a = cp M a := by
  have bz := h.2.2.1
  have ks := f.ks h (fun x u => Or.inl (hz x u))
  obtain ⟨a1, a2⟩ := h.keep ks (h.1.1.sm o (fun x a b => f.sm (by omega) (hz x (Or.inl ⟨a, b⟩))) (fun i hi => f.sm (h.1.2.2.2 i hi).1 (hg i hi))) (fun i hi i2 => Or.inr (Or.inl ⟨by rw [(f.sm (h.2.1.1 i hi).1.2.2.2.2.1.1.1 (hz _ (Or.inr (Or.inr (Or.inr ⟨i, hi, Or.inl rfl⟩))))).2.2.2], rfl⟩))
  exact ⟨a1, ks, a2⟩
theorem Ks.cnu {Y' : Nat → Prop} (hk : Ks L s v R k M M') (f : FC Y' M M') (hc : Cnu Z L s v R k M) : Cnu Z L s v R k M' := by
  obtain ⟨hz, k1, k2, k3⟩ := hk
  obtain ⟨d1, ⟨⟨d2, d3, d4⟩, d5, d6⟩, d7⟩ := hc.2.2.2
  have hr : ∀ a, a ∈ L → mR M' a = mR M a := fun a ha => (k2 a ha).1.2.2.1
  refine ⟨hc.1, fun a ha => by rw [(k2 a ha).1.2.2.1]; exact hc.2.1 a ha, fun i hi => ?_, d1, ⟨⟨by rw [(k1 s (Nat.le_refl _) (by omega)).2.2.1]; exact d2, by rw [(f.2 _ d5.1).1]; exact d3, by rw [(f.2 _ d5.1).2.1]; exact d4⟩, d5.sm hr hz, d6⟩, d7.sm hr hz⟩
  rw [(k3 i hi).2.1.2.2.1]
  exact hc.2.2.1 i hi
/-- what lies outside is no number and no limbs -/
theorem Cnu.oc (h : Cnu Z L s v R k M) (hx : x < mZ M) (nz : ¬ Z x) : Oc L M x := ⟨hx, fun u => nz (h.2.1 x u).1, fun a ha e => nz (by rw [← e]; exact (h.2.1 a ha).2)⟩
/-- a table is known -/
theorem Nms.mark (h : Nms L W s g b cn cc bc v R k M) (i4 : i < 4) (tk : cn ≤ k i ∧ Rsm M (R i) cn 17 ∧ Rt1 M (R i) cn) (e : M' = mUI M (v i) 1 1) : Nms L W s g b cn cc bc v R k M' ∧ FI (fun x => x = v i) M M' ∧ mOk M' := by
  have sv := h.1.sva h.2.2.1.1 (h.2.1.1 i i4)
  have f5 : FI (fun x => x = v i) M M' := by rw [e]; exact FI.ui rfl
  have o5 : mOk M' := by rw [e]; exact mOk_UI sv.1.1 ⟨by decide, by decide⟩
  obtain ⟨S5, n5, r5⟩ := sv.fi (f5.mono (fun x u => Or.inl u)) o5
  have rows := sv.2.2.2.2.1.2.2.2.2.2
  refine ⟨⟨S5.sb, h.2.1.fi f5, ⟨h.2.2.1.1, by rw [f5.2.2.2.2.1]; exact h.2.2.1.2⟩, fun j hj j2 => ?_⟩, f5, o5⟩
  by_cases c : j = i
  · subst c
    obtain ⟨c1, lr, lt⟩ := tk
    refine fun _ => ⟨c1, fun l hl => ?_, fun l hl => ?_⟩
    · rw [f5.2.2.1, n5 _ (rows l (by omega)).2.1, n5 _ (rows l (by omega)).2.2]; exact lr l hl
    · rw [f5.2.2.1, r5 l (by omega)]; exact lt l hl
  · exact (h.2.2.2 j hj j2).fi (h.2.1.1 j hj) sv.2.1.1 f5 o5 sv.z9 (fun x u => by rw [u]; exact ⟨(h.2.1.1 i i4).1.2.2.2.2.1.1, by rw [(h.2.1.1 i i4).1.1]; decide⟩) (Or.inl (by rw [f5.2.2.2.2.2.2 _ (fun u => (h.2.1.2 j i hj i4 c).2.1 u)]))
end NCQ
