section
/-! The class's top: numbers of which nothing was touched. -/
section NCQ
variable {G : mG} {d t g s b e f i j a Ra n cn cc bc cn' cc' bc' z w x Y Cy : Nat} {v R k : Nat → Nat} {M M0 M' M1 : mM} {L L' : List Nat} {W : Nat → Nat} {T C S Z : Nat → Prop} {r : Prop}
/-- a cell is the same (but for longs) -/
def Sm (M M' : mM) (x : Nat) : Prop := mK M' x = mK M x ∧ mN M' x = mN M x ∧ mR M' x = mR M x ∧ mI M' x = mI M x
theorem FC.sm (h : FC Z M M') (hx : x < mZ M) (nz : ¬ Z x) : Sm M M' x := ⟨(h.2 x hx).1, (h.2 x hx).2.1, ((h.2 x hx).2.2 nz).2.1, ((h.2 x hx).2.2 nz).2.2⟩
theorem Nt.sm (h : Nt M a Y Cy n) (ha : Sm M M' a) (hY : Sm M M' Y) (hz : mZ M ≤ mZ M') : Nt M' a Y Cy n := by
  obtain ⟨⟨l0, p0, kX, nX, e, ne, y1, y2⟩, g1, g2, g3, g4⟩ := h
  exact ⟨⟨by rw [ha.1]; exact l0, by rw [ha.2.2.1]; exact p0, by rw [hY.1]; exact kX, by rw [hY.2.1]; exact nX, e, ne, by omega, by omega⟩, by rw [ha.2.2.2]; exact g1, g2, fun j hj => by rw [hY.2.2.2]; exact g3 j hj, by rw [hY.2.2.2]; exact g4⟩
theorem NF.sm (h : NF L W M) (hs : ∀ a, a ∈ L → Sm M M' a ∧ Sm M M' (mR M a 0)) (hz : mZ M ≤ mZ M') : NF L W M' ∧ ∀ a, a ∈ L → nv M' a = nv M a ∧ cp M' a = cp M a ∧ mR M' a = mR M a := by
  have cc : ∀ a, a ∈ L → cp M' a = cp M a := fun a ha => by
    unfold cp
    rw [(hs a ha).1.2.2.1, (hs a ha).2.2.1]
  have nt' : ∀ a, a ∈ L → Nt M' a (mR M a 0) (cp M a) (sz M a) := fun a ha => (h.nt ha).sm (hs a ha).1 (hs a ha).2 hz
  refine ⟨⟨h.1, fun a ha => ⟨(nt' a ha).nn, by rw [cc a ha]; exact (h.2.1 a ha).2.1, (h.2.1 a ha).2.2⟩, fun a b ha hb u => h.2.2 a b ha hb (by rw [← (hs a ha).1.2.2.1, ← (hs b hb).1.2.2.1]; exact u)⟩, fun a ha => ⟨?_, cc a ha, (hs a ha).1.2.2.1⟩⟩
  rw [(nt' a ha).nv, (h.nt ha).nv, (hs a ha).2.2.2.2]
theorem Oc.sm (h : Oc L M x) (hr : ∀ a, a ∈ L → mR M' a = mR M a) (hz : mZ M ≤ mZ M') : Oc L M' x := ⟨Nat.lt_of_lt_of_le h.1 hz, h.2.1, fun a ha u => h.2.2 a ha (by rw [← hr a ha]; exact u)⟩
theorem FrP.sm (h : FrP M f) (hs : Sm M M' f) (hz : mZ M ≤ mZ M') : FrP M' f := ⟨by rw [hs.1]; exact h.1, by rw [hs.2.2.1]; exact h.2.1, Nat.lt_of_lt_of_le h.2.2 hz⟩
theorem FrL.sm (h : FrL L M f) (hs : Sm M M' f) (hz : mZ M ≤ mZ M') : FrL L M' f := ⟨h.1.sm hs hz, h.2⟩
theorem SK.sm (h : SK L M z) (h0 : Sm M M' z) (h13 : Sm M M' (z + 13)) (h18 : Sm M M' (z + 18)) (h23 : Sm M M' (z + 23)) (hz : mZ M ≤ mZ M') : SK L M' z := by
  obtain ⟨⟨k1, k2⟩, k3, k4, ⟨k5, k6, k7⟩, ⟨k8, k9⟩, k10, k11⟩ := h
  exact ⟨⟨by rw [h0.1]; exact k1, by omega⟩, by rw [h0.2.2.1]; exact k3, by rw [h0.2.2.1]; exact k4, ⟨by rw [h13.1]; exact k5, by rw [h13.2.1]; exact k6, by omega⟩, ⟨k8.sm h18 hz, k9.sm h23 hz⟩, k10, k11⟩
theorem RsK.sm (h : RsK L M e) (hs : ∀ i, i ≤ 6 → Sm M M' (e + i)) (hr : ∀ a, a ∈ L → mR M' a = mR M a) (hz : mZ M ≤ mZ M') : RsK L M' e := by
  obtain ⟨⟨c0, c1, c2, c3⟩, c4, c5, c6⟩ := h
  have s0 := hs 0 (by decide)
  rw [Nat.add_zero] at s0
  have s1 := hs 1 (by decide)
  have s2 := hs 2 (by decide)
  have s3 := hs 3 (by decide)
  have s4 := hs 4 (by decide)
  have s5 := hs 5 (by decide)
  have s6 := hs 6 (by decide)
  refine ⟨⟨by rw [s0.1]; exact c0, by rw [s0.2.2.1]; exact c1, by rw [s1.1, s2.1, s3.1, s4.1, s5.1, s6.1]; exact c2, by rw [s1.2.1, s2.2.1, s3.2.1, s4.2.1, s5.2.1, s6.2.1]; exact c3⟩, fun i hi => (c4 i hi).sm hr hz, fun i hi => by rw [s2.2.2.1]; exact c5 i hi, c6⟩
theorem SoT.sm (h : SoT M s g) (hs : ∀ x, s ≤ x → x ≤ s + 133 → Sm M M' x) : SoT M' s g := by
  have q := fun i (hi : i ≤ 133) => hs (s + i) (by omega) (by omega)
  obtain ⟨⟨a1, a2⟩, a3, a4, a5⟩ := h
  have s0 := hs s (by omega) (by omega)
  exact ⟨⟨by rw [s0.1]; exact a1, a2⟩, by rw [s0.2.2.1]; exact a3, by rw [(q 29 (by decide)).1, (q 30 (by decide)).1, (q 122 (by decide)).1, (q 123 (by decide)).1, (q 124 (by decide)).1, (q 125 (by decide)).1, (q 126 (by decide)).1, (q 127 (by decide)).1, (q 128 (by decide)).1]; exact a4, by rw [(q 29 (by decide)).2.1, (q 30 (by decide)).2.1, (q 122 (by decide)).2.1, (q 123 (by decide)).2.1, (q 124 (by decide)).2.1, (q 125 (by decide)).2.1, (q 126 (by decide)).2.1, (q 127 (by decide)).2.1, (q 128 (by decide)).2.1]; exact a5⟩
theorem SG.sm (h : SG M s g cn cc bc) (o : mOk M') (hs : ∀ x, s ≤ x → x ≤ s + 133 → Sm M M' x) (hg : ∀ i, i ≤ 9 → Sm M M' (g + i)) : SG M' s g cn cc bc := by
  obtain ⟨-, h2, ⟨b1, b2, b3, b4⟩, ⟨h4, h5⟩, h6⟩ := h
  have g0 := hg 0 (by decide)
  rw [Nat.add_zero] at g0
  exact ⟨o, h2.sm hs, ⟨by rw [g0.1]; exact b1, by rw [g0.2.2.1]; exact b2, fun i i1 i2 => by rw [(hg i i2).1]; exact b3 i i1 i2, by rw [(hg 2 (by decide)).2.1, (hg 4 (by decide)).2.1, (hg 6 (by decide)).2.1, (hg 7 (by decide)).2.1, (hg 8 (by decide)).2.1, (hg 9 (by decide)).2.1]; exact b4⟩, ⟨by rw [g0.2.2.1]; exact h4, by rw [(hg 3 (by decide)).2.1]; exact h5⟩, h6.same (fun i hi => (hg i hi).2.2.2)⟩
theorem Tb1.sm (h : Tb1 L M s b a Ra n) (ha : mK M' a = mK M a ∧ mR M' a = mR M a) (hR : Sm M M' Ra) (hrow : ∀ j, j < n → Sm M M' (mR M Ra j)) (hr : ∀ a, a ∈ L → mR M' a = mR M a) (hz : mZ M ≤ mZ M') : Tb1 L M' s b a Ra n := by
  obtain ⟨⟨h1, h2, h3, h4, ⟨h5, h6⟩, h7⟩, h8, h9, h10, h11⟩ := h
  exact ⟨⟨by rw [ha.1]; exact h1, by rw [ha.2]; exact h2, by rw [hR.1]; exact h3, by rw [hR.2.1]; exact h4, ⟨h5.sm hr hz, h6.sm hr hz⟩, fun i hi => by rw [hR.2.2.1]; exact (h7 i hi).sm (hrow i hi) hz⟩, by rw [hR.2.2.1]; exact h8, by unfold RwD; rw [hR.2.2.1]; exact h9, h10, h11⟩
/-- all cells of the numbers are the same, but for the marks of the tables -/
def Ks (L : List Nat) (s : Nat) (v R k : Nat → Nat) (M M' : mM) : Prop := mZ M ≤ mZ M' ∧ (∀ x, s ≤ x → x ≤ s + 133 → Sm M M' x) ∧ (∀ a, a ∈ L → Sm M M' a ∧ Sm M M' (mR M a 0)) ∧ (∀ i, i < 4 → (mK M' (v i) = mK M (v i) ∧ mR M' (v i) = mR M (v i)) ∧ Sm M M' (R i) ∧ ∀ j, j < k i → Sm M M' (mR M (R i) j))
theorem Nms.keep (h : Nms L W s g b cn cc bc v R k M) (hk : Ks L s v R k M M') (sg : SG M' s g cn' cc' bc') (tk : ∀ i, i < 4 → i ≠ 2 → mI M' (v i) 1 = 0 ∨ (mI M' (v i) 1 = mI M (v i) 1 ∧ cn' = cn) ∨ cn' = 0) : Nms L W s g b cn' cc' bc' v R k M' ∧ ∀ a, a ∈ L → cp M' a = cp M a := by
  obtain ⟨⟨-, ⟨hF, hS, hRs, hf⟩, hSt, hgo⟩, tb, ⟨b1, b2⟩, tk0⟩ := h
  obtain ⟨hz, k1, k2, k3⟩ := hk
  obtain ⟨F', nvs⟩ := hF.sm k2 hz
  have hr : ∀ a, a ∈ L → mR M' a = mR M a := fun a ha => (nvs a ha).2.2
  refine ⟨⟨⟨sg, ⟨F', hS.sm (k1 _ (by omega) (by omega)) (k1 _ (by omega) (by omega)) (k1 _ (by omega) (by omega)) (k1 _ (by omega) (by omega)) hz, hRs.sm (fun i hi => k1 _ (by omega) (by omega)) hr hz, hf.sm (k1 _ (by omega) (by omega)) hz⟩, fun x hx => (hSt x hx).sm hr hz, fun i hi => (hgo i hi).sm hr hz⟩, ⟨fun i hi => (tb.1 i hi).sm (k3 i hi).1 (k3 i hi).2.1 (k3 i hi).2.2 hr hz, fun i j hi hj ij => ⟨?_, (tb.2 i j hi hj ij).2⟩⟩, ⟨b1, by omega⟩, fun i hi i2 => ?_⟩, fun a ha => (nvs a ha).2.1⟩
  · unfold Rsp
    rw [(k3 i hi).2.1.2.2.1, (k3 j hj).2.1.2.2.1]
    exact (tb.2 i j hi hj ij).1
  · rcases tk i hi i2 with e | ⟨e, ec⟩ | ec
    · intro kn
      exact absurd e kn
    · rw [ec]
      refine (tk0 i hi i2).keep (Or.inl e) (k3 i hi).2.1.2.2.1 (fun l hl => ?_)
      have fl := (tb.1 i hi).1.2.2.2.2.2 l hl
      exact ⟨(nvs _ fl.2.1).1, (nvs _ fl.2.2).1, ((k3 i hi).2.2 l hl).2.2.2⟩
    · subst ec
      exact fun _ => ⟨Nat.zero_le _, fun l hl => absurd hl (Nat.not_lt_zero _), fun l hl => absurd hl (Nat.not_lt_zero _)⟩
/-- the room of the numbers is the same -/
theorem pn_cg (hc : ∀ a, a ∈ L → cp M' a = cp M a) : Pn L k M' = Pn L k M ∧ Qn L k M' = Qn L k M := by
  unfold Pn Qn
  rw [psum_cg L hc, psum_cg (f := fun p => cp M' p / 4) (g := fun p => cp M p / 4) L (fun p hp => by show cp M' p / 4 = cp M p / 4; rw [hc p hp])]
  exact ⟨rfl, rfl⟩
/-- the cells of the numbers -/
def Zm (L : List Nat) (s : Nat) (v R k : Nat → Nat) (M : mM) (x : Nat) : Prop := (s ≤ x ∧ x ≤ s + 133) ∨ x ∈ L ∨ (∃ a, a ∈ L ∧ x = mR M a 0) ∨ ∃ i, i < 4 ∧ (x = v i ∨ x = R i ∨ ∃ j, j < k i ∧ x = mR M (R i) j)
theorem zm_in (hc : Cnu Z L s v R k M) : ∀ x, Zm L s v R k M x → Z x := fun x u => by
  rcases u with u | u | ⟨a, ha, u⟩ | ⟨i, hi, u | u | ⟨j, hj, u⟩⟩
  · exact hc.1 x u.1 u.2
  · exact (hc.2.1 x u).1
  · rw [u]; exact (hc.2.1 a ha).2
  · rw [u]; exact (hc.2.2 i hi).1
  · rw [u]; exact (hc.2.2 i hi).2.1
  · rw [u]; exact (hc.2.2 i hi).2.2 j hj
/-- what leaves them alone -/
theorem FC.ks (f : FC Z M M') (h : Nms L W s g b cn cc bc v R k M) (hz : ∀ x, Zm L s v R k M x → ¬ Z x ∨ ∃ i, i < 4 ∧ x = v i ∧ mR M' x = mR M x) : Ks L s v R k M M' := by
  have tb := h.2.1
  have hF := h.1.2.1.1
  have hk : ∀ i, i < 4 → mK M (v i) = 13 := fun i hi => (tb.1 i hi).1.1
  have sm : ∀ x, x < mZ M → Zm L s v R k M x → mK M x ≠ 13 → Sm M M' x := fun x hx zx k13 => by
    rcases hz x zx with u | ⟨i, hi, u, -⟩
    · exact f.sm hx u
    · rw [u] at k13; exact absurd (hk i hi) k13
  have zz := h.2.2.1
  refine ⟨f.1.1, fun x a1 a2 => ?_, fun a ha => ⟨sm a (hF.lt ha).1 (Or.inr (Or.inl ha)) (by rw [hF.kd ha]; decide), sm _ (hF.lt ha).2 (Or.inr (Or.inr (Or.inl ⟨a, ha, rfl⟩))) (by rw [hF.ka ha]; decide)⟩, fun i hi => ⟨⟨?_, ?_⟩, ?_, fun j hj => ?_⟩⟩
  · rcases hz x (Or.inl ⟨a1, a2⟩) with u | ⟨i, hi, u, -⟩
    · exact f.sm (by omega) u
    · have := (tb.1 i hi).2.2.2.2.1; omega
  · exact (f.2 _ (tb.1 i hi).1.2.2.2.2.1.1.1).1
  · have lt := (tb.1 i hi).1.2.2.2.2.1.1.1
    rcases hz (v i) (Or.inr (Or.inr (Or.inr ⟨i, hi, Or.inl rfl⟩))) with u | ⟨-, -, -, u⟩
    · exact ((f.2 _ lt).2.2 u).2.1
    · exact u
  · exact sm _ (tb.1 i hi).1.2.2.2.2.1.2.1 (Or.inr (Or.inr (Or.inr ⟨i, hi, Or.inr (Or.inl rfl)⟩))) (by rw [(tb.1 i hi).1.2.2.1]; decide)
  · have fl := (tb.1 i hi).1.2.2.2.2.2 j hj
    exact sm _ fl.1.2.2 (Or.inr (Or.inr (Or.inr ⟨i, hi, Or.inr (Or.inr ⟨j, hj, rfl⟩)⟩))) (by rw [fl.1.1]; decide)
/-- a step elsewhere -/
theorem Nms.off (h : Nms L W s g b cn cc bc v R k M) (f : FC Z M M') (o : mOk M') (hz : ∀ x, Zm L s v R k M x → ¬ Z x) (hg : ∀ i, i ≤ 9 → ¬ Z (g + i)) : Nms L W s g b cn cc bc v R k M' ∧ Ks L s v R k M M' ∧ ∀ a, a ∈ L → cp M' a = cp M a := by
  have bz := h.2.2.1
  have ks := f.ks h (fun x u => Or.inl (hz x u))
  obtain ⟨a1, a2⟩ := h.keep ks (h.1.1.sm o (fun x a b => f.sm (by omega) (hz x (Or.inl ⟨a, b⟩))) (fun i hi => f.sm (h.1.2.2.2 i hi).1 (hg i hi))) (fun i hi i2 => Or.inr (Or.inl ⟨by rw [(f.sm (h.2.1.1 i hi).1.2.2.2.2.1.1.1 (hz _ (Or.inr (Or.inr (Or.inr ⟨i, hi, Or.inl rfl⟩))))).2.2.2], rfl⟩))
  exact ⟨a1, ks, a2⟩
theorem Ks.cnu (hk : Ks L s v R k M M') (hc : Cnu Z L s v R k M) : Cnu Z L s v R k M' := by
  obtain ⟨hz, k1, k2, k3⟩ := hk
  refine ⟨hc.1, fun a ha => by rw [(k2 a ha).1.2.2.1]; exact hc.2.1 a ha, fun i hi => ?_⟩
  rw [(k3 i hi).2.1.2.2.1]
  exact hc.2.2 i hi
/-- what lies outside is no number and no limbs -/
theorem Cnu.oc (h : Cnu Z L s v R k M) (hx : x < mZ M) (nz : ¬ Z x) : Oc L M x := ⟨hx, fun u => nz (h.2.1 x u).1, fun a ha e => nz (by rw [← e]; exact (h.2.1 a ha).2)⟩
/-- a table is known -/
theorem Nms.mark (h : Nms L W s g b cn cc bc v R k M) (i4 : i < 4) (tk : cn ≤ k i ∧ Rsm M (R i) cn 17 ∧ Rt1 M (R i) cn) (e : M' = mUI M (v i) 1 1) : Nms L W s g b cn cc bc v R k M' ∧ FI (fun x => x = v i) M M' ∧ mOk M' := by
  have sv := h.1.sva h.2.2.1.1 (h.2.1.1 i i4)
  have f5 : FI (fun x => x = v i) M M' := by rw [e]; exact FI.ui rfl
  have o5 : mOk M' := by rw [e]; exact mOk_UI sv.1.1 ⟨by decide, by decide⟩
  obtain ⟨S5, n5, r5⟩ := sv.fi (f5.mono (fun x u => Or.inl u)) o5
  have rows := sv.2.2.2.2.1.2.2.2.2.2
  refine ⟨⟨S5.sb, h.2.1.fi f5, ⟨h.2.2.1.1, by rw [f5.2.2.2.2.1]; exact h.2.2.1.2⟩, fun j hj j2 => ?_⟩, f5, o5⟩
  by_cases c : j = i
  · subst c
    obtain ⟨c1, lr, lt⟩ := tk
    refine fun _ => ⟨c1, fun l hl => ?_, fun l hl => ?_⟩
    · rw [f5.2.2.1, n5 _ (rows l (by omega)).2.1, n5 _ (rows l (by omega)).2.2]; exact lr l hl
    · rw [f5.2.2.1, r5 l (by omega)]; exact lt l hl
  · exact (h.2.2.2 j hj j2).fi (h.2.1.1 j hj) sv.2.1.1 f5 o5 sv.z9 (fun x u => by rw [u]; exact ⟨(h.2.1.1 i i4).1.2.2.2.2.1.1, by rw [(h.2.1.1 i i4).1.1]; decide⟩) (Or.inl (by rw [f5.2.2.2.2.2.2 _ (fun u => (h.2.1.2 j i hj i4 c).2.1 u)]))
end NCQ
end
section
/-! The class's top: a table grows and is written; within's steps. -/
section NCR
variable {G : mG} {d t g s b i j a Ra n cn cc bc z w R' k' : Nat} {v R k Rn kn : Nat → Nat} {M M0 M' M1 : mM} {L L' L1 : List Nat} {W : Nat → Nat} {T C S Z : Nat → Prop} {r : Prop}
/-- a table that isn't known grows, then its rows are written -/
theorem Nms.gx (h : Nms L W s g b cn cc bc v R k M) (hc : Cnu Z L s v R k M) (i4 : i < 4) (fl : mI M (v i) 1 = 0) (gw : Gw L W (v i) M L' M1) (te : Te L' W (s + 1) g (v i) R' k' M1) (k5 : k' ≤ 512) (gr : (M1 = M ∧ L' = L ∧ R' = R i ∧ k' = k i) ∨ rvG L M (R i) (k i) L' M1 R' k') (p1 : ∀ j, j < k i → mR M1 R' j = mR M (R i) j) (p2 : ∀ j, k i ≤ j → j < k' → mR M1 R' j = mZ M + 1 + 5 * (j - k i)) (c1 : cn ≤ k') (q : NX L' W T C r (s + 1) M1 M') (hT : ∀ x, T x → Tso s M1 R' cn x) (hC : ∀ x, C x → Cso s M1 R' cn x) (sk : SK L' M' (s + 1)) : Nms L' W s g b cn cc bc v (up1 R i R') (up1 k i k') M' ∧ Sp Z s v M M' L' (up1 R i R') (up1 k i k') ∧ Rq L k M L' (up1 k i k') M' ∧ (∀ j, j ≤ 9 → mI M' (g + j) = mI M (g + j)) ∧ (∀ j, j < 4 → mI M' (v j) = mI M (v j)) ∧ (¬ C (s + 30) → mI M' (s + 30) = mI M (s + 30)) := by
  obtain ⟨N2, S2⟩ := h.gw i4 gw te k5 gr p1 p2 fl
  have P2 : Sp Z s v M M1 L' (up1 R i R') (up1 k i k') := gw.fc i4 hc h.2.1 te gr p1 p2
  have Q2 := rv_rq (R := R) i4 gw gr
  have FB := S2.2.1.1
  have q' : NX L' W (Tso s M1 R' cn) (Cso s M1 R' cn) True (s + 1) M1 M' := q.mono FB hT (S2.tl c1) hC (S2.cl c1) (fun _ => trivial)
  obtain ⟨S4, G4, -⟩ := S2.nx c1 q' sk
  have hT' : ∀ x, Tso s M1 R' cn x → (s ≤ x ∧ x ≤ s + 133) ∨ Trw M1 (up1 R i R' i) cn x := fun x u => by rw [up1_s]; exact tso_lo u
  have hC' : ∀ x, Cso s M1 R' cn x → (s ≤ x ∧ x ≤ s + 133) ∨ Irw M1 (up1 R i R' i) cn x := fun x u => by rw [up1_s]; exact cso_lo u
  have ck : cn ≤ up1 k i k' i := by rw [up1_s]; exact c1
  have V4 := (N2.nx i4 q' ck hT' hC').2.1
  have V2 : ∀ j, j < 4 → mI M1 (v j) = mI M (v j) := fun j hj => (gw.2.2.2.2.1.2 _ (h.2.1.1 j hj).1.2.2.2.2.1.1.1).2.2.2.2 (fun u => u)
  have ei : ∀ x, x < mZ M → mI M1 x = mI M x := fun x hx => (gw.2.2.2.2.1.2 x hx).2.2.2.2 (fun u => u)
  refine ⟨N2.nx2 i4 q' ck hT' hC' S4.sb (fun _ kn => absurd (by rw [(V4 i i4).2, V2 i i4]; exact fl) kn), P2.trans (q'.fc FB P2.2 N2.2.1 (fun x u => ?_)), Q2.trans (q'.rq FB), fun j hj => by rw [G4 j hj, ei _ (h.1.2.2.2 j hj).1], fun j hj => by rw [(V4 j hj).2, V2 j hj], fun nc => ?_⟩
  · rcases hC' x u with w | ⟨l, hl, w⟩
    · exact P2.2.1 x w.1 w.2
    · rw [w]; exact (P2.2.2.2 i i4).2.2 l (by omega)
  · have o30 := h.1.2.2.1 (s + 30) st30
    rw [(q.oth (S2.2.2.1 (s + 30) st30) (by omega)).2.2.2 nc, ei _ o30.1]
/-- withins and earlier change places -/
def sg (i : Nat) : Nat := if i = 1 then 2 else if i = 2 then 1 else i
theorem sg_lt (h : i < 4) : sg i < 4 := by
  unfold sg
  split
  · decide
  · split <;> omega
theorem sg_inj (h : sg i = sg j) : i = j := by
  unfold sg at h
  split at h <;> split at h <;> (try split at h) <;> (try split at h) <;> omega
theorem Tb0.sw (h : Tb0 L M s b v R k) : Tb0 L M s b (fun i => v (sg i)) (fun i => R (sg i)) (fun i => k (sg i)) := ⟨fun i hi => h.1 (sg i) (sg_lt hi), fun i j hi hj ij => h.2 (sg i) (sg j) (sg_lt hi) (sg_lt hj) (fun e => ij (sg_inj e))⟩
theorem Nms.sw (h : Nms L W s g b cn cc bc v R k M) (f2 : mI M (v 2) 1 = 0) : Nms L W s g b cn cc bc (fun i => v (sg i)) (fun i => R (sg i)) (fun i => k (sg i)) M := by
  refine ⟨h.1, h.2.1.sw, h.2.2.1, fun i hi i2 => ?_⟩
  have : i = 0 ∨ i = 1 ∨ i = 3 := by omega
  rcases this with e | e | e <;> subst e
  · exact h.2.2.2 0 (by decide) (by decide)
  · exact fun kn => absurd f2 kn
  · exact h.2.2.2 3 (by decide) (by decide)
theorem Cnu.sw (h : Cnu Z L s v R k M) : Cnu Z L s (fun i => v (sg i)) (fun i => R (sg i)) (fun i => k (sg i)) M := ⟨h.1, h.2.1, fun i hi => h.2.2 (sg i) (sg_lt hi)⟩
theorem Pn.sw : Pn L (fun i => k (sg i)) M = Pn L k M ∧ Qn L (fun i => k (sg i)) M = Qn L k M ∧ k (sg 0) + k (sg 1) + k (sg 2) + k (sg 3) = k 0 + k 1 + k 2 + k 3 := by
  have e0 : sg 0 = 0 := rfl
  have e1 : sg 1 = 2 := rfl
  have e2 : sg 2 = 1 := rfl
  have e3 : sg 3 = 3 := rfl
  unfold Pn Qn
  simp only [e0, e1, e2, e3]
  exact ⟨by omega, by omega, by omega⟩
/-- a move from table 2 to table 1 -/
def mvR (Z : Nat → Prop) (L : List Nat) (W : Nat → Nat) (s g b cn cc bc : Nat) (v k : Nat → Nat) (n9 : Nat → Rat) (M : mM) (x : Int) (M' : mM) : Prop := (x = 0 ∨ x = 1) ∧ ∃ L' Rn kn, Nms L' W s g b cn cc bc v Rn kn M' ∧ Sp Z s v M M' L' Rn kn ∧ Rq L k M L' kn M' ∧ (∀ j, j ≤ 9 → mI M' (g + j) = mI M (g + j)) ∧ (∀ j, j < 4 → mI M' (v j) = mI M (v j)) ∧ mI M' (s + 30) = mI M (s + 30) ∧ (x ≠ 0 → cn ≤ kn 1 ∧ Rok M' (Rn 1) cn ∧ ∀ j, j < cn → rwv M' (Rn 1) j = n9 j ∧ ft9 (n9 j)) ∧ (x = 0 → ∃ j, j < cn ∧ ¬ ft9 (n9 j))
theorem n_move {n9 : Nat → Rat} (hn : nxH M g (R 2) cn n9) (h : Nms L W s g b cn cc bc v R k M) (hc : Cnu Z L s v R k M) (f1 : mI M (v 1) 1 = 0) (ck : cn ≤ k 2) (ro : Rok M (R 2) cn) (hWr : ∀ x, b ≤ x → 17 ≤ W x ∧ W x ≤ 20000) (hWs : ∀ x, s ≤ x → x ≤ s + 133 → 300 ≤ W x) : Ci G y_Sc_move (d + 8) [vr (s + 1), vr g, vr (v 2), vr (v 1)] M (mvR Z L W s g b cn cc bc v k n9 M) := by
  have b1 := h.2.2.1.1
  have t1 := h.2.1.1 1 (by decide)
  have t2 := h.2.1.1 2 (by decide)
  have bz := h.2.2.1.2
  refine (f_move (d := d) (B := 300) hn (h.1.sva b1 t1).te (h.1.sva b1 t2).te (h.2.1.2 2 1 (by decide) (by decide) (by decide)).2.1 t1.2.2.2.1 t2.2.2.2.1 ck h.1.1.2.2.2.2 ro (h.2.1.2 1 2 (by decide) (by decide) (by decide)).1 (fun x u => w_tat hWs x (Or.inl u)) (by decide) (by decide) (fun x hx => by have := hWr x (by omega); omega) (fun l hl => ?_)).mono (fun x M' q => ?_)
  · have := t1.2.1 l hl
    have a1 := hWr (mR M (R 1) l + 1) (by omega)
    have a3 := hWr (mR M (R 1) l + 3) (by omega)
    omega
  obtain ⟨L', R', k', M1, gw, te, gr, ⟨c1, c2, k5⟩, p1, p2, ⟨x01, l, lc, mv, hl, hX, hf⟩, -⟩ := q
  have FB := te.1.2.1
  have q := mv.1.nx FB
  obtain ⟨N, P, Q, G', V, e30⟩ := h.gx (i := 1) hc (by decide) f1 gw te k5 gr p1 (fun j a b => (p2 j a b).1) c1 q (fun x u => u.elim Or.inl (fun u => Or.inr (Or.inr (Or.inr u)))) (fun x u => u.elim Or.inl (fun u => Or.inr (Or.inr (Or.inr (Or.inr (Or.inr u)))))) mv.2.1.1.2.2
  refine ⟨x01, L', up1 R 1 R', up1 k 1 k', N, P, Q, G', V, e30 (fun u => ?_), fun u => ⟨c1, ?_, fun j hj => ?_⟩, fun u => ⟨l, hf u⟩⟩
  · rcases u with u | ⟨l, hl, u⟩
    · unfold Ipk at u; omega
    · have tb := (N.2.1.1 1 (by decide)).2.1 l (by rw [up1_s]; omega)
      have e : mR M' R' = mR M1 R' := mv.2.2.2.1.1
      rw [up1_s, e] at tb
      omega
  · rw [up1_s, ← hl u]
    exact mv.2.2.2.2.2.2
  · have el := hl u
    have e := hX.2.2 j (by omega)
    rw [up1_s, e]
    refine ⟨rfl, ?_⟩
    rw [← e]
    exact mv.2.2.2.2.2.2.fit (by omega) (mv.2.1.1.2.1.nn0 (mv.2.1.2.2.1.2.2.2.2.2 j (by omega)).2.1)
/-- the table of withins begins -/
theorem n_begin {n9 : Nat → Rat} (hn : ∀ j, j < cn → n9 j = if mI M (g + 2) j = 3 then 1 else 0) (h : Nms L W s g b cn cc bc v R k M) (hc : Cnu Z L s v R k M) (f1 : mI M (v 1) 1 = 0) (hWr : ∀ x, b ≤ x → 17 ≤ W x ∧ W x ≤ 20000) : Cv G y_Fs_begin (d + 4) [vr (v 1), vr g] M (mvR Z L W s g b cn cc bc v k n9 M 1) := by
  have b1 := h.2.2.1.1
  have t1 := h.2.1.1 1 (by decide)
  have bz := h.2.2.1.2
  have c5 := h.1.1.2.2.2.2.1.1
  refine (f_begin (d := d) (h.1.sva b1 t1).te t1.2.2.2.1 c5 h.cnt.1 (fun x hx => by have := hWr x (by omega); omega)).mono (fun M' q => ?_)
  obtain ⟨L', R', k', M1, gw, te, ⟨c1, c2⟩, gr, p1, p2, nb, bg, bw⟩ := q
  have k5 : k' ≤ 512 := by
    have := t1.2.2.2.1
    rcases gr with ⟨-, -, -, e⟩ | ⟨-, e, -⟩ <;> omega
  have FB := te.1.2.1
  obtain ⟨N, P, Q, G', V, e30⟩ := h.gx (i := 1) hc (by decide) f1 gw te k5 gr p1 (fun j a b => (p2 j a b).1) c1 (nb.nx FB) (fun x u => Or.inr (Or.inr (Or.inr u))) (fun x u => Or.inr (Or.inr (Or.inr (Or.inr (Or.inr u))))) (nb.sk FB te.1.2.2)
  have t1' := N.2.1.1 1 (by decide)
  rw [up1_s, up1_s] at t1'
  have rR := (nb.nx FB).rwt FB te.2.2.1 (by have := t1'.2.2.2.2; omega) (by have := t1'.2.2.2.2; omega)
  refine ⟨Or.inr rfl, L', up1 R 1 R', up1 k 1 k', N, P, Q, G', V, e30 (fun ⟨l, hl, u⟩ => ?_), fun _ => ⟨c1, ?_, fun j hj => ?_⟩, fun u => absurd u (by decide)⟩
  · have tb := t1'.2.1 l (by omega)
    rw [rR.2] at tb
    omega
  · rw [up1_s]
    have p1' : (1 : Int) < 2 ^ (30 * 16) := by decide +kernel
    refine ⟨fun l hl => ?_, fun l hl => ?_, fun l hl => (bg l hl).2.2⟩
    · obtain ⟨g1, g3, -⟩ := bg l hl
      rw [g3]
      exact ⟨by decide, p1', by rcases g1 with e | e <;> rw [e] <;> omega⟩
    · obtain ⟨g1, g3, -⟩ := bg l hl
      rw [g3]
      exact ⟨by rcases g1 with e | e <;> rw [e] <;> decide, by decide⟩
  · rw [up1_s, hn j hj]
    refine ⟨?_, ft_01 (Classical.em _)⟩
    have e1 := bw j hj
    rw [G' 2 (by decide)] at e1
    have z0 : ((0 : Int) : Rat) = 0 := rfl
    have z1 : ((1 : Int) : Rat) = 1 := rfl
    unfold rwv
    rw [e1, (bg j hj).2.1]
    split
    · rw [z1]; grind
    · rw [z0, z1]; grind
end NCR
end
section
/-! The class's top: within. -/
section NCS
variable {G : mG} {d t b i j a Ra n cn cc bc z w : Nat} {v v0 R k k0 Rn kn : Nat → Nat} {M M0 M' M1 : mM} {L L0 L' L1 : List Nat} {W : Nat → Nat} {T C S Z : Nat → Prop} {r : Prop}
/-- within on its way: the tables 1 and 2 may have changed places -/
def wnI (Z : Nat → Prop) (L0 : List Nat) (W : Nat → Nat) (t b cn cc bc : Nat) (v0 k0 : Nat → Nat) (M0 : mM) (v : Nat → Nat) (L : List Nat) (R k : Nat → Nat) (M : mM) : Prop := Nms L W (t + 85) (t + 62) b cn cc bc v R k M ∧ Tr t v M ∧ (v = v0 ∨ v = fun i => v0 (sg i)) ∧ FC (fun x => Z x ∨ x = t) M0 M ∧ Cnu (Zn Z M0 M) L (t + 85) v R k M ∧ Rq L0 k0 M0 L k M ∧ ((∀ j, j ≤ 9 → mI M (t + 62 + j) = mI M0 (t + 62 + j)) ∧ mI M t = mI M0 t ∧ mI M (v0 0) = mI M0 (v0 0) ∧ mI M (v0 3) = mI M0 (v0 3) ∧ mI M (t + 85 + 30) = mI M0 (t + 85 + 30)) ∧ mI M (v 2) 1 = 0 ∧ ∀ i, i ≠ 12 → i ≠ 13 → mR M t i = mR M0 t i
/-- what one more move makes, told by the tables -/
theorem wi_nx {g : Nat} {Rb m : Nat} (hG : GTT M g cn cc bc) (hv : ∀ j, j < cn → rwv M Rb j = wi9 (xtm M g cn) m j) : nxH M g Rb cn (wi9 (xtm M g cn) (m + 1)) := fun j hj => by
  have gt : (xtm M g cn)[j]? = some (stm M g j) := by rw [xtm_map, rget, if_pos hj]
  have e1 : wi9 (xtm M g cn) (m + 1) j = stv9 (wi9 (xtm M g cn) m) (stm M g j) := by
    show (((xtm M g cn)[j]?).map (fun y => stv9 (wi9 (xtm M g cn) m) y)).getD 0 = _
    rw [gt]
    rfl
  refine ⟨fun u => ?_, fun x y u1 u2 u3 => ?_⟩
  · have l0 : (stm M g j).2.length = 0 := by
      show (cml M g (mI M (g + 4) j).toNat ((mI M (g + 4) (j + 1)).toNat - (mI M (g + 4) j).toNat)).length = 0
      rw [cml_map, List.length_map, List.length_range, u]
      omega
    have e2 : stv9 (wi9 (xtm M g cn) m) (stm M g j) = if mI M (g + 2) j = 3 then 1 else 0 := by
      unfold stv9
      rw [l0]
      rfl
    rw [e1, e2, hv j hj]
    cases m with
    | zero =>
      show _ = (((xtm M g cn)[j]?).map (fun y => if y.1 = 3 then (1 : Rat) else 0)).getD 0
      rw [gt]
      rfl
    | succ m =>
      show _ = (((xtm M g cn)[j]?).map (fun y => stv9 (wi9 (xtm M g cn) m) y)).getD 0
      rw [gt]
      show _ = stv9 (wi9 (xtm M g cn) m) (stm M g j)
      unfold stv9
      rw [l0]
      rfl
  · obtain ⟨x', y', g1, g2, g3, g4⟩ := hG.2.2.1 j hj
    have ll : (stm M g j).2 = cml M g x (y - x) := by
      unfold stm
      rw [u1, u2, Int.toNat_natCast, Int.toNat_natCast]
    have ln : (stm M g j).2.length = (y - 1 - x) + 1 := by
      rw [ll, cml_map, List.length_map, List.length_range]
      omega
    have e2 : stv9 (wi9 (xtm M g cn) m) (stm M g j) = bst9 (mI M (g + 2) j = 1) (fun i => wr9 (wi9 (xtm M g cn) m) (cq0 (stm M g j) i)) (y - 1 - x) := by
      unfold stv9
      rw [ln]
      rfl
    rw [e1, e2]
    refine bst_cg _ (fun i hi => ?_)
    have ec : cq0 (stm M g j) i = cmm M g (x + i) := cq0_of (by rw [ll, cml_map, rget, if_pos (by omega)])
    rw [ec]
    exact wr_cg (fun b hb => (hv _ (cmm_lt (hG.2.1 (x + i) (by omega)) b hb)).symm)
theorem cml_same {g x n : Nat} (e : ∀ i, i ≤ 9 → mI M' (g + i) = mI M (g + i)) : cml M' g x n = cml M g x n := by
  have f : (fun t => cmm M' g (x + t)) = (fun t => cmm M g (x + t)) := funext (fun t => cmm_same e)
  rw [cml_map, cml_map, f]
theorem xtm_same {g : Nat} (e : ∀ i, i ≤ 9 → mI M' (g + i) = mI M (g + i)) : xtm M' g cn = xtm M g cn := by
  have f : stm M' g = stm M g := by
    funext j
    unfold stm
    rw [e 2 (by decide), e 4 (by decide), cml_same e]
  rw [xtm_map, xtm_map, f]
theorem xtm_len {g : Nat} : (xtm M g cn).length = cn := by rw [xtm_map, List.length_map, List.length_range]
def wnQ (Z : Nat → Prop) (L0 : List Nat) (W : Nat → Nat) (t b cn cc bc : Nat) (v0 k0 : Nat → Nat) (n : Nat) (M0 : mM) (x : Int) (M : mM) : Prop := (i32 x ∧ anA9 (xtm M0 (t + 62) cn) n x) ∧ ∃ v L R k, wnI Z L0 W t b cn cc bc v0 k0 M0 v L R k M
theorem rsm17 (h : Rsm M Ra cn 16) : Rsm M Ra cn 17 := fun l hl => by
  obtain ⟨a1, a2, a3⟩ := h l hl
  have p : (2 : Int) ^ (30 * 16) ≤ 2 ^ (30 * 17) := by decide +kernel
  exact ⟨a1, Int.lt_of_lt_of_le a2 p, Int.lt_of_lt_of_le a3 p⟩
theorem vsw (hv : v = v0 ∨ v = fun i => v0 (sg i)) : (v 0 = v0 0 ∧ v 3 = v0 3) ∧ ((fun i => v (sg i)) = v0 ∨ (fun i => v (sg i)) = fun i => v0 (sg i)) := by
  rcases hv with e | e
  · subst e
    exact ⟨⟨rfl, rfl⟩, Or.inr rfl⟩
  · subst e
    refine ⟨⟨rfl, rfl⟩, Or.inl ?_⟩
    funext i
    show v0 (sg (sg i)) = v0 i
    congr 1
    unfold sg
    by_cases c1 : i = 1
    · rw [if_pos c1, if_neg (by decide), if_pos rfl, c1]
    · rw [if_neg c1]
      by_cases c2 : i = 2
      · rw [if_pos c2, if_pos rfl, c2]
      · rw [if_neg c2, if_neg c1, if_neg c2]
theorem zn_no {x : Nat} (nz : ¬ Z x) (hx : x < mZ M) : ¬ Zn Z M M' x := fun u => u.elim nz (fun u => by omega)
/-- a step of numbers in within -/
theorem wnI.mv {n9 : Nat → Rat} {x : Int} (h : wnI Z L0 W t b cn cc bc v0 k0 M0 v L R k M) (nz : ¬ Z t) (tz : t < mZ M0) (f1 : mI M (v 1) 1 = 0) (q : mvR (Zn Z M0 M) L W (t + 85) (t + 62) b cn cc bc v k n9 M x M') : ∃ L' Rn kn, wnI Z L0 W t b cn cc bc v0 k0 M0 v L' Rn kn M' ∧ mI M' (v 1) 1 = 0 ∧ (x ≠ 0 → cn ≤ kn 1 ∧ Rok M' (Rn 1) cn ∧ ∀ j, j < cn → rwv M' (Rn 1) j = n9 j ∧ ft9 (n9 j)) ∧ (x = 0 → ∃ j, j < cn ∧ ¬ ft9 (n9 j)) := by
  obtain ⟨h1, h2, h3, h4, h5, h6, ⟨h7, h8, h9, h10, h11⟩, h12, h14⟩ := h
  obtain ⟨-, L', Rn, kn, q1, q2, q3, q4, q5, q6, q7⟩ := q
  obtain ⟨⟨v00, v03⟩, -⟩ := vsw h3
  have nt : ¬ Zn Z M0 M t := zn_no nz tz
  obtain ⟨r1, r2⟩ := h2.fc q2.1 nt
  have rt : mR M' t = mR M t := ((q2.1.2 t h2.2.2.2.2).2.2 nt).2.1
  have f' : FC (Zn (fun x => Z x ∨ x = t) M0 M) M M' := q2.1.mono (fun x _ u => u.elim (fun u => Or.inl (Or.inl u)) Or.inr)
  refine ⟨L', Rn, kn, ⟨q1, r1, h3, h4.trans f', q2.2.cg (fun x u => (Zn.trans h4.1.1 q2.1.1.1).mp u), h6.trans q3, ⟨fun j hj => by rw [q4 j hj, h7 j hj], by rw [r2, h8], by rw [← v00, q5 0 (by decide), v00, h9], by rw [← v03, q5 3 (by decide), v03, h10], by rw [q6, h11]⟩, by rw [q5 2 (by decide)]; exact h12, fun i a b => by rw [rt]; exact h14 i a b⟩, by rw [q5 1 (by decide)]; exact f1, q7⟩
/-- the tables change places -/
theorem wnI.sw {M31 : mM} (h : wnI Z L0 W t b cn cc bc v0 k0 M0 v L R k M) (nz : ¬ Z t) (tz : t < mZ M0) (f1 : mI M (v 1) 1 = 0) (e1 : M31 = mUR M t 12 (mR M t 13)) (e2 : M' = mUR M31 t 13 (mR M t 12)) : wnI Z L0 W t b cn cc bc v0 k0 M0 (fun i => v (sg i)) L (fun i => R (sg i)) (fun i => k (sg i)) M' ∧ mI M' (v 2) 1 = 0 ∧ mI M' = mI M ∧ (∀ a, a ∈ L → nv M' a = nv M a) ∧ (mR M' (R 1) = mR M (R 1)) := by
  obtain ⟨h1, h2, h3, h4, h5, h6, ⟨h7, h8, h9, h10, h11⟩, h12, h14⟩ := h
  obtain ⟨-, hv⟩ := vsw h3
  have nt : ¬ Zn Z M0 M t := zn_no nz tz
  have eI : mI M' = mI M := by rw [e2, mI_UR, e1, mI_UR]
  have o' : mOk M' := by rw [e2]; refine mOk_UR ?_; rw [e1]; exact mOk_UR h1.cnt.2.2.2
  have z' : mZ M' = mZ M ∧ mS M' = mS M := by rw [e2, mZ_UR, mS_UR, e1, mZ_UR, mS_UR]; exact ⟨rfl, rfl⟩
  have rr : ∀ x i, mR M' x i = if x = t ∧ i = 13 then mR M t 12 else if x = t ∧ i = 12 then mR M t 13 else mR M x i := fun x i => by rw [e2, mR_UR, e1, mR_UR]
  have f : FC (fun x => x = t) M M' := by
    refine ⟨⟨by rw [z'.1]; exact Nat.le_refl _, by rw [z'.2]; exact Nat.le_refl _⟩, fun x _ => ⟨by rw [e2, mK_UR, e1, mK_UR], by rw [e2, mN_UR, e1, mN_UR], fun nx => ⟨by rw [e2, mL_UR, e1, mL_UR], ?_, by rw [eI]⟩⟩⟩
    funext i
    rw [rr, if_neg (fun u => nx u.1), if_neg (fun u => nx u.1)]
  have no : ∀ x, Zm L (t + 85) v R k M x → ¬ x = t := fun x u e => nt (by rw [← e]; exact zm_in h5 x u)
  obtain ⟨N, ks, cps⟩ := h1.off f o' no (fun i hi => by omega)
  have N' := N.sw (by rw [eI]; exact h12)
  obtain ⟨t1, ⟨t2, t3⟩, ⟨t4, t5, t6, t7⟩, ⟨t8, t9, t10⟩, t11⟩ := h2
  have rt : ∀ i, i ≠ 12 → i ≠ 13 → mR M' t i = mR M t i := fun i a b => by rw [rr, if_neg (fun u => b u.2), if_neg (fun u => a u.2)]
  have ecp := pn_cg (k := k) cps
  have sw1 := Pn.sw (L := L) (k := k) (M := M')
  have rq : Rq L k M L (fun i => k (sg i)) M' := by
    unfold Rq
    rw [sw1.1, sw1.2.1, ecp.1, ecp.2, z'.1, z'.2, sw1.2.2]
    exact ⟨Nat.le_refl _, Nat.le_refl _, Nat.le_refl _, fun _ u => u, fun x u => u.sm (f.sm u.1.2.2 (fun e => by have k1 := u.1.1; rw [e, t1] at k1; omega)) f.1.1⟩
  refine ⟨⟨N', ⟨by rw [(f.2 t t11).1]; exact t1, ⟨by rw [rt 9 (by decide) (by decide)]; exact t2, by rw [rt 10 (by decide) (by decide)]; exact t3⟩, ⟨by rw [rt 11 (by decide) (by decide)]; exact t4, ?_, ?_, by rw [rt 14 (by decide) (by decide)]; exact t7⟩, ⟨by rw [rt 15 (by decide) (by decide)]; exact t8, by rw [rt 16 (by decide) (by decide)]; exact t9, by rw [rt 17 (by decide) (by decide)]; exact t10⟩, by rw [z'.1]; exact t11⟩, hv, h4.trans (f.mono (fun x _ u => Or.inl (Or.inr u))), ?_, h6.trans rq, ⟨fun j hj => by rw [eI]; exact h7 j hj, by rw [eI]; exact h8, by rw [eI]; exact h9, by rw [eI]; exact h10, by rw [eI]; exact h11⟩, by rw [eI]; exact f1, fun i a b => by rw [rt i a b]; exact h14 i a b⟩, by rw [eI]; exact h12, eI, fun a ha => (h1.1.2.1.1.sm ks.2.2.1 ks.1).2 a ha |>.1, ?_⟩
  · rw [rr, if_neg (fun u => absurd u.2 (by decide)), if_pos ⟨rfl, rfl⟩]; exact t6
  · rw [rr, if_pos ⟨rfl, rfl⟩]; exact t5
  · have c := (ks.cnu h5).sw
    have : Zn Z M0 M' = Zn Z M0 M := by funext x; unfold Zn; rw [z'.1]
    rw [this]
    exact c
  · exact (ks.2.2.2 1 (by decide)).2.1.2.2.1
theorem s_wi57 {l : Nat} (hl : l ≤ 32) (nz : ¬ Z t) (tz : t < mZ M0) (hWr : ∀ x, b ≤ x → 17 ≤ W x ∧ W x ≤ 20000) (hWs : ∀ x, t + 85 ≤ x → x ≤ t + 85 + 133 → 300 ≤ W x) : ∀ (u m : Nat) (v : Nat → Nat) (L : List Nat) (R k : Nat → Nat) (M : mM), l ≤ m + u → m ≤ l → wnI Z L0 W t b cn cc bc v0 k0 M0 v L R k M → mI M (v 1) 1 = 0 → cn ≤ k 1 → Rok M (R 1) cn → (∀ j, j < cn → rwv M (R 1) j = wi9 (xtm M0 (t + 62) cn) m j) → (∀ r, r ≤ m → ∀ j, j < cn → ft9 (wi9 (xtm M0 (t + 62) cn) r j)) → h_CA_within_57 G (d + 8) t l m M (wnQ Z L0 W t b cn cc bc v0 k0 l M0) := by
  intro u
  have fin : ∀ {v : Nat → Nat} {L : List Nat} {R k : Nat → Nat} {M M28 : mM}, wnI Z L0 W t b cn cc bc v0 k0 M0 v L R k M → cn ≤ k 1 → Rok M (R 1) cn → (∀ r, r ≤ l → ∀ j, j < cn → ft9 (wi9 (xtm M0 (t + 62) cn) r j)) → M28 = mUI M (v 1) 1 1 → wnQ Z L0 W t b cn cc bc v0 k0 l M0 0 M28 := fun {v L R k M M28} h ck ro ff e => by
    obtain ⟨h1, h2, h3, h4, h5, h6, ⟨h7, h8, h9, h10, h11⟩, h12, h14⟩ := h
    obtain ⟨⟨v00, v03⟩, -⟩ := vsw h3
    obtain ⟨N, f, o⟩ := h1.mark (i := 1) (by decide) ⟨ck, rsm17 ro.1, ro.2.2⟩ e
    have tb := h1.2.1
    have zv : Zn Z M0 M (v 1) := (h5.2.2 1 (by decide)).1
    have ne : ∀ x, x ≠ v 1 → mI M28 x = mI M x := fun x hx => f.2.2.2.2.2.2 x hx
    have v1b := (tb.1 1 (by decide)).2.2.2.2.1
    have F := f.fc (Z := Zn (fun x => Z x ∨ x = t) M0 M) (fun x u => by rw [u]; exact zv.elim (fun u => Or.inl (Or.inl u)) Or.inr)
    have tv : t ≠ v 1 := fun e => zn_no nz tz (by rw [e]; exact zv)
    have z' : mZ M28 = mZ M := f.2.2.2.2.1
    refine ⟨⟨⟨by decide, by decide⟩, Or.inl ⟨rfl, fun r hr j hj => ff r hr j (by rw [xtm_len] at hj; exact hj)⟩⟩, v, L, R, k, N, ?_, h3, h4.trans F, ?_, h6.trans f.rq, ⟨fun j hj => ?_, by rw [ne t tv]; exact h8, ?_, ?_, by rw [ne _ (by omega)]; exact h11⟩, ?_, fun i a b => by rw [f.2.2.1]; exact h14 i a b⟩
    · obtain ⟨t1, t2, t3, t4, t5⟩ := h2
      exact ⟨by rw [f.1]; exact t1, by rw [f.2.2.1]; exact t2, by rw [f.2.2.1]; exact t3, by rw [f.2.2.1]; exact t4, by rw [z']; exact t5⟩
    · have c := f.cnu h5
      refine c.cg (fun x u => ?_)
      rcases u with u | u
      · unfold Zn at u ⊢; rw [z']; exact u
      · omega
    · rw [ne _ (fun e => by
        have := h1.1.2.2.2 j hj
        have kv := (tb.1 1 (by decide)).1.1
        have gk := h1.1.1.2.2.1
        by_cases c : j = 0
        · subst c
          rw [Nat.add_zero] at e
          rw [← e, gk.1] at kv
          omega
        · have := gk.2.2.1 j (by omega) hj
          rw [e, kv] at this
          omega)]
      exact h7 j hj
    · rw [← v00, ne _ (tb.2 0 1 (by decide) (by decide) (by decide)).2.1, v00]; exact h9
    · rw [← v03, ne _ (tb.2 3 1 (by decide) (by decide) (by decide)).2.1, v03]; exact h10
    · rw [ne _ (tb.2 2 1 (by decide) (by decide) (by decide)).2.1]; exact h12
  induction u with
  | zero =>
    intro m v L R k M hu hm h f1 ck ro hv9 ff
    have o := h.1.cnt.2.2.2
    refine k_CA_within_57 o (i32s (by omega) (by omega)) (i32s (by omega) (by omega)) ⟨fun _ => ?_, fun w => absurd (by omega) w⟩
    rw [h.2.1.2.2.1.2.1]
    exact ⟨h.2.1.1, (h.1.2.1.1 1 (by decide)).1.1, fun M28 e => fin h ck ro (fun r hr => ff r (by omega)) e⟩
  | succ u ih =>
    intro m v L R k M hu hm h f1 ck ro hv9 ff
    have o := h.1.cnt.2.2.2
    have r12 := h.2.1.2.2.1.2.1
    refine k_CA_within_57 o (i32s (by omega) (by omega)) (i32s (by omega) (by omega)) ⟨fun w => ?_, fun w => ⟨h.2.1.1, fun M31 e31 M33 e33 => ?_⟩⟩
    · rw [r12]
      exact ⟨h.2.1.1, (h.1.2.1.1 1 (by decide)).1.1, fun M28 e => fin h ck ro (fun r hr => ff r (by omega)) e⟩
    obtain ⟨h', f2, eI, nvs, eR⟩ := h.sw nz tz f1 e31 e33
    have r' := h'.2.1
    have s0 := h'.1.1.1.2.1
    rw [r'.2.1.2, r'.2.1.1, r'.2.2.1.2.1, r12, s0.2.1.1]
    have fl := (h.1.2.1.1 1 (by decide)).1.2.2.2.2.2
    have ro' : Rok M33 (R 1) cn := ro.cg eR (fun i hi => ⟨nvs _ (fl i (by omega)).2.1, nvs _ (fl i (by omega)).2.2, by rw [eI]⟩)
    have ex : xtm M33 (t + 62) cn = xtm M0 (t + 62) cn := xtm_same (fun i hi => h'.2.2.2.2.2.2.1.1 i hi)
    have hv33 : ∀ j, j < cn → rwv M33 (R 1) j = wi9 (xtm M33 (t + 62) cn) m j := fun j hj => by
      rw [ex, ← hv9 j hj]
      exact rwv_cg eR (nvs _ (fl j (by omega)).2.1) (nvs _ (fl j (by omega)).2.2)
    have hn33 := wi_nx (m := m) h'.1.1.1.2.2.2.2 hv33
    rw [ex] at hn33
    refine ⟨s0.1.1, h'.1.1.2.1.2.1.1.1, (n_move (d := d) (R := fun i => R (sg i)) hn33 h'.1 h'.2.2.2.2.1 f2 ck ro' hWr hWs).mono (fun x M37 q => ?_)⟩
    have x01 := q.1
    obtain ⟨L', Rn, kn, I', f1', hx, hx0⟩ := h'.mv nz tz f2 q
    refine ⟨m_b32 x01, I'.1.cnt.2.2.2, fun c => ⟨⟨⟨by decide, by decide⟩, Or.inr ⟨rfl, m + 1, by omega, ?_⟩⟩, _, L', Rn, kn, I'⟩, fun c => ?_⟩
    · obtain ⟨j, hj, nf⟩ := hx0 c
      exact ⟨j, by rw [xtm_len]; exact hj, nf⟩
    obtain ⟨ck', ro'', vv⟩ := hx c
    rw [show ((m : Int) + 1) = ((m + 1 : Nat) : Int) by omega]
    exact ih (m + 1) _ L' Rn kn M37 (by omega) (by omega) I' f1' ck' ro'' (fun j hj => (vv j hj).1) (fun r hr j hj => by
      by_cases z : r = m + 1
      · rw [z]; exact (vv j hj).2
      · exact ff r (by omega) j hj)
/-- within, where it does not throw -/
theorem n_CA_within {l : Int} (hl : 0 ≤ l ∧ l ≤ 32) (h : Nms L W (t + 85) (t + 62) b cn cc bc v R k M) (hc : Cnu Z L (t + 85) v R k M) (hr : Tr t v M) (nz : ¬ Z t) (c1 : 1 ≤ cn) (f2 : mI M (v 2) 1 = 0) (hWr : ∀ x, b ≤ x → 17 ≤ W x ∧ W x ≤ 20000) (hWs : ∀ x, t + 85 ≤ x → x ≤ t + 85 + 133 → 300 ≤ W x) : Ci G y_CA_within (d + 9) [vr t, vi l] M (wnQ Z L W t b cn cc bc v k l.toNat M) := by
  obtain ⟨e0, kg, ks, o⟩ := h.cnt
  have tz := hr.2.2.2.2
  obtain ⟨n, en⟩ : ∃ n : Nat, l = ((n : Nat) : Int) := ⟨l.toNat, by omega⟩
  subst en
  have t1 := h.2.1.1 1 (by decide)
  have tb := h.2.1
  refine k_CA_within o (i32s (by omega) (by omega)) ⟨fun u => by rcases u with u | u <;> omega, fun _ => ?_⟩
  rw [hr.2.1.1, hr.2.2.1.2.1, e0]
  refine ⟨hr.1, kg, fun u => absurd u (by omega), fun _ => ⟨t1.1.1, fun M14 e14 => ?_⟩⟩
  have sv := h.1.sva h.2.2.1.1 t1
  have f14 : FI (fun x => x = v 1) M M14 := by rw [e14]; exact FI.ui rfl
  have o14 : mOk M14 := by rw [e14]; exact mOk_UI o ⟨by decide, by decide⟩
  have fl : mI M14 (v 1) 1 = 0 := by rw [e14, mI_UI, if_pos ⟨rfl, rfl⟩]
  have ne : ∀ x, x ≠ v 1 → mI M14 x = mI M x := fun x hx => f14.2.2.2.2.2.2 x hx
  have N14 : Nms L W (t + 85) (t + 62) b cn cc bc v R k M14 := h.fi f14 o14 (fun x u => by rw [u]; exact ⟨t1.1.2.2.2.2.1.1, by rw [t1.1.1]; decide⟩) (sv.fi (f14.mono (fun x u => Or.inl u)) o14).1.sb (fun j hj j2 => by
    by_cases c : j = 1
    · subst c; exact Or.inr fl
    · exact Or.inl (by rw [ne _ (tb.2 j 1 hj (by decide) c).2.1]))
  have zv : Z (v 1) := (hc.2.2 1 (by decide)).1
  have tv : t ≠ v 1 := fun e => nz (by rw [e]; exact zv)
  have v1b := t1.2.2.2.2.1
  have I14 : wnI Z L W t b cn cc bc v k M v L R k M14 := by
    refine ⟨N14, ?_, Or.inl rfl, f14.fc (fun x u => by rw [u]; exact Or.inl zv), f14.cnu hc, f14.rq, ⟨fun j hj => f14.2.2.2.2.2.2 _ (fun e => sv.gst hj (Or.inl e)), ne t tv, ne _ (tb.2 0 1 (by decide) (by decide) (by decide)).2.1, ne _ (tb.2 3 1 (by decide) (by decide) (by decide)).2.1, ne _ (by omega)⟩, by rw [ne _ (tb.2 2 1 (by decide) (by decide) (by decide)).2.1]; exact f2, fun i _ _ => by rw [f14.2.2.1]⟩
    obtain ⟨t1, t2, t3, t4, t5⟩ := hr
    exact ⟨by rw [f14.1]; exact t1, by rw [f14.2.2.1]; exact t2, by rw [f14.2.2.1]; exact t3, by rw [f14.2.2.1]; exact t4, by rw [f14.2.2.2.2.1]; exact t5⟩
  have r' := I14.2.1
  rw [r'.2.2.1.2.1, r'.2.1.1]
  have hn0 : ∀ j, j < cn → wi9 (xtm M (t + 62) cn) 0 j = if mI M14 (t + 62 + 2) j = 3 then 1 else 0 := fun j hj => by
    have gt : (xtm M (t + 62) cn)[j]? = some (stm M (t + 62) j) := by rw [xtm_map, rget, if_pos hj]
    show (((xtm M (t + 62) cn)[j]?).map (fun y => if y.1 = 3 then (1 : Rat) else 0)).getD 0 = _
    rw [gt, I14.2.2.2.2.2.2.1.1 2 (by decide)]
    rfl
  refine ⟨(N14.2.1.1 1 (by decide)).1.1, (n_begin (d := d + 4) hn0 N14 I14.2.2.2.2.1 fl hWr).mono (fun M17 q => ?_)⟩
  obtain ⟨L', Rn, kn, I', f1', hx, -⟩ := I14.mv nz tz fl q
  obtain ⟨ck', ro', vv⟩ := hx (by decide)
  rw [Int.toNat_natCast]
  exact ⟨I'.1.cnt.2.2.2, s_wi57 (d := d) (by omega) nz tz hWr hWs n 0 v L' Rn kn M17 (by omega) (by omega) I' f1' ck' ro' (fun j hj => (vv j hj).1) (fun r hr j hj => by
    have r0 : r = 0 := by omega
    rw [r0]
    exact (vv j hj).2)⟩
end NCS
end
section
/-! The class's top: choices are told. -/
section NCT
variable {G : mG} {d t g s c cn cc bc k j n : Nat} {M M' M0 : mM} {v : Nat → Nat}
theorem GTT.told (h : GTT M g cn cc bc) (e : ∀ i, i ≤ 9 → i ≠ 3 → mI M' (g + i) = mI M (g + i)) : GTT M' g cn cc bc := by
  obtain ⟨h1, h2, h3, h4⟩ := h
  have e0 := e 0 (by decide) (by decide)
  rw [Nat.add_zero] at e0
  have e4 := e 4 (by decide) (by decide)
  have e7 := e 7 (by decide) (by decide)
  exact ⟨h1, fun c hc => (h2 c hc).cg ⟨by rw [e7], by rw [e7]⟩ (by rw [e 6 (by decide) (by decide)]) (by rw [e 5 (by decide) (by decide)]) (fun i _ => ⟨by rw [e 8 (by decide) (by decide)], by rw [e 9 (by decide) (by decide)]⟩) (Nat.le_refl _) (Nat.le_refl _), fun j hj => by rw [e4]; exact h3 j hj, by rw [e0]; exact h4⟩
theorem GQ.told (hq : GQ M g cn k cc bc) (e : ∀ i, (i ≤ 9 ∧ i ≠ 3) ∨ i = 20 → mI M' (g + i) = mI M (g + i)) : GQ M' g cn k cc bc := by
  have e0 := e 0 (by omega)
  rw [Nat.add_zero] at e0
  obtain ⟨⟨q1, q2, q3⟩, q4, q5, q6⟩ := hq
  have e4 := e 4 (by omega)
  have e7 := e 7 (by omega)
  refine ⟨⟨by rw [e0]; exact q1, q2, fun i hi => by rw [e 20 (by omega)]; exact q3 i hi⟩, by rw [e0]; exact q4, by rw [e0]; exact q5, ?_⟩
  obtain ⟨t1, t2, t3, t4, t5, t6, t7, t8⟩ := q6
  exact ⟨t1, t2, fun c hc => (t3 c hc).cg ⟨by rw [e7], by rw [e7]⟩ (by rw [e 6 (by omega)]) (by rw [e 5 (by omega)]) (fun i _ => ⟨by rw [e 8 (by omega)], by rw [e 9 (by omega)]⟩) (Nat.le_refl _) (Nat.le_refl _), by rw [e7]; exact t4, t5, by rw [e4]; exact t6, by rw [e4]; exact t7, by rw [e4]; exact t8⟩
theorem GR.told (h : GR M g cn cc bc) (f : FI (fun x => x = g + 3) M M') : GR M' g cn cc bc := by
  have e : ∀ x, x ≠ g + 3 → mI M' x = mI M x := fun x hx => f.2.2.2.2.2.2 x hx
  rcases h with ⟨a, b⟩ | ⟨a, b⟩
  · exact Or.inl ⟨a, by rw [e g (by omega)]; exact b⟩
  · exact Or.inr ⟨a, b.told (fun i hi => e _ (by omega))⟩
/-- the command i of state k -/
def cmdP (M : mM) (g cn : Nat) (l1 l2 : Int) : Prop := (0 ≤ l1 ∧ l1 < cn) ∧ 0 ≤ l2 ∧ l2 < mI M (g + 4) (l1 + 1).toNat - mI M (g + 4) l1.toNat
theorem s_Ga_commandAt2 {l1 l2 : Int} (i1 : i32 l1) (i2 : i32 l2) (h1 : mOk M) (hk : GK M g) (hr : GR M g cn cc bc) : Ci G y_Ga_commandAt (d + 1) [vr g, vi l1, vi l2] M (fun r M' => M' = M ∧ i32 r ∧ (cmdP M g cn l1 l2 → 0 ≤ r) ∧ (¬ cmdP M g cn l1 l2 → r = -1)) := by
  obtain ⟨g0, ⟨-, -, -, g4, -⟩, ⟨-, -, -, k4, -⟩, ⟨-, -, -, n4, -⟩⟩ := id hk
  have hc := hr.cnt
  refine k_Ga_commandAt h1 i1 i2 ⟨g0, (s_Ga_hasState i1 h1 g0 hc.1).mono (fun x3 M2 q => ?_)⟩
  obtain ⟨e2, hx, hiff⟩ := q
  subst e2
  have rows : x3 ≠ 0 → ∃ a b : Nat, mI M2 (g + 4) l1.toNat = ((a : Nat) : Int) ∧ mI M2 (g + 4) (l1 + 1).toNat = ((b : Nat) : Int) ∧ a ≤ b ∧ b ≤ cc ∧ cc ≤ 4096 ∧ 0 ≤ l1 ∧ l1 < 512 ∧ 1 ≤ cn := fun y => by
    have b := hiff.mp y
    rcases hr with ⟨e1, -⟩ | ⟨c1, q⟩
    · omega
    · obtain ⟨⟨-, q2, -⟩, -, -, t1, t2, -, -, -, t6, -⟩ := q
      obtain ⟨x, y', f1, f2, f3, f4⟩ := t6 l1.toNat (by omega)
      exact ⟨x, y', f1, by rw [show (l1 + 1).toNat = l1.toNat + 1 by omega]; exact f2, f3, f4, by omega, b.1, by omega, c1⟩
  have bad : ((x3 = 0) ∨ (l2 < 0) ∨ ¬ (l2 < mI M2 (g + 4) (l1 + 1).toNat - mI M2 (g + 4) l1.toNat)) → ¬ cmdP M2 g cn l1 l2 := fun u p => by
    rcases u with u | u | u
    · exact (hiff.mpr p.1) u
    · exact absurd p.2.1 (by omega)
    · exact u p.2.2
  clear hr
  rw [g4, n4]
  refine ⟨m_b32 hx, h1, fun y _ => ?_, fun u => ⟨rfl, ⟨by decide, by decide⟩, fun p => absurd p (bad u), fun _ => rfl⟩, fun y => ?_⟩
  · obtain ⟨a, b, f1, f2, f3, f4, f5, f6, f7, f8⟩ := rows y
    rw [f1, f2]
    exact ⟨g0, k4, by omega, by omega, ⟨by omega, by omega⟩⟩
  · have y0 : x3 ≠ 0 := fun t => y (Or.inl t)
    have b0 := hiff.mp y0
    obtain ⟨a, b, f1, f2, f3, f4, f5, f6, f7, f8⟩ := rows y0
    have y1 : 0 ≤ l2 := by
      by_cases t : l2 < 0
      · exact absurd (Or.inr (Or.inl t)) y
      · omega
    have y2 : l2 < mI M2 (g + 4) (Int.toNat (l1 + 1)) - mI M2 (g + 4) (Int.toNat l1) := Classical.byContradiction (fun t => y (Or.inr (Or.inr t)))
    have yy : cmdP M2 g cn l1 l2 := ⟨b0, y1, y2⟩
    rw [f1, f2] at y2
    rw [f1]
    exact ⟨g0, k4, by omega, rfl, ⟨by omega, by omega⟩, fun _ => by omega, fun n => absurd yy n⟩
/-- what is told stays in bounds -/
theorem GS1.told {x : Int} {l : Nat} (h : GS M g n) (e : M' = mUI M (g + 3) l x) (hx : ∀ a b : Nat, mI M (g + 4) l = ((a : Nat) : Int) → mI M (g + 4) (l + 1) = ((b : Nat) : Int) → 0 ≤ x ∧ (x < ((b : Nat) : Int) - ((a : Nat) : Int) ∨ x = 0)) : GS M' g n := fun j hj => by
  have ne : ∀ y, y ≠ g + 3 → mI M' y = mI M y := fun y hy => by
    funext i
    rw [mI_ui y i e, if_neg (fun u => hy u.1)]
  by_cases c : j = l
  · subst c
    intro a b f1 f2
    rw [ne (g + 4) (by omega)] at f1 f2
    rw [ne (g + 2) (by omega), mI_ui (g + 3) j e, if_pos ⟨rfl, rfl⟩]
    exact ⟨hx a b f1 f2, (h j hj a b f1 f2).2⟩
  · exact (h j hj).cg (by rw [ne _ (by omega)]) (by rw [mI_ui (g + 3) j e, if_neg (fun u => c u.2)]) (by rw [ne _ (by omega)]) (by rw [ne _ (by omega)])
theorem g_CA_choose {l1 l2 : Int} (i1 : i32 l1) (i2 : i32 l2) (h : Tg M t g cn cc bc) (gs : 1 ≤ cn → GS M g (cn - 1)) (hp : cmdP M g cn l1 l2) : Cv G y_CA_choose (d + 2) [vr t, vi l1, vi l2] M (fun M' => mOk M' ∧ FI (fun x => x = g + 3) M M' ∧ GS M' g (cn - 1)) := by
  obtain ⟨h1, ⟨h2, h3⟩, h4, h5⟩ := h
  have hc := h5.cnt
  obtain ⟨g0, ⟨-, -, g3, -⟩, ⟨-, -, k3, -⟩, ⟨-, -, n3, -⟩⟩ := id h4
  refine k_CA_choose h1 i1 i2 ?_
  rw [h3]
  refine ⟨h2, g0, (s_Ga_commandAt2 (d := d) i1 i2 h1 h4 h5).mono (fun x4 M3 q => ?_)⟩
  obtain ⟨e, ix, q1, q2⟩ := q
  subst e
  rw [h3, g3, n3]
  have x0 := q1 hp
  obtain ⟨p1, p2, p3⟩ := hp
  refine ⟨ix, h1, fun u => by omega, fun _ => ⟨h2, g0, k3, by omega, fun M16 e16 => ⟨by rw [e16]; exact mOk_UI h1 i2, by rw [e16]; exact FI.ui rfl, GS1.told (gs (by omega)) e16 (fun a b f1 f2 => ?_)⟩⟩⟩
  rw [show (l1 + 1).toNat = l1.toNat + 1 by omega, f1, f2] at p3
  exact ⟨p2, Or.inl p3⟩
/-- adopt, where it does not throw -/
theorem g_CA_adopt (h : Tg M t g cn cc bc) (gs : 1 ≤ cn → GS M g (cn - 1)) (hs : mR M t 10 = s) (hS : SoT M s g) (ht : mR M t 11 = v 0 ∧ mK M (v 0) = 13) (kn : mI M (v 0) 1 ≠ 0) (ch : Chs M s g cn) : Cv G y_CA_adopt (d + 1) [vr t] M (fun M' => mOk M' ∧ FI (fun x => x = g + 3) M M' ∧ (1 ≤ cn → GS M' g (cn - 1))) := by
  obtain ⟨h1, ⟨h2, h3⟩, h4, h5⟩ := h
  have hc := h5.cnt
  obtain ⟨g0, ⟨-, -, g3, -⟩, ⟨-, -, k3, -⟩, ⟨-, -, n3, -⟩⟩ := id h4
  obtain ⟨⟨s0, sg⟩, ⟨-, -, r2, -⟩, ⟨-, k2, -⟩, ⟨-, n2, -⟩⟩ := hS
  refine k_CA_adopt h1 ?_
  rw [ht.1]
  refine ⟨h2, ht.2, fun u => absurd u kn, fun _ => ?_⟩
  suffices H : ∀ (u m : Nat) (M1 : mM), cn ≤ m + u → m ≤ cn → mOk M1 → FI (fun x => x = g + 3) M M1 → (1 ≤ cn → GS M1 g (cn - 1)) → h_CA_adopt_20 G d t m M1 (fun M' => mOk M' ∧ FI (fun x => x = g + 3) M M' ∧ (1 ≤ cn → GS M' g (cn - 1))) from H cn 0 M (by omega) (by omega) h1 FI.refl gs
  intro u
  induction u with
  | zero =>
    intro m M1 hu hm o f gs1
    have c0 : mI M1 g 0 = ((cn : Nat) : Int) := by rw [f.2.2.2.2.2.2 g (show ¬ g = g + 3 by omega)]; exact hc.1
    refine k_CA_adopt_20 o (i32s (by omega) (by omega)) ?_
    rw [f.2.2.1, f.1, h3, c0]
    exact ⟨h2, g0, fun _ => ⟨o, f, gs1⟩, fun w => absurd (by omega) w⟩
  | succ u ih =>
    intro m M1 hu hm o f gs1
    have c0 : mI M1 g 0 = ((cn : Nat) : Int) := by rw [f.2.2.2.2.2.2 g (show ¬ g = g + 3 by omega)]; exact hc.1
    have e30 : mI M1 (s + 30) = mI M (s + 30) := f.2.2.2.2.2.2 _ (show ¬ s + 30 = g + 3 by omega)
    have e4 : mI M1 (g + 4) = mI M (g + 4) := f.2.2.2.2.2.2 _ (show ¬ g + 4 = g + 3 by omega)
    refine k_CA_adopt_20 o (i32s (by omega) (by omega)) ?_
    rw [f.2.2.1, f.1, f.2.1, h3, c0, hs, r2, n2, g3, n3, Int.toNat_natCast, e30]
    refine ⟨h2, g0, fun _ => ⟨o, f, gs1⟩, fun w => ⟨s0, k2, by omega, k3, by omega, fun M19 e19 => ?_⟩⟩
    rw [show ((m : Int) + 1) = ((m + 1 : Nat) : Int) by omega]
    have i2 : i32 (if mI M (s + 30) m < 0 then 0 else mI M (s + 30) m) := by
      split
      · exact ⟨by decide, by decide⟩
      · exact (h1 _ _).1
    refine ih (m + 1) M19 (by omega) (by omega) (by rw [e19]; exact mOk_UI o i2) (f.trans (by rw [e19]; exact FI.ui rfl)) (fun c1 => GS1.told (gs1 c1) e19 (fun a b f1 f2 => ?_))
    rw [e4] at f1 f2
    rcases ch m (by omega) a b f1 f2 with ⟨y1, y2⟩ | ⟨y1, y2, y3⟩
    · rw [y2, if_pos (by decide)]
      exact ⟨by decide, Or.inr rfl⟩
    · rw [if_neg (by omega)]
      exact ⟨y2, Or.inl y3⟩
/-- a player's choices are commands -/
theorem tld_of {l : Int} (hl : l = 1 ∨ l = 2) (gs : 1 ≤ cn → GS M g (cn - 1)) : Tld M g cn l := fun _ k hk e x y f1 f2 => by
  obtain ⟨⟨a1, a2⟩, a3⟩ := gs (by omega) k (by omega) x y f1 f2
  have := a3 (by rw [e]; exact hl)
  exact ⟨a1, by rcases a2 with u | u <;> omega⟩
end NCT
end
section
/-! The class's top: its pieces, and what leaves them alone. -/
section NCU
variable {G : mG} {d t z q w x m n cn cc bc T Kt N A B D Cw p O P K p' O' P' K' Ab Be Cm U Ag Bg Cg V F L cnt : Nat} {M M' M1 : mM} {Z Y : Nat → Prop} {ns : Nat → Int} {sf ef : Nat → Nat} {v R k : Nat → Nat} {Ls : List Nat} {W : Nat → Nat} {c9 c8 : Nat → Int}
/-- the same memory with the old longs -/
def noL (M M' : mM) : mM := (mK M', mN M', mI M', (fun x j => if x < mZ M then mL M x j else mL M' x j), mR M', mZ M', mS M')
theorem FC.fa (h : FC Z M M') : FA Z Z M (noL M M') := by
  refine ⟨h.1, fun x hx => ⟨(h.2 x hx).1, (h.2 x hx).2.1, ?_, fun nz => ((h.2 x hx).2.2 nz).2.1, fun nz => ((h.2 x hx).2.2 nz).2.2⟩⟩
  funext j
  show (if x < mZ M then mL M x j else mL M' x j) = _
  rw [if_pos hx]
theorem PK.fc (h : PK M z p O P K) (f : FC Z M M') (np : ¬ Z p) : PK M' z p O P K := by
  have q : PK (noL M M') z p O P K := h.fa f.fa np
  exact q
theorem PW.fc (h : PW M z p O P K V F ns sf ef L cnt) (f : FC Z M M') (hs : ∀ i, i ≤ 15 → ¬ Z (p + i)) (hO : ¬ Z O) (hP : ¬ Z P) : PW M' z p O P K V F ns sf ef L cnt := by
  have q : PW (noL M M') z p O P K V F ns sf ef L cnt := h.fa f.fa (hs 0 (by decide)) hs hO hP
  exact q
theorem Tap.fc (h : Tap c9 M t T Kt N) (f : FC Z M M') (nT : ¬ Z T) (r0 : mR M' t 0 = mR M t 0) (i1 : mI M' t 1 = mI M t 1) : Tap c9 M' t T Kt N := by
  obtain ⟨⟨h1, h2, h3⟩, ⟨h4, h5⟩, ⟨h6, h7, h8⟩, h9, h10⟩ := h
  have e := f.sm h8 nT
  have := f.1.1
  exact ⟨⟨by rw [(f.2 t h7).1]; exact h1, by rw [r0]; exact h2, by rw [i1]; exact h3⟩, ⟨by rw [e.1]; exact h4, by rw [e.2.1]; exact h5⟩, ⟨h6, by omega, by omega⟩, h9, fun j hj => by rw [e.2.2.2]; exact h10 j hj⟩
theorem WB.fc (h : WB M w A B D Cw) (f : FC Z M M') (nw : ¬ Z w) : WB M' w A B D Cw := by
  obtain ⟨h1, h2, ⟨h3, h4, h5⟩, ⟨h6, h7, h8⟩, h9, ⟨z1, z2, z3, z4⟩, h10⟩ := h
  have := f.1.1
  have e := f.sm z1 nw
  exact ⟨by rw [e.1]; exact h1, by rw [e.2.2.1]; exact h2, ⟨by rw [(f.2 A z2).1]; exact h3, by rw [(f.2 B z3).1]; exact h4, by rw [(f.2 D z4).1]; exact h5⟩, ⟨by rw [(f.2 A z2).2.1]; exact h6, by rw [(f.2 B z3).2.1]; exact h7, by rw [(f.2 D z4).2.1]; exact h8⟩, h9, ⟨by omega, by omega, by omega, by omega⟩, h10⟩
theorem MK.fc (h : MK M z m U Ab Be Cm) (f : FC Z M M') (nm : ¬ Z m) : MK M' z m U Ab Be Cm := by
  have mz : m < mZ M := by
    have a := h.2.2.2.2.2.1.2.2.2
    have b := h.2.2.2.2.2.2.1.1
    omega
  have e := f.sm mz nm
  exact h.eq2 (fun x hx => ⟨(f.2 x hx).1, (f.2 x hx).2.1⟩) (fun i _ => by rw [e.2.2.1]) (by rw [e.2.2.2]) f.1.1
theorem TZ.fc (h : TZ M z q p O P K Ab Be Cm) (o : mOk M') (f : FC Z M M') (hq : ∀ x, q ≤ x → x ≤ q + 22 → ¬ Z x) (np : ¬ Z p) : TZ M' z q p O P K Ab Be Cm := by
  obtain ⟨-, h2, h3, h4, h5, h6, h7, h8, h9⟩ := h
  have zz := h6.2.2.2.2.1.1
  have sm : ∀ i, i ≤ 22 → Sm M M' (q + i) := fun i hi => f.sm (by omega) (hq _ (by omega) (by omega))
  have s0 := sm 0 (by decide)
  rw [Nat.add_zero] at s0
  refine ⟨o, h2.eq2 (fun i hi => ?_) (fun i _ => by rw [(sm 1 (by decide)).2.2.1]), by rw [s0.1, s0.2.2.1]; exact h3, by rw [(sm 21 (by decide)).1, (sm 22 (by decide)).1, (sm 21 (by decide)).2.1, (sm 22 (by decide)).2.1]; exact h4, h5.fc f (hq _ (by omega) (by omega)), h6.fc f np, h7, h8, fun j => by rw [(sm 6 (by decide)).2.2.2]; exact h9 j⟩
  have := sm (1 + i) (by omega)
  rw [← Nat.add_assoc] at this
  exact ⟨this.1, this.2.1⟩
/-- the program tells a game, whose exploration comes to X9 -/
def Pgm (X9 : xR9) (M : mM) (p O P : Nat) : Prop := ∃ (γ : gW9) (c4 : Nat × Nat × Nat × Nat) (n : Nat), NqO γ.1 γ.2.2.1 n ∧ CGm M p O P γ.1 γ.2.1 γ.2.2.1 γ.2.2.2.1 γ.2.2.2.2.1 n (γ.2.2.2.2.2.1, c4, ((0 : Int), (0 : Int))) γ.2.2.2.2.2.2 ∧ (mI M p 3 = ((vcn γ.2.2.2.2.2.1 : Nat) : Int) ∧ rcn γ.2.2.2.2.2.1 ≤ 60 ∧ mI M p 12 = ((c4.2.2.1 : Nat) : Int) ∧ c4.2.2.2 ≠ 0) ∧ X9 = XpG γ
theorem CGm.cgm {O P n Nn : Nat} {W pl nq : Nat → Int} {sm : Nat → Nat → Prop} {s : st9} {g : gm9} (h : CGm M p O P W pl nq sm Nn n s g) (ep : mI M' p = mI M p) (ei : ∀ i, 3 ≤ i → i ≤ 15 → mI M' (p + i) = mI M (p + i)) (eO : mI M' O = mI M O) (eP : mI M' P = mI M P) : CGm M' p O P W pl nq sm Nn n s g := by
  obtain ⟨L, ns, sf, ef, h1, h2, h3, h4, ⟨v1, v2, v3⟩, ⟨t1, t2⟩, h7, h8⟩ := h
  have cd : cdE O P L M M' := fun i _ => ⟨by rw [eO], by rw [eP]⟩
  have nn : ∀ x, x < rcn s.1 → ns x = ns x ∧ ef x = ef x := fun _ _ => ⟨rfl, rfl⟩
  refine ⟨L, ns, sf, ef, by rw [ep]; exact h1, h2, h3.cg (ei 6 (by decide) (by decide)) (ei 7 (by decide) (by decide)) (ei 8 (by decide) (by decide)) eO eP, h4, ⟨v1, fun v x hx => ?_, v3⟩, ⟨t1, fun tg htg => ?_⟩, h7, fun c cm hc => ?_⟩
  · rw [ei 3 (by decide) (by decide), ei 4 (by decide) (by decide), ei 5 (by decide) (by decide)]
    exact v2 v x hx
  · obtain ⟨sT, q1, q2⟩ := t2 tg htg
    have := q2.step (l9 := []) (ns' := ns) (ef' := ef) cd (Nat.le_refl L) nn
    rw [List.append_nil] at this
    exact ⟨sT, by rw [ep]; exact q1, this⟩
  · have := (h8 c cm hc).step (l9 := []) (ns' := ns) (ef' := ef) (fun i i1 i2 => ei i (by omega) i2) cd (Nat.le_refl L) (Nat.le_refl _) nn
    rw [List.append_nil] at this
    exact this
theorem Pgm.fc {X9 : xR9} (h : Pgm X9 M p O P) (f : FC Z M M') (pk : PK M z p O P K) (hs : ∀ i, i ≤ 15 → ¬ Z (p + i)) (hO : ¬ Z O) (hP : ¬ Z P) : Pgm X9 M' p O P := by
  have b := pk.2.2.2.1.2.2.2
  have c := pk.2.2.2.2.1
  have ei : ∀ i, i ≤ 15 → mI M' (p + i) = mI M (p + i) := fun i hi => (f.sm (by omega) (hs i hi)).2.2.2
  have ep : mI M' p = mI M p := ei 0 (by decide)
  obtain ⟨γ, c4, n, h1, h2, h3, h4⟩ := h
  exact ⟨γ, c4, n, h1, h2.cgm ep (fun i _ i2 => ei i i2) (f.sm c.2.1 hO).2.2.2 (f.sm c.2.2 hP).2.2.2, by rw [ep]; exact h3, h4⟩
/-- is there a text p, what it counts, what exploring it comes to -/
def Itm (i9 : tI9) (M : mM) (t p O P : Nat) : Prop := mI M t 6 = i9.1 ∧ (mI M t 6 ≠ 0 → mI M p 3 = i9.2.1 ∧ mI M p 7 = i9.2.2.1 ∧ mI M p 12 = i9.2.2.2.1 ∧ Pgm i9.2.2.2.2.1 M p O P)
theorem Itm.fc {i9 : tI9} (h : Itm i9 M t p O P) (f : FC Z M M') (pk : PK M z p O P K) (e6 : mI M' t 6 = mI M t 6) (hs : ∀ i, i ≤ 15 → ¬ Z (p + i)) (hO : ¬ Z O) (hP : ¬ Z P) : Itm i9 M' t p O P := by
  have b := pk.2.2.2.1.2.2.2
  have c := pk.2.2.2.2.1
  have ep : mI M' p = mI M p := (f.sm (show p + 0 < mZ M by omega) (hs 0 (by decide))).2.2.2
  obtain ⟨h1, h2⟩ := h
  refine ⟨by rw [e6]; exact h1, fun u => ?_⟩
  rw [e6] at u
  obtain ⟨a1, a2, a3, a4⟩ := h2 u
  rw [ep]
  exact ⟨a1, a2, a3, a4.fc f pk hs hO hP⟩
theorem PK.lt (h : PK M z p O P K) : p < mZ M := by
  have a := h.2.2.2.1.2.2.2
  have b := h.2.2.2.2.1.1
  omega
/-- the text's side: tape, words, reader, programs -/
def Tx (c9 : tG9) (t T Kt N A B D Cw p O P K p' O' P' K' Ab Be Cm : Nat) (M : mM) : Prop := (mR M t 2 = t + 2 ∧ mR M t 3 = t + 7 ∧ mR M t 4 = p ∧ mR M t 5 = p') ∧ Tap c9.1 M t T Kt N ∧ WB M (t + 2) A B D Cw ∧ TZ M (t + 235) (t + 7) p' O' P' K' Ab Be Cm ∧ PK M (t + 235) p O P K ∧ ((p = t + 30 ∧ p' = t + 46) ∨ (p = t + 46 ∧ p' = t + 30)) ∧ (mI M t 6 ≠ 0 → ∃ (V F : Nat) (ns : Nat → Int) (sf ef : Nat → Nat) (L cnt : Nat), PW M (t + 235) p O P K V F ns sf ef L cnt) ∧ Itm c9.2 M t p O P
theorem Tx.fc {c9 : tG9} (h : Tx c9 t T Kt N A B D Cw p O P K p' O' P' K' Ab Be Cm M) (o : mOk M') (f : FC Z M M') (hz : ∀ x, t + 2 ≤ x → x < t + 62 → ¬ Z x) (nT : ¬ Z T) (nO : ¬ Z O) (nP : ¬ Z P) (hr : ∀ i, i ≤ 5 → mR M' t i = mR M t i) (i1 : mI M' t 1 = mI M t 1) (i6 : mI M' t 6 = mI M t 6) : Tx c9 t T Kt N A B D Cw p O P K p' O' P' K' Ab Be Cm M' := by
  obtain ⟨h1, h2, h3, h4, h5, h6, h7, h8⟩ := h
  refine ⟨by rw [hr 2 (by decide), hr 3 (by decide), hr 4 (by decide), hr 5 (by decide)]; exact h1, h2.fc f nT (hr 0 (by decide)) i1, h3.fc f (hz _ (by omega) (by omega)), h4.fc o f (fun x a b => hz x (by omega) (by omega)) (hz _ (by omega) (by omega)), h5.fc f (hz _ (by omega) (by omega)), h6, fun u => ?_, h8.fc f h5 i6 (fun i hi => hz _ (by omega) (by omega)) nO nP⟩
  rw [i6] at u
  obtain ⟨V, F, ns, sf, ef, L, cnt, hw⟩ := h7 u
  exact ⟨V, F, ns, sf, ef, L, cnt, hw.fc f (fun i hi => hz _ (by omega) (by omega)) nO nP⟩
/-- the game's side -/
def Gm (t U Ag Bg Cg cn cc bc n : Nat) (M : mM) : Prop := GK M (t + 62) ∧ MK M (t + 235) (t + 72) U Ag Bg Cg ∧ (U = t + 63 ∨ U = t + 73) ∧ (∀ x, x < 60 → mI M (t + 77) x ≤ mI M (t + 72) 9) ∧ (0 ≤ mI M (t + 72) 9 ∧ mI M (t + 72) 9 ≤ 512 * (n : Int)) ∧ GR M (t + 62) cn cc bc ∧ (1 ≤ cn → GS M (t + 62) (cn - 1)) ∧ (cn = 0 → cc = 0 ∧ bc = 0)
theorem GR.eq {g : Nat} (h : GR M g cn cc bc) (e : ∀ i, i ≤ 9 ∨ (20 ≤ i ∧ i ≤ 22) → mI M' (g + i) = mI M (g + i)) : GR M' g cn cc bc := by
  rcases h with ⟨a, b⟩ | ⟨a, b⟩
  · have e0 := e 0 (by omega)
    rw [Nat.add_zero] at e0
    exact Or.inl ⟨a, by rw [e0]; exact b⟩
  · exact Or.inr ⟨a, b.eq e⟩
theorem Gm.fc (h : Gm t U Ag Bg Cg cn cc bc n M) (f : FC Z M M') (hz : ∀ x, t + 62 ≤ x → x < t + 85 → ¬ Z x) : Gm t U Ag Bg Cg cn cc bc n M' := by
  obtain ⟨h1, h2, h3, h4, h5, h6, h7, h8⟩ := h
  have z0 := h2.2.2.2.2.2.2.1.1
  have sm : ∀ i, i ≤ 22 → Sm M M' (t + 62 + i) := fun i hi => f.sm (by omega) (hz _ (by omega) (by omega))
  have s0 := sm 0 (by decide)
  rw [Nat.add_zero] at s0
  have e : ∀ i, i ≤ 9 ∨ (20 ≤ i ∧ i ≤ 22) → mI M' (t + 62 + i) = mI M (t + 62 + i) := fun i hi => (sm i (by omega)).2.2.2
  have e77 : mI M' (t + 77) = mI M (t + 77) := (sm 15 (by decide)).2.2.2
  have e72 : mI M' (t + 72) = mI M (t + 72) := (sm 10 (by decide)).2.2.2
  exact ⟨h1.eq2 (fun i hi => ⟨(sm i hi).1, (sm i hi).2.1⟩) (fun i _ => by rw [s0.2.2.1]), h2.fc f (hz _ (by omega) (by omega)), h3, by rw [e77, e72]; exact h4, by rw [e72]; exact h5, h6.eq e, fun u => (h7 u).eq e, h8⟩
theorem Gm.up (h : Gm t U Ag Bg Cg cn cc bc n M) : Gm t U Ag Bg Cg cn cc bc (n + 1) M := by
  obtain ⟨h1, h2, h3, h4, h5, h6⟩ := h
  exact ⟨h1, h2, h3, h4, ⟨h5.1, by have := h5.2; omega⟩, h6⟩
theorem GK.gk9 {g : Nat} (h : GK M g) : GK9 M g ∧ (mR M g 3 = g + 3 ∧ mN M (g + 3) = 512) := by
  obtain ⟨h1, ⟨-, r2, r3, r4, -, r6, r7, r8, r9, -⟩, ⟨k1, k2, k3, k4, k5, k6, k7, k8, k9, -⟩, ⟨-, n2, n3, n4, -, n6, n7, n8, n9, -⟩⟩ := h
  refine ⟨⟨h1, ⟨r2, r4, r6, r7, r8, r9⟩, fun i i1 i2 => ?_, ⟨n2, n4, n6, n7, n8, n9⟩⟩, r3, n3⟩
  have : i = 1 ∨ i = 2 ∨ i = 3 ∨ i = 4 ∨ i = 5 ∨ i = 6 ∨ i = 7 ∨ i = 8 ∨ i = 9 := by omega
  rcases this with e | e | e | e | e | e | e | e | e <;> subst e <;> assumption
theorem GR.gtt {g : Nat} (h : GR M g cn cc bc) (h0 : cn = 0 → cc = 0 ∧ bc = 0) : GTT M g cn cc bc := by
  rcases h with ⟨a, b⟩ | ⟨a, ⟨q1, q2, -⟩, -, -, t1, t2, t3, -, -, t6, -⟩
  · obtain ⟨c1, c2⟩ := h0 a
    subst a c1 c2
    exact ⟨⟨by omega, by omega, by omega⟩, fun c hc => absurd hc (by omega), fun j hj => absurd hj (by omega), b⟩
  · exact ⟨⟨q2, t1, t2⟩, t3, fun j hj => t6 j (by omega), q1⟩
/-- how many limbs a number may want -/
def Wt (t x : Nat) : Nat := if x < t + 235 then 300 else 17
theorem wt_r : ∀ x, t + 235 ≤ x → 17 ≤ Wt t x ∧ Wt t x ≤ 20000 := fun x hx => by unfold Wt; rw [if_neg (by omega)]; decide
theorem wt_s : ∀ x, t + 85 ≤ x → x ≤ t + 85 + 133 → 300 ≤ Wt t x := fun x _ hx => by unfold Wt; rw [if_pos (by omega)]; decide
/-- the numbers' side: Z its cells -/
def Ns (Z : Nat → Prop) (t : Nat) (Ls : List Nat) (v R k : Nat → Nat) (cn cc bc : Nat) (M : mM) : Prop := Nms Ls (Wt t) (t + 85) (t + 62) (t + 235) cn cc bc v R k M ∧ Cnu Z Ls (t + 85) v R k M ∧ Tr t v M ∧ mI M (v 2) 1 = 0 ∧ (mI M (v 0) 1 ≠ 0 → Chs M (t + 85) (t + 62) cn) ∧ (t + 227 ∈ Ls ∧ FrL Ls M (t + 229) ∧ Z (t + 229)) ∧ (mK M (t + 234) = 32 ∧ mN M (t + 234) = 400 ∧ Pch M (t + 234)) ∧ ∃ c : Nat, mI M t 18 = ((c : Nat) : Int) ∧ c ≤ 400
theorem Tr.cg (h : Tr t v M) (hk : mK M' t = mK M t) (hr : ∀ i, 9 ≤ i → mR M' t i = mR M t i) (hz : mZ M ≤ mZ M') : Tr t v M' := by
  obtain ⟨h1, h2, h3, h4, h5⟩ := h
  exact ⟨by rw [hk]; exact h1, by rw [hr 9 (by decide), hr 10 (by decide)]; exact h2, by rw [hr 11 (by decide), hr 12 (by decide), hr 13 (by decide), hr 14 (by decide)]; exact h3, by rw [hr 15 (by decide), hr 16 (by decide), hr 17 (by decide)]; exact h4, by omega⟩
theorem Ns.fc (h : Ns Z t Ls v R k cn cc bc M) (o : mOk M') (f : FC Y M M') (hY : ∀ x, Y x → ¬ Z x) (hg : ∀ i, i ≤ 9 → ¬ Y (t + 62 + i)) (hp : ¬ Y (t + 234)) (zp : t + 234 < mZ M) (hr : ∀ i, 9 ≤ i → mR M' t i = mR M t i) (i18 : mI M' t 18 = mI M t 18) : Ns Z t Ls v R k cn cc bc M' ∧ (Pn Ls k M' = Pn Ls k M ∧ Qn Ls k M' = Qn Ls k M) := by
  obtain ⟨h1, h2, h3, h4, h5, ⟨h6, h6', h6z⟩, h7, h8⟩ := h
  have nz : ∀ x, Z x → ¬ Y x := fun x a b => hY x b a
  obtain ⟨N, ks, cps⟩ := h1.off f o (fun x u => nz x (zm_in h2 x u)) hg
  have vI : ∀ i, i < 4 → mI M' (v i) = mI M (v i) := fun i hi => (f.sm (h1.2.1.1 i hi).1.2.2.2.2.1.1.1 (nz _ (h2.2.2 i hi).1)).2.2.2
  have sp := f.sm zp hp
  have s30 := f.sm (h1.1.2.2.1 (t + 85 + 30) st30).1 (nz _ (h2.1 _ (by omega) (by omega)))
  have g4 := f.sm (h1.1.2.2.2 4 (by decide)).1 (hg 4 (by decide))
  refine ⟨⟨N, ks.cnu h2, h3.cg (f.2 t h3.2.2.2.2).1 hr f.1.1, by rw [vI 2 (by decide)]; exact h4, fun u => ?_, ⟨h6, h6'.sm (f.sm h6'.1.2.2 (nz _ h6z)) f.1.1, h6z⟩, by unfold Pch; rw [sp.1, sp.2.1, sp.2.2.2]; exact h7, by rw [i18]; exact h8⟩, pn_cg cps⟩
  rw [vI 0 (by decide)] at u
  exact chs_same (h5 u) s30.2.2.2 g4.2.2.2
end NCU
end
section
/-! The class keeps what was explored. -/
section XCD
variable {t g V : Nat} {M M' : mM} {i9 : tI9} {Nn : tP9}
/-- the place, the state and the tables of the states are the same, and whether values are worked out -/
def knF (M M' : mM) (t : Nat) : Prop := mI M' (mR M' t 11) 1 = mI M (mR M t 11) 1
def xcF (M M' : mM) (t : Nat) : Prop := mI M' t 7 = mI M t 7 ∧ mI M' t 8 = mI M t 8 ∧ (∀ i, i ≤ 9 → i ≠ 3 → mI M' (t + 62 + i) = mI M (t + 62 + i)) ∧ knF M M' t
/-- and the tape is as long as it was -/
def sE (M M' : mM) (t : Nat) : Prop := mI M' t 1 = mI M t 1 ∧ xcF M M' t
theorem sE.refl : sE M M t := ⟨rfl, rfl, rfl, fun _ _ _ => rfl, rfl⟩
/-- the same, but for the values -/
def sE0 (M M' : mM) (t : Nat) : Prop := mI M' t 1 = mI M t 1 ∧ mI M' t 7 = mI M t 7 ∧ mI M' t 8 = mI M t 8 ∧ ∀ i, i ≤ 9 → i ≠ 3 → mI M' (t + 62 + i) = mI M (t + 62 + i)
theorem sE0.kn (h : sE0 M M' t) (k : knF M M' t) : sE M M' t := ⟨h.1, h.2.1, h.2.2.1, h.2.2.2, k⟩
theorem xcF.trans {M2 : mM} (h : xcF M M' t) (k : xcF M' M2 t) : xcF M M2 t := ⟨k.1.trans h.1, k.2.1.trans h.2.1, fun i a b => (k.2.2.1 i a b).trans (h.2.2.1 i a b), k.2.2.2.trans h.2.2.2⟩
theorem brl_eq (e8 : mI M' (g + 8) = mI M (g + 8)) (e9 : mI M' (g + 9) = mI M (g + 9)) {a : Nat} : ∀ m, brl M' g a m = brl M g a m
  | 0 => rfl
  | m + 1 => by
    show brl M' g a m ++ [((mI M' (g + 8) (a + m)).toNat, mI M' (g + 9) (a + m))] = brl M g a m ++ [((mI M (g + 8) (a + m)).toNat, mI M (g + 9) (a + m))]
    rw [brl_eq e8 e9 m, e8, e9]
theorem cmmE (e : ∀ i, i ≤ 9 → i ≠ 3 → mI M' (g + i) = mI M (g + i)) (c : Nat) : cmm M' g c = cmm M g c := by
  unfold cmm
  rw [e 5 (by decide) (by decide), e 6 (by decide) (by decide), e 7 (by decide) (by decide), brl_eq (e 8 (by decide) (by decide)) (e 9 (by decide) (by decide))]
theorem xtmE (e : ∀ i, i ≤ 9 → i ≠ 3 → mI M' (g + i) = mI M (g + i)) : ∀ n, xtm M' g n = xtm M g n
  | 0 => rfl
  | n + 1 => by
    show xtm M' g n ++ [stm M' g n] = xtm M g n ++ [stm M g n]
    rw [xtmE e n]
    unfold stm
    rw [e 2 (by decide) (by decide), e 4 (by decide) (by decide), cml_cg (M' := M') (M := M) _ (fun c _ _ => cmmE e c)]
/-- the latest fault's place, explore's state, and what was explored -/
def XC (i9 : tI9) (M : mM) (t : Nat) : Prop := mI M t 7 = i9.2.2.2.2.2.1.1 ∧ (mI M t 8 = i9.2.2.2.2.2.1.2.1 ∧ mI M (mR M t 11) 1 = i9.2.2.2.2.2.1.2.2) ∧ mI M (t + 62) 0 = ((i9.2.2.2.2.2.2.1.length : Nat) : Int) ∧ (i9.2.2.2.2.2.2.1 = [] → i9.2.2.2.2.2.2.2 = []) ∧ (i9.2.2.2.2.2.2.1 ≠ [] → ∃ V : Nat, (V : Int) = i9.2.1 ∧ Sm9 M (t + 62) V i9.2.2.2.2.2.2.1.length = i9.2.2.2.2.2.2.1 ∧ xtm M (t + 62) i9.2.2.2.2.2.2.1.length = i9.2.2.2.2.2.2.2)
theorem XC.tb {S : List (List Int)} {T : xt9} {n : Nat} (h : ∃ V : Nat, (V : Int) = i9.2.1 ∧ Sm9 M (t + 62) V n = S ∧ xtm M (t + 62) n = T) (k : ∀ i, i ≤ 9 → i ≠ 3 → mI M' (t + 62 + i) = mI M (t + 62 + i)) : ∃ V : Nat, (V : Int) = i9.2.1 ∧ Sm9 M' (t + 62) V n = S ∧ xtm M' (t + 62) n = T := by
  obtain ⟨V, h1, h2, h3⟩ := h
  refine ⟨V, h1, ?_, by rw [xtmE k]; exact h3⟩
  unfold Sm9 lsm at h2 ⊢
  rw [k 1 (by decide) (by decide)]
  exact h2
theorem XC.xc (h : XC i9 M t) (k : xcF M M' t) : XC i9 M' t := by
  obtain ⟨h1, h2, h3, h4, h5⟩ := h
  exact ⟨by rw [k.1]; exact h1, ⟨by rw [k.2.1]; exact h2.1, k.2.2.2.trans h2.2⟩, by have := k.2.2.1 0 (by decide) (by decide); rw [Nat.add_zero] at this; rw [this]; exact h3, h4, fun u => XC.tb (h5 u) k.2.2.1⟩
/-- the tape's length, and what was explored -/
def tE (Nn : tP9) (M : mM) (t : Nat) : Prop := mI M t 1 = Nn.1 ∧ XC Nn.2.2 M t
theorem sE.trans (h : sE M M' t) (k : tE Nn M t) : tE Nn M' t := ⟨h.1.trans k.1, k.2.xc h.2⟩
theorem sE.mi (e : mI M' = mI M) (er : mR M' = mR M) : sE M M' t := by
  unfold sE xcF knF
  rw [e, er]
  exact ⟨rfl, rfl, rfl, fun _ _ _ => rfl, rfl⟩
/-- solving: are values worked out -/
theorem XC.kn {k : Int} (h : XC i9 M t) (e : sE0 M M' t) (hk : mI M' (mR M' t 11) 1 = k) : XC (kn9 i9 k) M' t := by
  obtain ⟨h1, h2, h3, h4, h5⟩ := h
  exact ⟨by rw [e.2.1]; exact h1, ⟨by rw [e.2.2.1]; exact h2.1, hk⟩, by have := e.2.2.2 0 (by decide) (by decide); rw [Nat.add_zero] at this; rw [this]; exact h3, h4, fun u => XC.tb (h5 u) e.2.2.2⟩
end XCD
end
section
/-! The class at rest. -/
section NCV
variable {G : mG} {d t x n cn cc bc T Kt N A B D Cw p O P K p' O' P' K' Ab Be Cm U Ag Bg Cg Ps Pc : Nat} {M M' M1 : mM} {Z Y C : Nat → Prop} {v R k : Nat → Nat} {Ls : List Nat} {c9 c8 : tG9}
/-- its cells lie apart: Z the numbers' cells, C all -/
def Ap (Z C : Nat → Prop) (t T A B D O P O' P' Ab Be Ag Bg : Nat) (M : mM) : Prop := (∀ x, (t ≤ x ∧ x < t + 85) ∨ x = t + 234 ∨ x ∈ [T, A, B, D, O, P, O', P', Ab, Be, Ag, Bg] → ¬ Z x) ∧ [T, A, B, D, O, P, O', P', Ab, Be, Ag, Bg].Nodup ∧ ((T = t + 1 ∨ t + 235 ≤ T) ∧ (A = t + 4 ∨ t + 235 ≤ A) ∧ (B = t + 5 ∨ t + 235 ≤ B) ∧ (D = t + 6 ∨ t + 235 ≤ D)) ∧ (∀ x, (t ≤ x ∧ x < t + 235) ∨ Z x ∨ x ∈ [T, A, B, D, O, P, O', P', Ab, Be, Ag, Bg] → C x) ∧ (∀ x, C x → x < mZ M)
/-- the room that it has taken -/
def Rmc (Kt Cw K K' Cm Cg Ps Pc : Nat) (Ls : List Nat) (k : Nat → Nat) (M : mM) : Prop := Ps = 2 * Kt + 6 * Cw + 4 * K + 4 * K' + 4 * Cm + 4 * Cg + Pn Ls k M ∧ Pc = 4 * Kt + 2 * Cw + K + K' + 2 * Cm + 2 * Cg + 64 * Qn Ls k M ∧ Ls.length ≤ 59 + 2 * (k 0 + k 1 + k 2 + k 3)
def CJ (c9 : tG9) (C : Nat → Prop) (n t Ps Pc T Kt N A B D Cw p O P K p' O' P' K' Ab Be Cm U Ag Bg Cg cn cc bc : Nat) (Ls : List Nat) (v R k : Nat → Nat) (Z : Nat → Prop) (M : mM) : Prop := mOk M ∧ Tx c9 t T Kt N A B D Cw p O P K p' O' P' K' Ab Be Cm M ∧ Gm t U Ag Bg Cg cn cc bc n M ∧ Ns Z t Ls v R k cn cc bc M ∧ Ap Z C t T A B D O P O' P' Ab Be Ag Bg M ∧ Rmc Kt Cw K K' Cm Cg Ps Pc Ls k M ∧ (1 ≤ cn → mI M t 6 ≠ 0)
/-- the class between two calls: n calls so far, C its cells, Ps and Pc its room -/
def CI (c9 : tG9) (C : Nat → Prop) (n t Ps Pc : Nat) (M : mM) : Prop := ∃ (T Kt N A B D Cw p O P K p' O' P' K' Ab Be Cm U Ag Bg Cg cn cc bc : Nat) (Ls : List Nat) (v R k : Nat → Nat) (Z : Nat → Prop), CJ c9 C n t Ps Pc T Kt N A B D Cw p O P K p' O' P' K' Ab Be Cm U Ag Bg Cg cn cc bc Ls v R k Z M
/-- what a call leaves behind -/
def cQ0 (c9 : tG9) (C : Nat → Prop) (n t Ps Pc : Nat) (M M' : mM) : Prop := ∃ (C' : Nat → Prop) (Ps' Pc' : Nat), CI c9 C' (n + 1) t Ps' Pc' M' ∧ FC C M M' ∧ (∀ x, C' x → C x ∨ (mZ M ≤ x ∧ x < mZ M')) ∧ mS M' + Ps ≤ mS M + Ps' ∧ 64 * mZ M' + Pc ≤ 64 * mZ M + Pc'
def cQ (c9 : tG9) (C : Nat → Prop) (n t Ps Pc : Nat) (M M' : mM) : Prop := cQ0 c9 C n t Ps Pc M M' ∧ sE M M' t
/-- the table of values is not among what a step may change -/
theorem CJ.knf (h : CJ c9 C n t Ps Pc T Kt N A B D Cw p O P K p' O' P' K' Ab Be Cm U Ag Bg Cg cn cc bc Ls v R k Z M) (r : mR M' t 11 = mR M t 11) (e : mI M' (v 0) 1 = mI M (v 0) 1) : knF M M' t := by
  unfold knF
  rw [r, h.2.2.2.1.2.2.1.2.2.1.1]
  exact e
theorem CJ.vz (h : CJ c9 C n t Ps Pc T Kt N A B D Cw p O P K p' O' P' K' Ab Be Cm U Ag Bg Cg cn cc bc Ls v R k Z M) : Z (v 0) := (h.2.2.2.1.2.1.2.2 0 (by decide)).1
theorem CJ.vfc (h : CJ c9 C n t Ps Pc T Kt N A B D Cw p O P K p' O' P' K' Ab Be Cm U Ag Bg Cg cn cc bc Ls v R k Z M) (f : FC Y M M') (hy : ∀ x, Y x → ¬ Z x) : mI M' (v 0) = mI M (v 0) := (f.sm (h.2.2.2.2.1.2.2.2.2 _ (h.2.2.2.2.1.2.2.2.1 _ (Or.inr (Or.inl h.vz)))) (fun u => hy _ u h.vz)).2.2.2
theorem CJ.up (h : CJ c9 C n t Ps Pc T Kt N A B D Cw p O P K p' O' P' K' Ab Be Cm U Ag Bg Cg cn cc bc Ls v R k Z M) : CJ c9 C (n + 1) t Ps Pc T Kt N A B D Cw p O P K p' O' P' K' Ab Be Cm U Ag Bg Cg cn cc bc Ls v R k Z M := ⟨h.1, h.2.1, h.2.2.1.up, h.2.2.2⟩
theorem CI.same (h : CI c9 C n t Ps Pc M) : cQ c9 C n t Ps Pc M M := by
  obtain ⟨T, Kt, N, A, B, D, Cw, p, O, P, K, p', O', P', K', Ab, Be, Cm, U, Ag, Bg, Cg, cn, cc, bc, Ls, v, R, k, Z, h⟩ := h
  exact ⟨⟨C, Ps, Pc, ⟨T, Kt, N, A, B, D, Cw, p, O, P, K, p', O', P', K', Ab, Be, Cm, U, Ag, Bg, Cg, cn, cc, bc, Ls, v, R, k, Z, h.up⟩, FC.refl, fun x u => Or.inl u, Nat.le_refl _, Nat.le_refl _⟩, sE.refl⟩
theorem CJ.tg (h : CJ c9 C n t Ps Pc T Kt N A B D Cw p O P K p' O' P' K' Ab Be Cm U Ag Bg Cg cn cc bc Ls v R k Z M) : Tg M t (t + 62) cn cc bc := ⟨h.1, ⟨h.2.2.2.1.2.2.1.1, h.2.2.2.1.2.2.1.2.1.1⟩, h.2.2.1.1, h.2.2.1.2.2.2.2.2.1⟩
theorem CI.tg (h : CI c9 C n t Ps Pc M) : ∃ cn cc bc, Tg M t (t + 62) cn cc bc := by
  obtain ⟨T, Kt, N, A, B, D, Cw, p, O, P, K, p', O', P', K', Ab, Be, Cm, U, Ag, Bg, Cg, cn, cc, bc, Ls, v, R, k, Z, h⟩ := h
  exact ⟨cn, cc, bc, h.tg⟩
/-- an answer, and nothing has changed -/
theorem CI.rd {r : Int} (h : CI c9 C n t Ps Pc M) (q : M' = M ∧ i32 r) : i32 r ∧ cQ c9 C n t Ps Pc M M' := by
  rw [q.1]
  exact ⟨q.2, h.same⟩
theorem c_CA_place (h : CI c9 C n t Ps Pc M) : Ci G y_CA_place d [vr t] M (fun r M' => i32 r ∧ cQ c9 C n t Ps Pc M M' ∧ r = mI M t 7) := by
  obtain ⟨cn, cc, bc, q⟩ := h.tg
  exact (s_CA_place q).mono (fun r M' e => ⟨(h.rd ⟨e.1, e.2.1⟩).1, (h.rd ⟨e.1, e.2.1⟩).2, e.2.2⟩)
theorem c_CA_state (h : CI c9 C n t Ps Pc M) : Ci G y_CA_state d [vr t] M (fun r M' => i32 r ∧ cQ c9 C n t Ps Pc M M' ∧ r = mI M t 8) := by
  obtain ⟨cn, cc, bc, q⟩ := h.tg
  exact (s_CA_state q).mono (fun r M' e => ⟨(h.rd ⟨e.1, e.2.1⟩).1, (h.rd ⟨e.1, e.2.1⟩).2, e.2.2⟩)
theorem c_CA_states (h : CI c9 C n t Ps Pc M) : Ci G y_CA_states d [vr t] M (fun r M' => i32 r ∧ cQ c9 C n t Ps Pc M M' ∧ r = mI M (t + 62) 0) := by
  obtain ⟨cn, cc, bc, q⟩ := h.tg
  have c5 := q.2.2.2.cnt.2
  have c0 := q.2.2.2.cnt.1
  refine (s_CA_states q).mono (fun r M' e => ?_)
  have k := h.rd (r := r) ⟨e.1, by rw [e.2]; exact i32s (by omega) (by omega)⟩
  exact ⟨k.1, k.2, by rw [c0]; exact e.2⟩
theorem c_CA_next {l1 l2 : Int} (i1 : i32 l1) (i2 : i32 l2) (h : CI c9 C n t Ps Pc M) : Ci G y_CA_next (d + 2) [vr t, vi l1, vi l2] M (fun r M' => i32 r ∧ cQ c9 C n t Ps Pc M M') := by
  obtain ⟨cn, cc, bc, q⟩ := h.tg
  exact (s_CA_next i1 i2 q).mono (fun r M' e => h.rd e)
theorem c_CA_items {l : Int} (il : i32 l) (h : CI c9 C n t Ps Pc M) : Ci G y_CA_items d [vr t, vi l] M (fun r M' => i32 r ∧ cQ c9 C n t Ps Pc M M' ∧ r = itq c9.2 l) := by
  obtain ⟨T, Kt, N, A, B, D, Cw, p, O, P, K, p', O', P', K', Ab, Be, Cm, U, Ag, Bg, Cg, cn, cc, bc, Ls, v, R, k, Z, j⟩ := id h
  refine (s_CA_items il j.tg ⟨j.2.1.1.2.2.1, j.2.1.2.2.2.2.1.1⟩).mono (fun r M' e => ⟨(h.rd e.1).1, (h.rd e.1).2, ?_⟩)
  obtain ⟨i1, i2⟩ := j.2.1.2.2.2.2.2.2.2
  have e2 := e.2
  unfold itq
  by_cases z : mI M t 6 = 0
  · rw [e2, if_pos z, ← i1, if_pos z]
  · obtain ⟨y1, y2, y3, -⟩ := i2 z
    rw [e2, if_neg z, ← i1, if_neg z, y1, y2, y3]
theorem c_CA_choice {l : Int} (il : i32 l) (h : CI c9 C n t Ps Pc M) : Ci G y_CA_choice (d + 1) [vr t, vi l] M (fun r M' => i32 r ∧ cQ c9 C n t Ps Pc M M') := by
  obtain ⟨T, Kt, N, A, B, D, Cw, p, O, P, K, p', O', P', K', Ab, Be, Cm, U, Ag, Bg, Cg, cn, cc, bc, Ls, v, R, k, Z, j⟩ := id h
  have jn := j.2.2.2.1
  exact (s_CA_choice il j.tg jn.2.2.1.2.1.2 jn.1.1.1.2.1 ⟨jn.2.2.1.2.2.1.1, (jn.1.2.1.1 0 (by decide)).1.1⟩).mono (fun r M' e => h.rd e)
theorem c_CA_rank {l : Int} (il : i32 l) (h : CI c9 C n t Ps Pc M) : Ci G y_CA_rank (d + 1) [vr t, vi l] M (fun r M' => i32 r ∧ cQ c9 C n t Ps Pc M M') := by
  obtain ⟨T, Kt, N, A, B, D, Cw, p, O, P, K, p', O', P', K', Ab, Be, Cm, U, Ag, Bg, Cg, cn, cc, bc, Ls, v, R, k, Z, j⟩ := id h
  have jn := j.2.2.2.1
  exact (s_CA_rank il j.tg jn.2.2.1.2.1.2 jn.1.1.1.2.1 ⟨jn.2.2.1.2.2.1.1, (jn.1.2.1.1 0 (by decide)).1.1⟩).mono (fun r M' e => h.rd e)
theorem c_CA_character {l : Int} (il : i32 l) (h : CI c9 C n t Ps Pc M) : Ci G y_CA_character d [vr t, vi l] M (fun r M' => i32 r ∧ cQ c9 C n t Ps Pc M M') := by
  obtain ⟨T, Kt, N, A, B, D, Cw, p, O, P, K, p', O', P', K', Ab, Be, Cm, U, Ag, Bg, Cg, cn, cc, bc, Ls, v, R, k, Z, j⟩ := id h
  obtain ⟨n1, n2, n3, n4, n5, n6, n7, c, e18, c4⟩ := j.2.2.2.1
  exact (s_CA_character il j.1 n3.1 n3.2.2.2.1.2.2 ⟨n7.1, n7.2.1⟩ e18 c4).mono (fun r M' e => h.rd e)
end NCV
end
section
/-! The class answers the questions about the states as the tables say. -/
section CAS
variable {G : mG} {d t n Ps Pc g cn cc bc : Nat} {M M' : mM} {C : Nat → Prop} {c9 : tG9} {i9 : tI9}
theorem XC.st (h : XC i9 M t) (l : Int) : stA9 i9.2.2.2.2.2.2.2 l = if 0 ≤ l ∧ l < mI M (t + 62) 0 then some (stm M (t + 62) l.toNat) else none := by
  obtain ⟨-, -, h3, h4, h5⟩ := h
  unfold stA9
  by_cases y : l < 0
  · rw [if_pos y, if_neg (by omega)]
  rw [if_neg y]
  by_cases z : i9.2.2.2.2.2.2.1 = []
  · rw [h4 z, if_neg (by rw [h3, z]; show ¬ (0 ≤ l ∧ l < ((0 : Nat) : Int)); omega)]
    all_goals rfl
  · obtain ⟨V, -, -, hT⟩ := h5 z
    rw [← hT, xtm_map, rget]
    by_cases u : 0 ≤ l ∧ l < mI M (t + 62) 0
    · rw [if_pos u, if_pos (by omega)]
    · rw [if_neg u, if_neg (by omega)]
/-- the commands of a state -/
theorem GR.row (hr : GR M g cn cc bc) {l : Int} (hl : 0 ≤ l ∧ l < cn) : ∃ a b : Nat, mI M (g + 4) l.toNat = ((a : Nat) : Int) ∧ mI M (g + 4) (l + 1).toNat = ((b : Nat) : Int) ∧ mI M (g + 4) (l.toNat + 1) = ((b : Nat) : Int) ∧ a ≤ b ∧ b ≤ cc ∧ cc ≤ 4096 ∧ 1 ≤ cn ∧ cn ≤ 512 := by
  rcases hr with ⟨e1, -⟩ | ⟨c1, q⟩
  · omega
  · obtain ⟨⟨-, q2, -⟩, -, -, t1, t2, -, -, -, t6, -⟩ := q
    obtain ⟨x, y', f1, f2, f3, f4⟩ := t6 l.toNat (by omega)
    exact ⟨x, y', f1, by rw [show (l + 1).toNat = l.toNat + 1 by omega]; exact f2, f2, f3, f4, by omega, c1, q2⟩
theorem e_CA_kind {l : Int} (il : i32 l) (h : CI c9 C n t Ps Pc M) (hx : XC c9.2 M t) : Ci G y_CA_kind (d + 1) [vr t, vi l] M (fun r M' => i32 r ∧ cQ c9 C n t Ps Pc M M' ∧ r = kdA9 c9.2.2.2.2.2.2.2.2 l) := by
  obtain ⟨cn, cc, bc, h1, ⟨h2, h3⟩, h4, h5⟩ := h.tg
  have hc := h5.cnt
  obtain ⟨g0, ⟨-, g2, -⟩, ⟨-, k2, -⟩, ⟨-, n2, -⟩⟩ := id h4
  refine k_CA_kind h1 il ?_
  rw [h3]
  refine ⟨h2, g0, (s_Ga_hasState il h1 g0 hc.1).mono (fun x4 M3 q => ?_)⟩
  obtain ⟨e, hb, hi⟩ := q
  subst e
  rw [h3, g2, n2]
  refine ⟨m_b32 hb, h1, fun u => ?_, fun v e => ?_⟩
  · have := hi.mp u
    exact ⟨h2, g0, k2, by omega, by omega⟩
  · have iv : i32 v := by
      rw [e]
      split
      · exact ⟨by decide, by decide⟩
      · exact (h1 _ _).1
    refine ⟨iv, h.same, ?_⟩
    unfold kdA9
    rw [e, hx.st, hc.1]
    by_cases y : x4 = 0
    · rw [if_pos y, if_neg (fun z => (hi.mpr z) y)]
      all_goals rfl
    · rw [if_neg y, if_pos (hi.mp y)]
      all_goals rfl
theorem e_CA_commands {l : Int} (il : i32 l) (h : CI c9 C n t Ps Pc M) (hx : XC c9.2 M t) : Ci G y_CA_commands (d + 1) [vr t, vi l] M (fun r M' => i32 r ∧ cQ c9 C n t Ps Pc M M' ∧ r = cnA9 c9.2.2.2.2.2.2.2.2 l) := by
  obtain ⟨cn, cc, bc, h1, ⟨h2, h3⟩, h4, h5⟩ := h.tg
  have hc := h5.cnt
  obtain ⟨g0, ⟨-, -, -, g4, -⟩, ⟨-, -, -, k4, -⟩, ⟨-, -, -, n4, -⟩⟩ := id h4
  refine k_CA_commands h1 il ?_
  rw [h3]
  refine ⟨h2, g0, (s_Ga_hasState il h1 g0 hc.1).mono (fun x4 M3 q => ?_)⟩
  obtain ⟨e, hb, hi⟩ := q
  subst e
  rw [h3, g4, n4]
  refine ⟨m_b32 hb, h1, fun u => ?_, fun v e => ?_⟩
  · have := hi.mp u
    exact ⟨h2, g0, k4, by omega, by omega⟩
  · have ev : i32 v ∧ v = cnA9 c9.2.2.2.2.2.2.2.2 l := by
      unfold cnA9
      rw [e, hx.st, hc.1]
      by_cases y : x4 = 0
      · rw [if_pos y, if_neg (fun z => (hi.mpr z) y)]
        exact ⟨⟨by decide, by decide⟩, rfl⟩
      · have z := hi.mp y
        obtain ⟨a, b, f1, f2, f2', f3, f4, f5, f6, f7⟩ := h5.row z
        rw [if_neg y, if_pos z, f1, f2]
        refine ⟨i32s (by omega) (by omega), ?_⟩
        show ((b : Nat) : Int) - ((a : Nat) : Int) = (((cml M3 (t + 62) (mI M3 (t + 62 + 4) l.toNat).toNat ((mI M3 (t + 62 + 4) (l.toNat + 1)).toNat - (mI M3 (t + 62 + 4) l.toNat).toNat)).length : Nat) : Int)
        rw [cml_map, List.length_map, List.length_range, f1, f2', Int.toNat_natCast, Int.toNat_natCast]
        omega
    exact ⟨ev.1, h.same, ev.2⟩
theorem e_Ga_commandAt {l1 l2 : Int} (i1 : i32 l1) (i2 : i32 l2) (h1 : mOk M) (hk : GK M g) (hr : GR M g cn cc bc) : Ci G y_Ga_commandAt (d + 1) [vr g, vi l1, vi l2] M (fun r M' => M' = M ∧ i32 r ∧ (cmdP M g cn l1 l2 → r = mI M (g + 4) l1.toNat + l2) ∧ (¬ cmdP M g cn l1 l2 → r = -1)) := by
  obtain ⟨g0, ⟨-, -, -, g4, -⟩, ⟨-, -, -, k4, -⟩, ⟨-, -, -, n4, -⟩⟩ := id hk
  have hc := hr.cnt
  refine k_Ga_commandAt h1 i1 i2 ⟨g0, (s_Ga_hasState i1 h1 g0 hc.1).mono (fun x3 M2 q => ?_)⟩
  obtain ⟨e2, hx, hiff⟩ := q
  subst e2
  have bad : ((x3 = 0) ∨ (l2 < 0) ∨ ¬ (l2 < mI M2 (g + 4) (l1 + 1).toNat - mI M2 (g + 4) l1.toNat)) → ¬ cmdP M2 g cn l1 l2 := fun u p => by
    rcases u with u | u | u
    · exact (hiff.mpr p.1) u
    · exact absurd p.2.1 (by omega)
    · exact u p.2.2
  have row : x3 ≠ 0 → ∃ a b : Nat, mI M2 (g + 4) l1.toNat = ((a : Nat) : Int) ∧ mI M2 (g + 4) (l1 + 1).toNat = ((b : Nat) : Int) ∧ mI M2 (g + 4) (l1.toNat + 1) = ((b : Nat) : Int) ∧ a ≤ b ∧ b ≤ cc ∧ cc ≤ 4096 ∧ 1 ≤ cn ∧ cn ≤ 512 := fun y => hr.row (hiff.mp y)
  clear hr
  rw [g4, n4]
  refine ⟨m_b32 hx, h1, fun y _ => ?_, fun u => ⟨rfl, ⟨by decide, by decide⟩, fun p => absurd p (bad u), fun _ => rfl⟩, fun y => ?_⟩
  · obtain ⟨a, b, f1, f2, -, f3, f4, f5, f6, f7⟩ := row y
    have b0 := hiff.mp y
    rw [f1, f2]
    exact ⟨g0, k4, by omega, by omega, ⟨by omega, by omega⟩⟩
  · have y0 : x3 ≠ 0 := fun t => y (Or.inl t)
    have b0 := hiff.mp y0
    obtain ⟨a, b, f1, f2, -, f3, f4, f5, f6, f7⟩ := row y0
    have y1 : 0 ≤ l2 := by
      by_cases t : l2 < 0
      · exact absurd (Or.inr (Or.inl t)) y
      · omega
    have y2 : l2 < mI M2 (g + 4) (Int.toNat (l1 + 1)) - mI M2 (g + 4) (Int.toNat l1) := Classical.byContradiction (fun t => y (Or.inr (Or.inr t)))
    have yy : cmdP M2 g cn l1 l2 := ⟨b0, y1, y2⟩
    rw [f1, f2] at y2
    rw [f1]
    exact ⟨g0, k4, by omega, rfl, ⟨by omega, by omega⟩, fun _ => rfl, fun n => absurd yy n⟩
/-- where a command's numbers stand -/
theorem XC.cm (h : XC i9 M t) (hr : GR M (t + 62) cn cc bc) (l1 l2 : Int) : (¬ cmdP M (t + 62) cn l1 l2 ∧ cmA9 i9.2.2.2.2.2.2.2 l1 l2 = none) ∨ (cmdP M (t + 62) cn l1 l2 ∧ ∃ j : Nat, mI M (t + 62 + 4) l1.toNat + l2 = ((j : Nat) : Int) ∧ j < cc ∧ 1 ≤ cn ∧ cmA9 i9.2.2.2.2.2.2.2 l1 l2 = some (cmm M (t + 62) j)) := by
  have hc := hr.cnt
  have hst := h.st l1
  unfold cmA9
  rw [hst, hc.1]
  by_cases y : 0 ≤ l1 ∧ l1 < ((cn : Nat) : Int)
  · obtain ⟨a, b, f1, f2, f2', f3, f4, f5, f6, f7⟩ := hr.row y
    rw [if_pos y]
    have red : ((some (stm M (t + 62) l1.toNat)).bind (fun x => if l2 < 0 then none else x.2[l2.toNat]?)) = if l2 < 0 then none else (cml M (t + 62) (mI M (t + 62 + 4) l1.toNat).toNat ((mI M (t + 62 + 4) (l1.toNat + 1)).toNat - (mI M (t + 62 + 4) l1.toNat).toNat))[l2.toNat]? := rfl
    rw [red]
    by_cases z : l2 < 0
    · rw [if_pos z]
      exact Or.inl ⟨fun u => absurd u.2.1 (by omega), rfl⟩
    · rw [if_neg z, cml_map, rget, f1, f2', Int.toNat_natCast, Int.toNat_natCast]
      by_cases u : l2 < ((b : Nat) : Int) - ((a : Nat) : Int)
      · rw [if_pos (by omega)]
        exact Or.inr ⟨⟨y, by omega, by rw [f1, f2]; exact u⟩, a + l2.toNat, by omega, by omega, f6, rfl⟩
      · rw [if_neg (by omega)]
        exact Or.inl ⟨fun v => u (by have := v.2.2; rw [f1, f2] at this; exact this), rfl⟩
  · rw [if_neg y]
    exact Or.inl ⟨fun u => y u.1, rfl⟩
theorem e_CA_command {l1 l2 : Int} (i1 : i32 l1) (i2 : i32 l2) (h : CI c9 C n t Ps Pc M) (hx : XC c9.2 M t) : Ci G y_CA_command (d + 2) [vr t, vi l1, vi l2] M (fun r M' => i32 r ∧ cQ c9 C n t Ps Pc M M' ∧ r = caA9 c9.2.2.2.2.2.2.2.2 l1 l2) := by
  obtain ⟨cn, cc, bc, h1, ⟨h2, h3⟩, h4, h5⟩ := h.tg
  obtain ⟨g0, ⟨-, -, -, -, g5, -⟩, ⟨-, -, -, -, k5, -⟩, ⟨-, -, -, -, n5, -⟩⟩ := id h4
  refine k_CA_command h1 i1 i2 ?_
  rw [h3]
  refine ⟨h2, g0, (e_Ga_commandAt (d := d) i1 i2 h1 h4 h5).mono (fun x4 M3 q => ?_)⟩
  obtain ⟨e, ix, hi⟩ := q
  subst e
  rw [h3, g5, n5]
  unfold caA9
  rcases hx.cm h5 l1 l2 with ⟨np, ec⟩ | ⟨yp, j, ej, jc, c1, ec⟩
  · have hi := hi.2 np
    rw [ec]
    exact ⟨ix, h1, fun u => absurd hi u, fun v e => ⟨by rw [e, if_pos hi]; exact ⟨by decide, by decide⟩, h.same, by rw [e, if_pos hi]; rfl⟩⟩
  · have hi := hi.1 yp
    rw [ej] at hi
    obtain ⟨b1, b2⟩ := h5.cmd c1
    obtain ⟨x, y, mu, e1, e2, e3, e4, e5, e6, e7, e8, e9, e10, e11⟩ := b2 j jc
    have nx : ¬ (x4 = -1) := by omega
    rw [ec]
    refine ⟨ix, h1, fun _ => ⟨h2, g0, k5, by omega, by omega⟩, fun v e => ?_⟩
    rw [if_neg nx, hi, Int.toNat_natCast] at e
    refine ⟨by rw [e]; exact (h1 _ _).1, h.same, ?_⟩
    rw [e]
    show mI M3 (t + 62 + 5) j = ((cmm M3 (t + 62) j).1 : Int)
    first
      | rfl
      | (show mI M3 (t + 62 + 5) j = (((mI M3 (t + 62 + 5) j).toNat : Nat) : Int); omega)
theorem e_CA_branches {l1 l2 : Int} (i1 : i32 l1) (i2 : i32 l2) (h : CI c9 C n t Ps Pc M) (hx : XC c9.2 M t) : Ci G y_CA_branches (d + 2) [vr t, vi l1, vi l2] M (fun r M' => i32 r ∧ cQ c9 C n t Ps Pc M M' ∧ r = bnA9 c9.2.2.2.2.2.2.2.2 l1 l2) := by
  obtain ⟨cn, cc, bc, h1, ⟨h2, h3⟩, h4, h5⟩ := h.tg
  obtain ⟨g0, ⟨-, -, -, -, -, -, g7, -⟩, ⟨-, -, -, -, -, -, k7, -⟩, ⟨-, -, -, -, -, -, n7, -⟩⟩ := id h4
  refine k_CA_branches h1 i1 i2 ?_
  rw [h3]
  refine ⟨h2, g0, (e_Ga_commandAt (d := d) i1 i2 h1 h4 h5).mono (fun x4 M3 q => ?_)⟩
  obtain ⟨e, ix, hi⟩ := q
  subst e
  rw [h3, g7, n7]
  unfold bnA9
  rcases hx.cm h5 l1 l2 with ⟨np, ec⟩ | ⟨yp, j, ej, jc, c1, ec⟩
  · have hi := hi.2 np
    rw [ec]
    exact ⟨ix, h1, fun u => absurd hi u, fun v e => ⟨by rw [e, if_pos hi]; exact ⟨by decide, by decide⟩, h.same, by rw [e, if_pos hi]; rfl⟩⟩
  · have hi := hi.1 yp
    rw [ej] at hi
    obtain ⟨b1, b2⟩ := h5.cmd c1
    obtain ⟨x, y, mu, e1, e2, e3, e4, -⟩ := b2 j jc
    have nx : ¬ (x4 = -1) := by omega
    rw [ec]
    refine ⟨ix, h1, fun _ => ⟨h2, g0, k7, by omega, by omega⟩, fun v e => ?_⟩
    rw [if_neg nx, hi, show (((j : Nat) : Int) + 1).toNat = j + 1 by omega, Int.toNat_natCast, e1, e2] at e
    refine ⟨by rw [e]; exact i32s (by omega) (by omega), h.same, ?_⟩
    rw [e]
    show ((y : Nat) : Int) - ((x : Nat) : Int) = (((brl M3 (t + 62) (mI M3 (t + 62 + 7) j).toNat ((mI M3 (t + 62 + 7) (j + 1)).toNat - (mI M3 (t + 62 + 7) j).toNat)).length : Nat) : Int)
    rw [brl_map, List.length_map, List.length_range, e1, e2, Int.toNat_natCast, Int.toNat_natCast]
    omega
theorem e_CA_branch {l1 l2 l3 l4 : Int} (i1 : i32 l1) (i2 : i32 l2) (i3 : i32 l3) (i4 : i32 l4) (h : CI c9 C n t Ps Pc M) (hx : XC c9.2 M t) : Ci G y_CA_branch (d + 2) [vr t, vi l1, vi l2, vi l3, vi l4] M (fun r M' => i32 r ∧ cQ c9 C n t Ps Pc M M' ∧ r = brA9 c9.2.2.2.2.2.2.2.2 l1 l2 l3 l4) := by
  obtain ⟨cn, cc, bc, h1, ⟨h2, h3⟩, h4, h5⟩ := h.tg
  obtain ⟨g0, ⟨-, -, -, -, -, g6, g7, g8, g9, -⟩, ⟨-, -, -, -, -, k6, k7, k8, k9, -⟩, ⟨-, -, -, -, -, n6, n7, n8, n9, -⟩⟩ := id h4
  refine k_CA_branch h1 i1 i2 i3 i4 ?_
  rw [h3]
  refine ⟨h2, g0, (e_Ga_commandAt (d := d) i1 i2 h1 h4 h5).mono (fun x4 M3 q => ?_)⟩
  obtain ⟨e, ix, hi⟩ := q
  subst e
  have same := h.same
  rw [h3, g7, n7, g6, n6, g9, n9]
  unfold brA9
  rcases hx.cm h5 l1 l2 with ⟨np, ec⟩ | ⟨yp, j, ej, jc, c1, ec⟩
  · have hi := hi.2 np
    rw [ec]
    exact ⟨ix, h1, fun w => absurd hi w, fun _ => ⟨⟨by decide, by decide⟩, same, rfl⟩, fun w => absurd (Or.inl hi) w⟩
  have hi := hi.1 yp
  rw [ej] at hi
  obtain ⟨b1, b2⟩ := h5.cmd c1
  have hm := b2 j jc
  obtain ⟨x, y, mu, e1, e2, e3, e4, e5, e6, e7, e8, e9, -⟩ := id hm
  have nx : ¬ (x4 = -1) := by omega
  have wl : ∀ i, x ≤ i → i < y → mI M3 (t + 62 + 9) i < 1000000000 := fun i a b => by
    have := wsm_le (M := M3) (g := t + 62) (x := x) (n := y - x) (fun i a b => (e5 i a (by omega)).2.2) (y - x) (Nat.le_refl _) i a (by omega)
    rw [e9] at this
    omega
  rw [ec, hi, show (((j : Nat) : Int) + 1).toNat = j + 1 by omega, Int.toNat_natCast, e1, e2, e6]
  have bq : bqA9 (cmm M3 (t + 62) j) l3 = if 0 ≤ l3 ∧ l3 < ((y : Nat) : Int) - ((x : Nat) : Int) then some ((mI M3 (t + 62 + 8) (x + l3.toNat)).toNat, mI M3 (t + 62 + 9) (x + l3.toNat)) else none := by
    unfold bqA9
    by_cases z : l3 < 0
    · rw [if_pos z, if_neg (by omega)]
    · rw [if_neg z]
      show (brl M3 (t + 62) (mI M3 (t + 62 + 7) j).toNat ((mI M3 (t + 62 + 7) (j + 1)).toNat - (mI M3 (t + 62 + 7) j).toNat))[l3.toNat]? = _
      rw [brl_map, rget, e1, e2, Int.toNat_natCast, Int.toNat_natCast]
      by_cases u : l3 < ((y : Nat) : Int) - ((x : Nat) : Int)
      · rw [if_pos (by omega), if_pos ⟨by omega, u⟩]
      · rw [if_neg (by omega), if_neg (fun v => u v.2)]
  have hmu : (cmm M3 (t + 62) j).2.1 = ((mu : Nat) : Int) := e6
  have red : ((some (cmm M3 (t + 62) j)).map (fun c => ((bqA9 c l3).map (b1A9 c.2.1 l4)).getD (-1))).getD (-1) = ((bqA9 (cmm M3 (t + 62) j) l3).map (b1A9 ((mu : Nat) : Int) l4)).getD (-1) := by
    rw [← hmu]
    all_goals rfl
  rw [red, bq]
  refine ⟨by rw [← hi]; exact ix, h1, fun _ _ => ⟨h2, g0, k7, by omega, by omega, i32s (by omega) (by omega)⟩, fun w => ⟨⟨by decide, by decide⟩, same, ?_⟩, fun v => ?_⟩
  · rw [if_neg (fun u => by rcases w with w | w | w <;> omega)]
    all_goals rfl
  have v1 : 0 ≤ l3 := by
    by_cases q : l3 < 0
    · exact absurd (Or.inr (Or.inl q)) v
    · omega
  have v2 : l3 < ((y : Nat) : Int) - ((x : Nat) : Int) := Classical.byContradiction (fun q => v (Or.inr (Or.inr q)))
  have ei : Int.toNat (((x : Nat) : Int) + l3) = x + l3.toNat := by omega
  have we := e5 (x + l3.toNat) (by omega) (by omega)
  have we2 := wl (x + l3.toNat) (by omega) (by omega)
  rw [ei, if_pos ⟨v1, v2⟩]
  have red2 : ((some ((mI M3 (t + 62 + 8) (x + l3.toNat)).toNat, mI M3 (t + 62 + 9) (x + l3.toNat))).map (b1A9 ((mu : Nat) : Int) l4)).getD (-1) = b1A9 ((mu : Nat) : Int) l4 ((mI M3 (t + 62 + 8) (x + l3.toNat)).toNat, mI M3 (t + 62 + 9) (x + l3.toNat)) := rfl
  rw [red2]
  unfold b1A9
  refine ⟨h2, g0, k7, by omega, k9, by omega, k6, by omega, (x_Ma_commonDivisor (d := d + 1) ⟨by omega, by omega⟩ ⟨by omega, by omega⟩ h1).mono (fun x27 M26 q => ?_)⟩
  obtain ⟨e, ⟨f1, f2⟩, f3⟩ := q
  subst e
  rw [h3, g8, n8, g9, n9, g6, n6, e6]
  have td : ∀ z : Int, 0 ≤ z → z < 1000000000 → i32 (Int.tdiv z x27) ∧ Int.tdiv z x27 = z / x27 := fun z z0 z1 => by
    rw [Int.tdiv_eq_ediv_of_nonneg z0]
    have p1 := Int.ediv_le_self x27 z0
    have p2 : 0 ≤ z / x27 := Int.ediv_nonneg z0 (by omega)
    exact ⟨⟨by omega, by omega⟩, rfl⟩
  have i27 : i32 x27 := ⟨by omega, by omega⟩
  refine ⟨⟨by omega, by omega⟩, h1, fun u0 => ⟨h2, g0, k8, by omega, (h1 _ _).1, same, ?_⟩, fun u0 => ⟨fun u1 => ⟨h2, g0, k9, by omega, i27, by omega, (td _ (by omega) we2).1, same, ?_⟩, fun u1 => ⟨fun u2 => ⟨h2, g0, k6, by omega, i27, by omega, (td _ (by omega) (by omega)).1, same, ?_⟩, fun u2 => ⟨⟨by decide, by decide⟩, same, ?_⟩⟩⟩⟩
  · rw [if_pos u0]
    show _ = (((mI M26 (t + 62 + 8) (x + l3.toNat)).toNat : Nat) : Int)
    omega
  · rw [if_neg u0, if_pos u1, (td _ (by omega) we2).2, f3]
    all_goals rfl
  · rw [if_neg u0, if_neg u1, if_pos u2, (td ((mu : Nat) : Int) (by omega) (by omega)).2, f3]
    all_goals rfl
  · rw [if_neg u0, if_neg u1, if_neg u2]
theorem e_CA_variable {l1 l2 : Int} (i1 : i32 l1) (i2 : i32 l2) (h : CI c9 C n t Ps Pc M) (hx : XC c9.2 M t) (hl : (0 ≤ l1 ∧ l1 < mI M (t + 62) 0) ∧ (0 ≤ l2 ∧ l2 < mI M (mR M t 4) 3)) : Ci G y_CA_variable (d + 1) [vr t, vi l1, vi l2] M (fun r M' => i32 r ∧ cQ c9 C n t Ps Pc M M' ∧ r = vaA9 c9.2.2.2.2.2.2.2.1 l1 l2) := by
  have same := h.same
  obtain ⟨T, Kt, N, A, B, D, Cw, p, O, P, K, p', O', P', K', Ab, Be, Cm, U, Ag, Bg, Cg, cn, cc, bc, Ls, v, R, k, Z, j⟩ := id h
  have r4 := j.2.1.1.2.2.1
  have c0 := j.tg.2.2.2.cnt.1
  obtain ⟨l11, l12⟩ := hl
  rw [c0] at l11
  rw [r4] at l12
  have c6 := j.2.2.2.2.2.2 (by omega)
  obtain ⟨V, F, ns, sf, ef, L, cnt, hw⟩ := j.2.1.2.2.2.2.2.2.1 c6
  have i3 := (j.2.1.2.2.2.2.2.2.2.2 c6).1
  have e3 := hw.2.2.1
  have kp := hw.1.1
  rw [e3.1] at l12
  obtain ⟨h1, ⟨h2, h3⟩, h4, h5⟩ := j.tg
  have hc := h5.cnt
  obtain ⟨g0, ⟨g1, -⟩, ⟨k1, -⟩, ⟨n1, -⟩⟩ := id h4
  have sne : c9.2.2.2.2.2.2.2.1 ≠ [] := fun z => by
    have x3 := hx.2.2.1
    rw [z, c0] at x3
    have : ((cn : Nat) : Int) = ((0 : Nat) : Int) := x3
    omega
  obtain ⟨W, hW, hS, -⟩ := hx.2.2.2.2 sne
  have ln := hx.2.2.1
  rw [c0] at ln
  refine k_CA_variable h1 i1 i2 ?_
  rw [h3]
  refine ⟨h2, g0, (s_Ga_hasState i1 h1 g0 hc.1).mono (fun x M3 q => ?_)⟩
  obtain ⟨e, hb, hi⟩ := q
  subst e
  have x0 := hi.mpr l11
  rw [h3, r4, e3.1, g1, n1]
  refine ⟨m_b32 hb, h1, fun _ _ => ⟨h2, kp⟩, fun u => ?_, fun _ => ⟨h2, g0, k1, by omega, (h1 _ _).1, same, ?_⟩⟩
  · rcases u with u | u | u
    · exact absurd u x0
    · omega
    · omega
  · have hWV : W = V := by
      have : (W : Int) = mI M3 p 3 := hW.trans i3.symm
      rw [e3.1] at this
      omega
    unfold vaA9
    rw [← hS]
    unfold Sm9
    rw [rget, if_pos (by omega)]
    show _ = ((lsm M3 (t + 62) W l1.toNat)[l2.toNat]?).getD 0
    unfold lsm
    rw [rget, if_pos (by omega)]
    show _ = mI M3 (t + 62 + 1) (12 * l1.toNat + l2.toNat)
    rw [show (l1 * 12 + l2).toNat = 12 * l1.toNat + l2.toNat by omega]
end CAS
end
