section
/-! The class's Solver: small steps and growth keep it. -/
section NBY
variable {G : mG} {d s g a R R' cn cc bc i k k' n c un x y B : Nat} {M M0 M' M1 M2 M3 : mM} {L L' : List Nat} {W : Nat → Nat} {S : Nat → Prop}
theorem Oc.fi (h : Oc L M x) (f : FI S M M') : Oc L M' x := ⟨by rw [f.2.2.2.2.1]; exact h.1, h.2.1, fun a ha u => h.2.2 a ha (by rw [← f.2.2.1]; exact u)⟩
theorem FrL.fi (h : FrL L M x) (f : FI S M M') : FrL L M' x := by
  obtain ⟨⟨h1, h2, h3⟩, h4⟩ := h
  exact ⟨⟨by rw [f.1]; exact h1, by rw [f.2.2.1]; exact h2, by rw [f.2.2.2.2.1]; exact h3⟩, h4⟩
/-- tables and the mark of a table of fractions -/
def Sta (s a x : Nat) : Prop := x = a ∨ Stb s x
theorem Sva.sta (h : Sva L W s g a R k cn cc bc M) : ∀ x, Sta s a x → Oc L M x := fun x u => u.elim (fun u => by rw [u]; exact h.2.2.2.2.1.2.2.2.2.1.1) (h.2.2.1 x)
theorem Sva.gst (h : Sva L W s g a R k cn cc bc M) (hi : i ≤ 9) : ¬ Sta s a (g + i) := by
  have gs := h.1.2.1.1.2
  have ka := h.2.2.2.2.1.1
  intro u
  rcases u with u | u
  · have := h.1.2.2.1.kd hi
    by_cases e : i = 0
    · have g0 := h.1.2.2.1.1
      rw [e, Nat.add_zero] at u
      rw [u, ka] at g0
      omega
    · have g0 := h.1.2.2.1.2.2.1 i (by omega) hi
      rw [u, ka] at g0
      omega
  · unfold Stb at u
    omega
/-- ints of the Solver's own tables change -/
theorem Sva.fi (h : Sva L W s g a R k cn cc bc M) (f : FI (Sta s a) M M') (o : mOk M') : Sva L W s g a R k cn cc bc M' ∧ (∀ b, b ∈ L → nv M' b = nv M b) ∧ ∀ i, i < k → mI M' (mR M R i) = mI M (mR M R i) := by
  have gst : ∀ i, i ≤ 9 → ¬ Sta s a (g + i) := fun i hi => h.gst hi
  have sta := h.sta
  obtain ⟨hg, ⟨hF, hSK, hRs, hfw⟩, hSt, hgo, ⟨t1, t2, t3, t4, ⟨t5, t6⟩, t7⟩, hrow, hD⟩ := id h
  obtain ⟨xx, v⟩ := f.nx (T := Tat s) (r := False) (z := s + 1) o hF h.tat sta h.z9
  refine ⟨⟨hg.fi f o gst, ⟨xx.nf, xx.sk hF hSK, ?_, hfw.fi f⟩, fun x hx => (hSt x hx).fi f, fun i hi => (hgo i hi).fi f, ⟨by rw [f.1]; exact t1, by rw [f.2.2.1]; exact t2, by rw [f.1]; exact t3, by rw [f.2.1]; exact t4, ⟨t5.fi f, t6.fi f⟩, fun i hi => by rw [f.2.2.1]; exact (t7 i hi).fi f⟩, fun i hi => by rw [f.2.2.1]; exact hrow i hi, fun i j hi hj ij => by rw [f.2.2.1]; exact hD i j hi hj ij⟩, v, fun i hi => ?_⟩
  · obtain ⟨r1, r2, r3, r4⟩ := hRs
    exact ⟨r1.fi f, fun i hi => (r2 i hi).fi f, fun i hi => by rw [f.2.2.1]; exact r3 i hi, r4⟩
  · refine f.2.2.2.2.2.2 _ (fun u => ?_)
    have k11 := (t7 i hi).1.1
    have hb := hrow i hi
    rcases u with u | u
    · rw [u, t1] at k11; omega
    · unfold Stb at u; omega
/-- the table grows -/
theorem Sva.gw (h : Sva L W s g a R k cn cc bc M) (hg : Gw L W a M L' M') (hT : Te L' W (s + 1) g a R' k' M') (hrow : ∀ i, i < k' → s + 134 < mR M' R' i) : Sva L' W s g a R' k' cn cc bc M' ∧ (∀ x, Stb s x → mI M' x = mI M x) ∧ ∀ i, i ≤ 9 → mI M' (g + i) = mI M (g + i) := by
  obtain ⟨⟨o, ⟨s0, sr, sk, sn⟩, hG, ⟨g3, n3⟩, hGT⟩, ⟨hF, hSK, hRs, hfw⟩, hSt, hgo, ⟨t1, -⟩, -, -⟩ := id h
  have gg := hg
  obtain ⟨o', ⟨-, hF'⟩, l1, l2, f, na, ka⟩ := hg
  obtain ⟨-, ⟨hG', hgo'⟩, hRT, -, hD'⟩ := id hT
  have gi := (gg.gk ⟨hG, hgo⟩).2
  have ns : ∀ x, mK M x ≠ 13 → x ≠ a := fun x hx e => hx (by rw [e]; exact ka)
  obtain ⟨k1, k2, k3, k4, k5, k6, k7, k8, k9⟩ := id sk
  have os : ∀ x, Stb s x → mK M' x = mK M x ∧ mN M' x = mN M x ∧ (x ≠ a → mR M' x = mR M x) ∧ mI M' x = mI M x := fun x hx => by
    obtain ⟨a1, a2, a3, a4, a5⟩ := f.2 x (hSt x hx).1
    exact ⟨a1, a2, a4, a5 (fun u => u)⟩
  have e0 := os s (Or.inl rfl)
  have e29 := os (s + 29) (Or.inr (Or.inl rfl))
  have e30 := os (s + 30) (Or.inr (Or.inr (Or.inl rfl)))
  have e122 := os (s + 122) (Or.inr (Or.inr (Or.inr (Or.inl rfl))))
  have e123 := os (s + 123) (Or.inr (Or.inr (Or.inr (Or.inr (Or.inl rfl)))))
  have e124 := os (s + 124) (Or.inr (Or.inr (Or.inr (Or.inr (Or.inr (Or.inl rfl))))))
  have e125 := os (s + 125) (Or.inr (Or.inr (Or.inr (Or.inr (Or.inr (Or.inr (Or.inl rfl)))))))
  have e126 := os (s + 126) (Or.inr (Or.inr (Or.inr (Or.inr (Or.inr (Or.inr (Or.inr (Or.inl rfl))))))))
  have e128 := os (s + 128) (Or.inr (Or.inr (Or.inr (Or.inr (Or.inr (Or.inr (Or.inr (Or.inr (Or.inl rfl)))))))))
  have e129 := os (s + 129) (Or.inr (Or.inr (Or.inr (Or.inr (Or.inr (Or.inr (Or.inr (Or.inr (Or.inr rfl)))))))))
  have sa : s ≠ a := ns s (by rw [s0.1]; decide)
  have ga : g ≠ a := ns g (by rw [hG.1]; decide)
  have g0z := (hgo 0 (by decide)).1
  rw [Nat.add_zero] at g0z
  have gR : mR M' g = mR M g := (f.2 g g0z).2.2.2.1 ga
  have n3' : mN M' (g + 3) = mN M (g + 3) := (f.2 _ (hgo 3 (by decide)).1).2.1
  refine ⟨⟨⟨o', ⟨⟨by rw [e0.1]; exact s0.1, s0.2⟩, by rw [e0.2.2.1 sa]; exact sr, by rw [e29.1, e30.1, e122.1, e123.1, e124.1, e125.1, e126.1, e128.1, e129.1]; exact sk, by rw [e29.2.1, e30.2.1, e122.2.1, e123.2.1, e124.2.1, e125.2.1, e126.2.1, e128.2.1, e129.2.1]; exact sn⟩, hG', ⟨by rw [gR]; exact g3, by rw [n3']; exact n3⟩, hGT.same gi⟩, ⟨hF', gg.sk hSK, ?_, (gg.frl hfw).1⟩, fun x hx => gg.oc (hSt x hx), hgo', hRT, hrow, hD'⟩, fun x hx => (os x hx).2.2.2, gi⟩
  obtain ⟨⟨c0, c1, c2, c3⟩, c4, c5, c6⟩ := hRs
  have oe : ∀ i, i ≤ 6 → mK M' (s + 31 + i) = mK M (s + 31 + i) ∧ mN M' (s + 31 + i) = mN M (s + 31 + i) ∧ (s + 31 + i ≠ a → mR M' (s + 31 + i) = mR M (s + 31 + i)) := fun i hi => by
    obtain ⟨a1, a2, a3, a4, a5⟩ := f.2 _ (c4 i hi).1
    exact ⟨a1, a2, a4⟩
  have r0 := oe 0 (by decide)
  rw [Nat.add_zero] at r0
  exact ⟨⟨by rw [r0.1]; exact c0, by rw [r0.2.2 (ns _ (by rw [c0]; decide))]; exact c1, by rw [(oe 1 (by decide)).1, (oe 2 (by decide)).1, (oe 3 (by decide)).1, (oe 4 (by decide)).1, (oe 5 (by decide)).1, (oe 6 (by decide)).1]; exact c2, by rw [(oe 1 (by decide)).2.1, (oe 2 (by decide)).2.1, (oe 3 (by decide)).2.1, (oe 4 (by decide)).2.1, (oe 5 (by decide)).2.1, (oe 6 (by decide)).2.1]; exact c3⟩, fun i hi => gg.oc (c4 i hi), fun i hi => by rw [(oe 2 (by decide)).2.2 (ns _ (by rw [c2.2.1]; decide))]; exact ⟨(c5 i hi).1, l1 _ (c5 i hi).2⟩, l1 _ c6⟩
end NBY
end
section
/-! The class's Solver: commands that are not chosen, mixed. -/
section NBYA
variable {G : mG} {d s g a R cn cc bc i k n c un x y B O j : Nat} {M M0 M' M1 M2 M3 : mM} {L L' : List Nat} {W : Nat → Nat} {S S' T C : Nat → Prop} {r : Prop}
/-- ints of cells of S change, and the Solver's own long -/
def Fxo (S : Nat → Prop) (s : Nat) (M M' : mM) : Prop := mK M' = mK M ∧ mN M' = mN M ∧ mR M' = mR M ∧ (∀ x, x ≠ s → mL M' x = mL M x) ∧ mZ M' = mZ M ∧ mS M' = mS M ∧ ∀ x, ¬ S x → mI M' x = mI M x
theorem Fxo.refl : Fxo S s M M := ⟨rfl, rfl, rfl, fun _ _ => rfl, rfl, rfl, fun _ _ => rfl⟩
theorem Fxo.trans (h : Fxo S s M M1) (q : Fxo S s M1 M2) : Fxo S s M M2 := ⟨q.1.trans h.1, q.2.1.trans h.2.1, q.2.2.1.trans h.2.2.1, fun x hx => (q.2.2.2.1 x hx).trans (h.2.2.2.1 x hx), q.2.2.2.2.1.trans h.2.2.2.2.1, q.2.2.2.2.2.1.trans h.2.2.2.2.2.1, fun x hx => (q.2.2.2.2.2.2 x hx).trans (h.2.2.2.2.2.2 x hx)⟩
theorem Fxo.mono (h : Fxo S s M M1) (hs : ∀ x, S x → S' x) : Fxo S' s M M1 := ⟨h.1, h.2.1, h.2.2.1, h.2.2.2.1, h.2.2.2.2.1, h.2.2.2.2.2.1, fun x hx => h.2.2.2.2.2.2 x (fun u => hx (hs x u))⟩
theorem FI.fo (f : FI S M M1) : Fxo S s M M1 := ⟨f.1, f.2.1, f.2.2.1, fun x _ => by rw [f.2.2.2.1], f.2.2.2.2.1, f.2.2.2.2.2.1, f.2.2.2.2.2.2⟩
theorem Fxo.ul {v : Int} (e : M1 = mUL M s j v) : Fxo S s M M1 := by
  subst e
  refine ⟨rfl, rfl, rfl, fun x hx => ?_, rfl, rfl, fun _ _ => rfl⟩
  funext k
  rw [mL_UL, if_neg (fun u => hx u.1)]
/-- the same memory with the old longs -/
def noG (M M' : mM) : mM := (mK M', mN M', mI M', mL M, mR M', mZ M', mS M')
theorem Fxo.fi (f : Fxo S s M M') : FI S M (noG M M') := ⟨f.1, f.2.1, f.2.2.1, rfl, f.2.2.2.2.1, f.2.2.2.2.2.1, f.2.2.2.2.2.2⟩
theorem noG_ok (o : mOk M) (o' : mOk M') : mOk (noG M M') := fun b k => ⟨(o' b k).1, (o b k).2⟩
/-- as numbers' steps -/
theorem Fxo.nx (f : Fxo C s M M') (o : mOk M) (o' : mOk M') (hF : NF L W M) (hT : ∀ t, T t → t ∈ L) (hC : ∀ x, C x → Oc L M x) (hz : s + 1 < mZ M ∧ mK M (s + 1) = 9) : NX L W T C r (s + 1) M M' ∧ ∀ a, a ∈ L → nv M' a = nv M a := by
  obtain ⟨⟨⟨-, q1⟩, q2, q3, q4, q5⟩, v⟩ := f.fi.nx (T := T) (r := r) (noG_ok o o') hF hT hC hz
  refine ⟨⟨⟨o', q1⟩, q2, ⟨q3.1, fun x hx => ?_⟩, q4, q5⟩, v⟩
  obtain ⟨a1, a2, -, a4, a5⟩ := q3.2 x hx
  exact ⟨a1, a2, fun u => f.2.2.2.1 x (fun e => u (Or.inr (by omega))), a4, a5⟩
/-- an unsigned shift by 33 -/
theorem ush33 {x : Int} : 0 ≤ ushrL x 33 := by
  unfold ushrL
  have e : ((Int32.ofInt 33).toInt64.toUInt64 &&& Int64.toUInt64 63) = (33 : UInt64) := by decide +kernel
  rw [e]
  generalize (Int64.ofInt x).toUInt64 = w
  have h1 : (w >>> 33).toNat < 2 ^ 31 := by
    rw [UInt64.toNat_shiftRight]
    have h2 : w.toNat < 2 ^ 64 := w.toNat_lt
    have e3 : (33 : UInt64).toNat % 64 = 33 := by decide
    rw [e3, Nat.shiftRight_eq_div_pow]
    exact Nat.div_lt_of_lt_mul (by omega)
  have h4 : (w >>> 33).toInt64.toInt = ((w >>> 33).toNat : Int) := by
    show (w >>> 33).toInt64.toBitVec.toInt = _
    have e5 : (w >>> 33).toInt64.toBitVec = (w >>> 33).toBitVec := rfl
    rw [e5, BitVec.toInt_eq_toNat_of_lt]
    · rfl
    · show 2 * (w >>> 33).toNat < 2 ^ 64
      omega
  rw [h4]
  omega
/-- the commands that are not chosen are mixed: nothing but their places and the draw changes -/
def mxQ (s O n : Nat) (M M' : mM) : Prop := mOk M' ∧ Fxo (fun x => x = O) s M M' ∧ ∀ P : Int → Prop, (∀ j, j < n → P (mI M O j)) → ∀ j, j < n → P (mI M' O j)
theorem s_So_mix {l1 l2 : Nat} (o : mOk M) (hs : mK M s = 8) (hr : mR M s 11 = O) (hK : mK M O = 30) (hn : mN M O = 2400) (h2 : l2 ≤ n) (hn2 : n ≤ 2400) (h1 : l1 ≤ 2400) : Cv G y_So_mix d [vr s, vi l1, vi l2] M (mxQ s O n M) := by
  refine k_So_mix o ⟨by omega, by omega⟩ ⟨by omega, by omega⟩ ?_
  suffices H : ∀ (t : Nat) (l3 : Int) (M1 : mM), l3 ≤ l1 + t → l3 < n → -1 ≤ l3 → mxQ s O n M M1 → h_So_mix_4 G d s l1 l3 M1 (mxQ s O n M) from H 2400 ((l2 : Int) - 1) M (by omega) (by omega) (by omega) ⟨o, Fxo.refl, fun _ u => u⟩
  intro t
  induction t with
  | zero =>
    intro l3 M1 a1 a2 a3 hI
    exact k_So_mix_4 hI.1 ⟨by omega, by omega⟩ ⟨by omega, by omega⟩ ⟨fun _ => hI, fun u => absurd (by omega) u⟩
  | succ t ih =>
    intro l3 M1 a1 a2 a3 hI
    refine k_So_mix_4 hI.1 ⟨by omega, by omega⟩ ⟨by omega, by omega⟩ ⟨fun _ => hI, fun u => ?_⟩
    obtain ⟨o1, f1, p1⟩ := hI
    have s1 : mK M1 s = 8 := by rw [f1.1]; exact hs
    refine ⟨s1, fun M4 e4 => ?_⟩
    have f4 : Fxo (fun x => x = O) s M1 M4 := Fxo.ul e4
    have o4 : mOk M4 := by rw [e4]; exact mOk_UL o1 i64_w64
    have i4 : mI M4 = mI M1 := by rw [e4]; rfl
    have hlt := ush33 (x := mL M4 s 14)
    obtain ⟨q, eq⟩ : ∃ q : Nat, ((q : Nat) : Int) = Int.tmod (ushrL (mL M4 s 14) 33) ((l3 - l1) + 1) ∧ (q : Int) < (l3 - l1) + 1 := by
      have b1 := Int.tmod_nonneg ((l3 - l1) + 1) hlt
      have b2 := Int.tmod_lt_of_pos (ushrL (mL M4 s 14) 33) (show 0 < (l3 - l1) + 1 by omega)
      exact ⟨(Int.tmod (ushrL (mL M4 s 14) 33) ((l3 - l1) + 1)).toNat, by omega, by omega⟩
    rw [← eq.1, f4.2.2.1, f1.2.2.1, hr, f4.1, f1.1, f4.2.1, f1.2.1, hn, i4]
    obtain ⟨m, em⟩ : ∃ m : Nat, l3 = ((m : Nat) : Int) := ⟨l3.toNat, by omega⟩
    subst em
    have eq2 := eq.2
    clear eq hlt
    have e5 : Int.toNat (((l1 : Nat) : Int) + ((q : Nat) : Int)) = l1 + q := by omega
    rw [e5, Int.toNat_natCast]
    refine ⟨⟨by omega, by omega⟩, by omega, hK, ⟨by omega, by omega⟩, ⟨by omega, by omega⟩, ⟨by omega, by omega⟩, fun M12 e12 => ?_⟩
    have f12 : FI (fun x => x = O) M4 M12 := by rw [e12]; exact FI.ui rfl
    have o12 : mOk M12 := by rw [e12]; exact mOk_UI o4 (o1 O (l1 + q)).1
    rw [f12.1, f12.2.1, f12.2.2.1, f4.2.2.1, f1.2.2.1, hr, f4.1, f1.1, f4.2.1, f1.2.1, hn]
    refine ⟨hK, ⟨by omega, by omega⟩, fun M16 e16 => ?_⟩
    have f16 : FI (fun x => x = O) M12 M16 := by rw [e16]; exact FI.ui rfl
    have o16 : mOk M16 := by rw [e16]; exact mOk_UI o12 (o1 O m).1
    rw [show ((m : Nat) : Int) + (-1) = ((m : Nat) : Int) - 1 by omega]
    refine ih _ M16 (by omega) (by omega) (by omega) ⟨o16, f1.trans (f4.trans ((f12.trans f16).fo)), fun P hP j hj => ?_⟩
    have p2 := p1 P hP
    rw [mI_ui O j e16, mI_ui O j e12, i4]
    split
    · exact p2 m (by omega)
    · split
      · exact p2 (l1 + q) (by omega)
      · exact p2 j hj
end NBYA
end
section
/-! The class's Solver: cells that stay the same; the place of the list of other commands. -/
section NBYB
variable {G : mG} {d t g s b e f i j a n cn cc bc z w x Y Cy R k O : Nat} {M M0 M' M1 : mM} {L L' : List Nat} {W : Nat → Nat} {T C S Z : Nat → Prop} {r : Prop}
/-- a cell is the same (but for longs) -/
def Sm (M M' : mM) (x : Nat) : Prop := mK M' x = mK M x ∧ mN M' x = mN M x ∧ mR M' x = mR M x ∧ mI M' x = mI M x
theorem Nt.sm (h : Nt M a Y Cy n) (ha : Sm M M' a) (hY : Sm M M' Y) (hz : mZ M ≤ mZ M') : Nt M' a Y Cy n := by
  obtain ⟨⟨l0, p0, kX, nX, e, ne, y1, y2⟩, g1, g2, g3, g4⟩ := h
  exact ⟨⟨by rw [ha.1]; exact l0, by rw [ha.2.2.1]; exact p0, by rw [hY.1]; exact kX, by rw [hY.2.1]; exact nX, e, ne, by omega, by omega⟩, by rw [ha.2.2.2]; exact g1, g2, fun j hj => by rw [hY.2.2.2]; exact g3 j hj, by rw [hY.2.2.2]; exact g4⟩
theorem NF.sm (h : NF L W M) (hs : ∀ a, a ∈ L → Sm M M' a ∧ Sm M M' (mR M a 0)) (hz : mZ M ≤ mZ M') : NF L W M' ∧ ∀ a, a ∈ L → nv M' a = nv M a ∧ cp M' a = cp M a ∧ mR M' a = mR M a := by
  have cc : ∀ a, a ∈ L → cp M' a = cp M a := fun a ha => by
    unfold cp
    rw [(hs a ha).1.2.2.1, (hs a ha).2.2.1]
  have nt' : ∀ a, a ∈ L → Nt M' a (mR M a 0) (cp M a) (sz M a) := fun a ha => (h.nt ha).sm (hs a ha).1 (hs a ha).2 hz
  refine ⟨⟨h.1, fun a ha => ⟨(nt' a ha).nn, by rw [cc a ha]; exact (h.2.1 a ha).2.1, (h.2.1 a ha).2.2⟩, fun a b ha hb u => h.2.2 a b ha hb (by rw [← (hs a ha).1.2.2.1, ← (hs b hb).1.2.2.1]; exact u)⟩, fun a ha => ⟨?_, cc a ha, (hs a ha).1.2.2.1⟩⟩
  rw [(nt' a ha).nv, (h.nt ha).nv, (hs a ha).2.2.2.2]
theorem Oc.sm (h : Oc L M x) (hr : ∀ a, a ∈ L → mR M' a = mR M a) (hz : mZ M ≤ mZ M') : Oc L M' x := ⟨Nat.lt_of_lt_of_le h.1 hz, h.2.1, fun a ha u => h.2.2 a ha (by rw [← hr a ha]; exact u)⟩
theorem FrP.sm (h : FrP M f) (hs : Sm M M' f) (hz : mZ M ≤ mZ M') : FrP M' f := ⟨by rw [hs.1]; exact h.1, by rw [hs.2.2.1]; exact h.2.1, Nat.lt_of_lt_of_le h.2.2 hz⟩
theorem FrL.sm (h : FrL L M f) (hs : Sm M M' f) (hz : mZ M ≤ mZ M') : FrL L M' f := ⟨h.1.sm hs hz, h.2⟩
theorem SK.sm (h : SK L M z) (h0 : Sm M M' z) (h13 : Sm M M' (z + 13)) (h18 : Sm M M' (z + 18)) (h23 : Sm M M' (z + 23)) (hz : mZ M ≤ mZ M') : SK L M' z := by
  obtain ⟨⟨k1, k2⟩, k3, k4, ⟨k5, k6, k7⟩, ⟨k8, k9⟩, k10, k11⟩ := h
  exact ⟨⟨by rw [h0.1]; exact k1, by omega⟩, by rw [h0.2.2.1]; exact k3, by rw [h0.2.2.1]; exact k4, ⟨by rw [h13.1]; exact k5, by rw [h13.2.1]; exact k6, by omega⟩, ⟨k8.sm h18 hz, k9.sm h23 hz⟩, k10, k11⟩
theorem RsK.sm (h : RsK L M e) (hs : ∀ i, i ≤ 6 → Sm M M' (e + i)) (hr : ∀ a, a ∈ L → mR M' a = mR M a) (hz : mZ M ≤ mZ M') : RsK L M' e := by
  obtain ⟨⟨c0, c1, c2, c3⟩, c4, c5, c6⟩ := h
  have s0 := hs 0 (by decide)
  rw [Nat.add_zero] at s0
  have s1 := hs 1 (by decide)
  have s2 := hs 2 (by decide)
  have s3 := hs 3 (by decide)
  have s4 := hs 4 (by decide)
  have s5 := hs 5 (by decide)
  have s6 := hs 6 (by decide)
  refine ⟨⟨by rw [s0.1]; exact c0, by rw [s0.2.2.1]; exact c1, by rw [s1.1, s2.1, s3.1, s4.1, s5.1, s6.1]; exact c2, by rw [s1.2.1, s2.2.1, s3.2.1, s4.2.1, s5.2.1, s6.2.1]; exact c3⟩, fun i hi => (c4 i hi).sm hr hz, fun i hi => by rw [s2.2.2.1]; exact c5 i hi, c6⟩
theorem st126 : Stb s (s + 126) := Or.inr (Or.inr (Or.inr (Or.inr (Or.inr (Or.inr (Or.inr (Or.inl rfl)))))))
theorem st124 : Stb s (s + 124) := Or.inr (Or.inr (Or.inr (Or.inr (Or.inr (Or.inl rfl)))))
theorem st30 : Stb s (s + 30) := Or.inr (Or.inr (Or.inl rfl))
/-- where the list of the other commands lies, and its length -/
def Ot (L : List Nat) (M : mM) (s O n : Nat) : Prop := (mR M s 11 = O ∧ mK M O = 30 ∧ mN M O = n) ∧ Oc L M O ∧ ((O = s + 127 ∧ n = 0) ∨ (s + 134 < O ∧ n = 2400))
theorem Ot.ne (h : Ot L M s O n) : O ≠ s + 1 ∧ O ≠ s := by
  have := h.2.2
  constructor <;> omega
theorem Ot.nx (h : Ot L M s O n) (q : NX L W T C r (s + 1) M M') (hF : NF L W M) (hs : Oc L M s) : Ot L M' s O n := by
  obtain ⟨n1, n2⟩ := h.ne
  obtain ⟨⟨h1, h2, h3⟩, h4, h5⟩ := h
  obtain ⟨a1, a2, -⟩ := q.oth h4 n1
  obtain ⟨-, -, b3, -⟩ := q.oth hs (by omega)
  exact ⟨⟨by rw [b3]; exact h1, by rw [a1]; exact h2, by rw [a2]; exact h3⟩, q.oc hF h4, h5⟩
theorem Ot.fi (h : Ot L M s O n) (f : FI S M M') : Ot L M' s O n := ⟨⟨by rw [f.2.2.1]; exact h.1.1, by rw [f.1]; exact h.1.2.1, by rw [f.2.1]; exact h.1.2.2⟩, h.2.1.fi f, h.2.2⟩
theorem Ot.gw (h : Ot L M s O n) (q : Gw L W a M L' M') (sa : s ≠ a) (hs : s < mZ M) : Ot L' M' s O n := by
  obtain ⟨⟨h1, h2, h3⟩, h4, h5⟩ := h
  have f := q.2.2.2.2.1
  have fs := f.2 s hs
  have fo := f.2 O h4.1
  exact ⟨⟨by rw [fs.2.2.2.1 sa]; exact h1, by rw [fo.1]; exact h2, by rw [fo.2.1]; exact h3⟩, q.oc h4, h5⟩
/-- a new list for the other commands -/
def Gro (s : Nat) (M M' : mM) : Prop := M' = mUR (mNew M 30 2400 2400) s 11 (mZ M)
theorem Gro.sm (h : Gro s M M') (hx : x < mZ M) (hs : x ≠ s) : Sm M M' x := by
  unfold Gro at h
  subst h
  have nz : ¬ x = mZ M := by omega
  refine ⟨if_neg nz, if_neg nz, ?_, ?_⟩
  · funext j
    show (if x = s ∧ j = 11 then mZ M else (if x = mZ M then 0 else mR M x j)) = mR M x j
    rw [if_neg (fun u => hs u.1), if_neg nz]
  · funext j
    show (if x = mZ M then 0 else mI M x j) = mI M x j
    exact if_neg nz
theorem Gro.own (h : Gro s M M') (hs : s < mZ M) : mK M' s = mK M s ∧ mN M' s = mN M s ∧ mI M' s = mI M s ∧ mR M' s 11 = mZ M ∧ ∀ j, j ≠ 11 → mR M' s j = mR M s j := by
  unfold Gro at h
  subst h
  have nz : ¬ s = mZ M := by omega
  refine ⟨if_neg nz, if_neg nz, ?_, if_pos ⟨rfl, rfl⟩, fun j hj => ?_⟩
  · funext j
    show (if s = mZ M then 0 else mI M s j) = mI M s j
    exact if_neg nz
  · show (if s = s ∧ j = 11 then mZ M else (if s = mZ M then 0 else mR M s j)) = mR M s j
    rw [if_neg (fun u => hj u.2), if_neg nz]
theorem Gro.lng (h : Gro s M M') (hx : x < mZ M) : mL M' x = mL M x := by
  unfold Gro at h
  subst h
  funext j
  show (if x = mZ M then 0 else mL M x j) = mL M x j
  exact if_neg (by omega)
theorem Gro.new (h : Gro s M M') : mK M' (mZ M) = 30 ∧ mN M' (mZ M) = 2400 ∧ mZ M' = mZ M + 1 ∧ mS M' = mS M + 2400 ∧ (mOk M → mOk M') := by
  unfold Gro at h
  subst h
  exact ⟨if_pos rfl, if_pos rfl, rfl, rfl, fun o => mOk_UR (mOk_New o)⟩
/-- the Solver with a new list -/
theorem Sva.gro (h : Sva L W s g a R k cn cc bc M) (hz : s + 134 < mZ M) (q : Gro s M M') : Sva L W s g a R k cn cc bc M' ∧ Ot L M' s (mZ M) 2400 ∧ (∀ b, b ∈ L → nv M' b = nv M b ∧ cp M' b = cp M b ∧ mR M' b = mR M b) ∧ (∀ x, x < mZ M → mI M' x = mI M x) ∧ mR M' R = mR M R := by
  obtain ⟨⟨o, ⟨s0, sr, sk, sn⟩, hG, ⟨g3, n3⟩, hT⟩, ⟨hF, hSK, hRs, hfw⟩, hSt, hgo, ⟨t1, t2, t3, t4, ⟨t5, t6⟩, t7⟩, hrow, hD⟩ := id h
  have zs := hSt s (Or.inl rfl)
  obtain ⟨w1, w2, w3, w4, w5⟩ := q.own zs.1
  obtain ⟨z1, z2, z3, z4, z5⟩ := q.new
  have hzz : mZ M ≤ mZ M' := by omega
  have hI : ∀ x, x < mZ M → mI M' x = mI M x := fun x hx => by
    by_cases c : x = s
    · rw [c]; exact w3
    · exact (q.sm hx c).2.2.2
  have st : ∀ x, Stb s x → x ≠ s → Sm M M' x := fun x hx nx => q.sm (hSt x hx).1 nx
  have e29 := st (s + 29) (Or.inr (Or.inl rfl)) (by omega)
  have e30 := st (s + 30) (Or.inr (Or.inr (Or.inl rfl))) (by omega)
  have e122 := st (s + 122) (Or.inr (Or.inr (Or.inr (Or.inl rfl)))) (by omega)
  have e123 := st (s + 123) (Or.inr (Or.inr (Or.inr (Or.inr (Or.inl rfl))))) (by omega)
  have e124 := st (s + 124) (Or.inr (Or.inr (Or.inr (Or.inr (Or.inr (Or.inl rfl)))))) (by omega)
  have e125 := st (s + 125) (Or.inr (Or.inr (Or.inr (Or.inr (Or.inr (Or.inr (Or.inl rfl))))))) (by omega)
  have e126 := st (s + 126) (Or.inr (Or.inr (Or.inr (Or.inr (Or.inr (Or.inr (Or.inr (Or.inl rfl)))))))) (by omega)
  have e128 := st (s + 128) (Or.inr (Or.inr (Or.inr (Or.inr (Or.inr (Or.inr (Or.inr (Or.inr (Or.inl rfl))))))))) (by omega)
  have e129 := st (s + 129) (Or.inr (Or.inr (Or.inr (Or.inr (Or.inr (Or.inr (Or.inr (Or.inr (Or.inr rfl))))))))) (by omega)
  have gs := s0.2
  have og : ∀ i, i ≤ 9 → Sm M M' (g + i) := fun i hi => q.sm (hgo i hi).1 (by omega)
  have g0 := og 0 (by decide)
  rw [Nat.add_zero] at g0
  have ls : ∀ b, b ∈ L → Sm M M' b ∧ Sm M M' (mR M b 0) := fun b hb => ⟨q.sm (hF.lt hb).1 (fun u => zs.2.1 (by rw [← u]; exact hb)), q.sm (hF.lt hb).2 (zs.2.2 b hb)⟩
  obtain ⟨F', nvs⟩ := hF.sm ls hzz
  have hr : ∀ b, b ∈ L → mR M' b = mR M b := fun b hb => (nvs b hb).2.2
  have na : a ≠ s := fun u => by rw [u, s0.1] at t1; exact absurd t1 (by decide)
  have nR : R ≠ s := fun u => by rw [u, s0.1] at t3; exact absurd t3 (by decide)
  have sa := q.sm t5.1 na
  have sR := q.sm t6.1 nR
  have rw7 : ∀ i, i < k → Sm M M' (mR M R i) := fun i hi => q.sm (t7 i hi).1.2.2 (by have := hrow i hi; omega)
  have kz := hSK.1.2
  have k13 := hSK.2.2.2.1.2.2
  have k18 := hSK.2.2.2.2.1.1.2.2
  have k23 := hSK.2.2.2.2.1.2.2.2
  refine ⟨⟨⟨z5 o, ⟨⟨by rw [w1]; exact s0.1, s0.2⟩, by rw [w5 0 (by decide), w5 1 (by decide), w5 2 (by decide), w5 3 (by decide), w5 4 (by decide), w5 5 (by decide), w5 6 (by decide), w5 7 (by decide), w5 8 (by decide), w5 9 (by decide), w5 15 (by decide), w5 16 (by decide), w5 17 (by decide)]; exact sr, by rw [e29.1, e30.1, e122.1, e123.1, e124.1, e125.1, e126.1, e128.1, e129.1]; exact sk, by rw [e29.2.1, e30.2.1, e122.2.1, e123.2.1, e124.2.1, e125.2.1, e126.2.1, e128.2.1, e129.2.1]; exact sn⟩, ⟨by rw [g0.1]; exact hG.1, by rw [g0.2.2.1]; exact hG.2.1, fun i hi hi' => by rw [(og i hi').1]; exact hG.2.2.1 i hi hi', by rw [(og 2 (by decide)).2.1, (og 4 (by decide)).2.1, (og 6 (by decide)).2.1, (og 7 (by decide)).2.1, (og 8 (by decide)).2.1, (og 9 (by decide)).2.1]; exact hG.2.2.2⟩, ⟨by rw [g0.2.2.1]; exact g3, by rw [(og 3 (by decide)).2.1]; exact n3⟩, hT.same (fun i hi => (og i hi).2.2.2)⟩, ⟨F', hSK.sm (q.sm kz (by omega)) (q.sm k13 (by omega)) (q.sm k18 (by omega)) (q.sm k23 (by omega)) hzz, hRs.sm (fun i hi => q.sm (hRs.2.1 i hi).1 (by omega)) hr hzz, hfw.sm (q.sm hfw.1.2.2 (by omega)) hzz⟩, fun x hx => (hSt x hx).sm hr hzz, fun i hi => (hgo i hi).sm hr hzz, ⟨by rw [sa.1]; exact t1, by rw [sa.2.2.1]; exact t2, by rw [sR.1]; exact t3, by rw [sR.2.1]; exact t4, ⟨t5.sm hr hzz, t6.sm hr hzz⟩, fun i hi => by rw [sR.2.2.1]; exact (t7 i hi).sm (rw7 i hi) hzz⟩, fun i hi => by rw [sR.2.2.1]; exact hrow i hi, fun i j hi hj ij => by rw [sR.2.2.1]; exact hD i j hi hj ij⟩, ⟨⟨w4, z1, z2⟩, ⟨by omega, fun u => by have := (hF.lt u).1; omega, fun b hb u => ?_⟩, Or.inr ⟨hz, rfl⟩⟩, nvs, hI, sR.2.2.1⟩
  rw [hr b hb] at u
  have := (hF.lt hb).2
  omega
end NBYB
end
section
/-! The class's Solver: one better command. -/
section NBYC
variable {G : mG} {d s g a R cn cc bc i k n c un x y B O oc mo : Nat} {M M0 M' M1 M2 M3 : mM} {L : List Nat} {W : Nat → Nat} {v : Int}
/-- a command that is left for an unknown state, as it stands in the list -/
def ot1 (M : mM) (s un : Nat) (v : Int) : Prop := ∃ c i k lo hi : Nat, v = ((c * 40 + i : Nat) : Int) ∧ i < un ∧ mI M (s + 125) i = ((k : Nat) : Int) ∧ mI M (s + 122) k = ((lo : Nat) : Int) ∧ mI M (s + 123) k = ((hi : Nat) : Int) ∧ lo ≤ c ∧ c < hi
theorem ot1.cg (h : ot1 M s un v) (e2 : mI M' (s + 122) = mI M (s + 122)) (e3 : mI M' (s + 123) = mI M (s + 123)) (e5 : mI M' (s + 125) = mI M (s + 125)) : ot1 M' s un v := by
  unfold ot1 at h ⊢
  rw [e2, e3, e5]
  exact h
/-- the list of the other commands: oc of them, min's mo in front -/
def Oth (M : mM) (s un O oc mo : Nat) : Prop := (mR M s 11 = O ∧ mK M O = 30 ∧ mN M O = 2400) ∧ (mI M s 12 = ((oc : Nat) : Int) ∧ mI M s 13 = ((mo : Nat) : Int) ∧ mo ≤ oc ∧ oc ≤ 2400) ∧ ∀ j, j < oc → ot1 M s un (mI M O j)
theorem td40 {c i : Nat} (h : i < 40) : Int.tdiv (((c * 40 + i : Nat)) : Int) 40 = ((c : Nat) : Int) ∧ Int.tmod (((c * 40 + i : Nat)) : Int) 40 = ((i : Nat) : Int) := by
  rw [Int.tdiv_eq_ediv_of_nonneg (by omega), Int.tmod_eq_emod_of_nonneg (by omega)]
  constructor <;> omega
theorem unk_cg (h : Unk M s cn un) (e0 : mI M' s 10 = mI M s 10) (e2 : mI M' (s + 122) = mI M (s + 122)) (e3 : mI M' (s + 123) = mI M (s + 123)) (e4 : mI M' (s + 124) = mI M (s + 124)) (e5 : mI M' (s + 125) = mI M (s + 125)) (e6 : mI M' (s + 126) = mI M (s + 126)) : Unk M' s cn un := by
  unfold Unk Slo at h ⊢
  rw [e0, e2, e3, e4, e5, e6]
  exact h
/-- numbers' steps leave the list alone -/
theorem at_oth (h0 : Sva L W s g a R k cn cc bc M0) (hI : atI L W s g a R k cn cc bc M0 M) (oO : Oc L M0 O) (hO : s + 134 < O) (h : Oth M0 s un O oc mo) : Oth M s un O oc mo := by
  obtain ⟨hN, -, -, st, -, -⟩ := hI
  obtain ⟨a1, a2, -, a4⟩ := hN.oth oO (by omega)
  obtain ⟨-, -, b3, -⟩ := hN.oth (h0.2.2.1 s (Or.inl rfl)) (by omega)
  have eO := a4 (fun u => by unfold Cat at u; omega)
  obtain ⟨⟨h1, h2, h3⟩, ⟨h4, h5, h6⟩, h7⟩ := h
  have e0 := st s (Or.inl rfl) (by omega)
  refine ⟨⟨by rw [b3]; exact h1, by rw [a1]; exact h2, by rw [a2]; exact h3⟩, ⟨by rw [e0]; exact h4, by rw [e0]; exact h5, h6⟩, fun j hj => ?_⟩
  rw [eO]
  exact (h7 j hj).cg (st (s + 122) st122.1 (by omega)) (st (s + 123) st122.2.1 (by omega)) (st (s + 125) st122.2.2 (by omega))
theorem at_unk (hI : atI L W s g a R k cn cc bc M0 M) (h : Unk M0 s cn un) : Unk M s cn un := by
  have st := hI.2.2.2.1
  exact unk_cg h (by rw [st s (Or.inl rfl) (by omega)]) (st (s + 122) st122.1 (by omega)) (st (s + 123) st122.2.1 (by omega)) (st (s + 124) st124 (by omega)) (st (s + 125) st122.2.2 (by omega)) (st (s + 126) st126 (by omega))
def Co1 (s O x : Nat) : Prop := Cat s x ∨ x = s + 126 ∨ x = O
/-- what improveOne leaves behind -/
def i1I (L : List Nat) (W : Nat → Nat) (s g a R k cn cc bc un O oc mo : Nat) (M0 M : mM) : Prop := NX L W (Tat s) (Co1 s O) False (s + 1) M0 M ∧ Sva L W s g a R k cn cc bc M ∧ mR M R = mR M0 R ∧ (∀ x, Stb s x → x ≠ s + 128 → x ≠ s + 126 → mI M x = mI M0 x) ∧ (Rsm M R cn 17 ∧ Rt1 M R cn) ∧ Unk M s cn un ∧ Oth M s un O oc mo ∧ ∀ i, i ≤ 9 → mI M (g + i) = mI M0 (g + i)
theorem i1_mk (h : Sva L W s g a R k cn cc bc M0) (hcn : cn ≤ k) (hr : Rsm M0 R cn 17 ∧ Rt1 M0 R cn) (kO : mK M0 O = 30) (hO : s + 134 < O) (q : NX L W (Tat s) (Co1 s O) False (s + 1) M0 M) (hU : Unk M s cn un) (hH : Oth M s un O oc mo) : i1I L W s g a R k cn cc bc un O oc mo M0 M := by
  have hF := h.2.1.1
  have gs := h.1.2.1.1.2
  obtain ⟨e1, e2, e3⟩ := h.nxg q (fun i hi u => by unfold Co1 Cat at u; omega) (q.sk hF h.2.1.2.1)
  have rv : ∀ i, i < cn → nv M (mR M0 R i + 1) = nv M0 (mR M0 R i + 1) ∧ nv M (mR M0 R i + 3) = nv M0 (mR M0 R i + 3) ∧ mI M (mR M0 R i) = mI M0 (mR M0 R i) := fun i hi => by
    have f := h.2.2.2.2.1.2.2.2.2.2 i (by omega)
    have ap := h.te.2.2.2.1 i (by omega)
    have hb := h.2.2.2.2.2.1 i (by omega)
    have nO : mR M0 R i ≠ O := fun u => by
      have k11 := f.1.1
      rw [u, kO] at k11
      exact absurd k11 (by decide)
    refine ⟨(q.num hF f.2.1 (fun u => u.elim ap.1 (fun u => by unfold T2 at u; omega))).2.2, (q.num hF f.2.2 (fun u => u.elim ap.2.1 (fun u => by unfold T2 at u; omega))).2.2, (q.frl hF f).2 (fun u => ?_)⟩
    unfold Co1 Cat at u
    omega
  refine ⟨q, e1, e3, fun x hx nx nx' => ?_, ⟨fun i hi => ?_, fun i hi => ?_⟩, hU, hH, e2⟩
  · have ne : x ≠ s + 1 := by unfold Stb at hx; omega
    refine (q.oth (h.2.2.1 x hx) ne).2.2.2 (fun u => ?_)
    unfold Co1 Cat at u
    unfold Stb at hx
    omega
  · rw [e3, (rv i hi).1, (rv i hi).2.1]; exact hr.1 i hi
  · rw [e3, (rv i hi).2.2]; exact hr.2 i hi
theorem s_i12 (h0 : Sva L W s g a R k cn cc bc M0) (hcn : cn ≤ k) (hk : k ≤ 512) (hr : Rsm M0 R cn 17 ∧ Rt1 M0 R cn) (hL : LHs M0 s cn cc) (hU : Unk M0 s cn un) (hH : Oth M0 s un O oc mo) (oO : Oc L M0 O) (hO : s + 134 < O) (hW : ∀ x, Tat s x → B ≤ W x) (b1 : 300 ≤ B) (hB : B ≤ 16000) : ∀ (t i : Nat) (M : mM), oc ≤ i + t → i ≤ oc → atI L W s g a R k cn cc bc M0 M → h_So_improveOne_2 G (d + 5) s a i M (fun x M' => (x = 0 ∨ x = 1) ∧ i1I L W s g a R k cn cc bc un O oc mo M0 M') := by
  obtain ⟨hc1, hc2, hc3⟩ := h0.1.2.2.2.2.1
  have u40 := hU.2.1
  have oc24 := hH.2.1.2.2.2
  have kO := hH.1.2.1
  have hF0 := h0.2.1.1
  have c1o : ∀ x, Co1 s O x → Oc L M0 x := fun x u => by
    rcases u with u | u | u
    · exact h0.cat hcn x u
    · rw [u]; exact h0.2.2.1 _ st126
    · rw [u]; exact oO
  intro t
  induction t with
  | zero =>
    intro i M h1 h2 hI
    have ho := at_oth h0 hI oO hO hH
    have hu := at_unk hI hU
    obtain ⟨hN, ⟨⟨o, ⟨⟨s0, -⟩, -⟩, -⟩, -⟩, -⟩ := id hI
    refine k_So_improveOne_2 o ⟨by omega, by omega⟩ ?_
    rw [ho.2.1.1]
    exact ⟨s0, fun _ => ⟨Or.inl rfl, i1_mk h0 hcn hr kO hO (hN.mono hF0 (fun _ u => u) h0.tat (fun _ u => Or.inl u) c1o (fun u => u)) hu ho⟩, fun u => absurd (by omega) u⟩
  | succ t ih =>
    intro i M h1 h2 hI
    by_cases ei : i = oc
    · exact ih i M (by omega) h2 hI
    have ho := at_oth h0 hI oO hO hH
    have hu := at_unk hI hU
    obtain ⟨hN, hS, eR, st, ⟨hrs, ht1⟩, gi⟩ := id hI
    obtain ⟨⟨o, ⟨⟨s0, gs⟩, ⟨r0, -, -, r3, -, -, -, -, -, -, -, -, r17⟩, -⟩, -, -, hT⟩, ⟨hF, hSK, -, hfw⟩, -⟩ := id hS
    obtain ⟨⟨w1, w2, w3⟩, ⟨w4, w5, w6, w7⟩, w8⟩ := id ho
    obtain ⟨c, ii, kst, lo, hi', e1, e2, e3, e4, e5, l1, l2⟩ := w8 i (by omega)
    have kcn : kst < cn := by
      obtain ⟨k', c', lo', hi2, q1, q2, -⟩ := hu.2.2.2 ii e2
      omega
    have hcc : hi' ≤ cc := by
      obtain ⟨lo', hi2, f1, f2, f3, f4⟩ := hL kst kcn
      rw [← st (s + 123) st122.2.1 (by omega)] at f2
      omega
    obtain ⟨dv, md⟩ := td40 (c := c) (i := ii) (by omega)
    rw [← e1] at dv md
    refine k_So_improveOne_2 o ⟨by omega, by omega⟩ ?_
    rw [w4, w1, w3, r0, r3, r17, Int.toNat_natCast, dv, md]
    refine ⟨s0, fun u => absurd u (by omega), fun _ => ⟨w2, ⟨by omega, by omega⟩, ⟨by omega, by omega⟩, hSK.1.1, ?_⟩⟩
    obtain ⟨mu, hm, kw⟩ := f_weigh (G := G) (d := d) (B := B) (S := 17) (hS.we hcn) hrs (fun z hz => hW z (tw_at hz)) (by omega) hB (show c < 4096 by omega) hc1 hc3 (hT.2.1 c (by omega))
    refine kw.mono (fun M8 q => ?_)
    obtain ⟨n1, u1, u2, u3, -⟩ := q
    have x1 : NX L W (Tat s) (Cat s) False (s + 1) M M8 := (n1.nx hF).mono hF (fun _ z => tw_at z) hS.tat (fun _ z => Or.inl z) (hS.cat hcn) (fun z => z)
    have I1 := at_mk h0 hcn hr (hN.trans x1)
    have F1 := n1.nf
    have ow : Osz M8 (s + 130) 139 := ⟨F1.szv hfw.2.1 u2, F1.szv hfw.2.2 (Int.lt_of_lt_of_le u1.2 (p30m (by decide))), by rw [u3]; omega, by rw [u3]; omega⟩
    have pk := s_atOrder (G := G) (d := d) (i := kst) (Q := fun x M' => (x = -1 ∨ x = 0 ∨ x = 1) ∧ atI L W s g a R k cn cc bc M0 M') h0 hcn hr I1 ow kcn hW b1 (fun x M' p q => ⟨p, q⟩)
    obtain ⟨hN1, hS1, eR1, st1, -, -⟩ := id I1
    obtain ⟨⟨o1, ⟨⟨s01, -⟩, ⟨-, -, -, -, -, -, -, -, r81, -⟩, ⟨-, -, -, -, -, k81, -⟩, ⟨-, -, -, -, -, n81, -⟩⟩, -⟩, -, -, -, ⟨t11, t21, t31, t41, -, -⟩, -⟩ := id hS1
    have e31 : mI M8 (s + 125) ii = ((kst : Nat) : Int) := by
      rw [st1 (s + 125) st122.2.2 (by omega), ← st (s + 125) st122.2.2 (by omega)]
      exact e3
    rw [r81, t21, n81, t41, Int.toNat_natCast, e31, Int.toNat_natCast, eR1]
    refine ⟨n1.ok, s01, t11, k81, ⟨by omega, by omega⟩, t31, ⟨by omega, by omega⟩, pk.2.1, pk.2.2.mono (fun x19 M18 q => ?_)⟩
    obtain ⟨i19, o18, -, I2⟩ := q
    have ho2 := at_oth h0 I2 oO hO hH
    have hu2 := at_unk I2 hU
    obtain ⟨hN2, hS2, eR2, st2, ⟨hrs2, ht2⟩, gi2⟩ := id I2
    obtain ⟨⟨o2, ⟨⟨s02, -⟩, ⟨-, -, -, -, -, -, -, -, -, r92, -⟩, ⟨-, -, -, -, -, -, k92, -⟩, ⟨-, -, -, -, -, -, n92, -⟩⟩, -⟩, ⟨hF2, -⟩, hSt2, -⟩ := id hS2
    obtain ⟨⟨y1, y2, y3⟩, ⟨y4, y5, y6, y7⟩, y8⟩ := id ho2
    refine ⟨i19, o18, s02, fun v23 e23 => ⟨fun ex => ?_, fun nx => ?_⟩⟩
    rotate_left
    · rw [show ((i : Int) + 1) = ((i + 1 : Nat) : Int) by omega]
      exact ih (i + 1) M18 (by omega) (by omega) I2
    clear ih e23 ex pk kw
    have m22 : mI M18 (s + 122) = mI M (s + 122) := (st2 _ st122.1 (by omega)).trans (st _ st122.1 (by omega)).symm
    have m23 : mI M18 (s + 123) = mI M (s + 123) := (st2 _ st122.2.1 (by omega)).trans (st _ st122.2.1 (by omega)).symm
    have m25 : mI M18 (s + 125) = mI M (s + 125) := (st2 _ st122.2.2 (by omega)).trans (st _ st122.2.2 (by omega)).symm
    rw [← m25] at e3
    rw [← m22] at e4
    rw [← m23] at e5
    obtain ⟨k', c2, lo', hi2, p1, p2, p3, p4, p5, p6, p7⟩ := hu2.2.2.2 ii e2
    have ek : k' = kst := by rw [e3] at p1; omega
    subst ek
    have eh : hi2 = hi' := by rw [e5] at p5; omega
    rw [r92, n92, y1, y3, p3]
    refine ⟨k92, ⟨by omega, by omega⟩, y2, ⟨by omega, by omega⟩, ⟨by omega, by omega⟩, fun M34 e34 => ?_⟩
    have f34 : FI (fun z => z = O) M18 M34 := by rw [e34]; exact FI.ui rfl
    have o34 : mOk M34 := by rw [e34]; exact mOk_UI o2 ⟨by omega, by omega⟩
    rw [f34.1, f34.2.1, f34.2.2.1, r92, n92]
    refine ⟨k92, ⟨by omega, by omega⟩, fun M38 e38 => ?_⟩
    have f38 : FI (fun z => z = s + 126) M34 M38 := by rw [e38]; exact FI.ui rfl
    have o38 : mOk M38 := by rw [e38]; exact mOk_UI o34 ⟨by omega, by omega⟩
    have sO : ¬ s = O := by omega
    have i13 : mI M38 s 13 = ((mo : Nat) : Int) := by
      rw [f38.2.2.2.2.2.2 s (show ¬ s = s + 126 by omega), f34.2.2.2.2.2.2 s sO]
      exact y5
    rw [i13]
    obtain ⟨l, el, hl⟩ : ∃ l : Nat, (if ((mo : Nat) : Int) < ((i : Nat) : Int) + 1 then ((mo : Nat) : Int) else ((i : Nat) : Int) + 1) = ((l : Nat) : Int) ∧ l ≤ oc := by
      split
      · exact ⟨mo, rfl, w6⟩
      · exact ⟨i + 1, by omega, by omega⟩
    rw [el]
    refine ⟨⟨by omega, by omega⟩, (s_So_mix (G := G) (d := d + 5) (O := O) (l1 := 0) (l2 := l) (n := oc) o38 (by rw [f38.1, f34.1]; exact s02) (by rw [f38.2.2.1, f34.2.2.1]; exact y1) (by rw [f38.1, f34.1]; exact y2) (by rw [f38.2.1, f34.2.1]; exact y3) hl oc24 (by omega)).mono (fun M41 q1 => ?_)⟩
    obtain ⟨o41, f41, p41⟩ := q1
    have i13' : mI M41 s 13 = ((mo : Nat) : Int) := by
      rw [f41.2.2.2.2.2.2 s sO]
      exact i13
    rw [i13', show (((i : Nat) : Int) + 1) = ((i + 1 : Nat) : Int) by omega]
    refine ⟨o41, by rw [f41.1, f38.1, f34.1]; exact s02, (s_So_mix (G := G) (d := d + 5) (O := O) (l1 := mo) (l2 := i + 1) (n := oc) o41 (by rw [f41.1, f38.1, f34.1]; exact s02) (by rw [f41.2.2.1, f38.2.2.1, f34.2.2.1]; exact y1) (by rw [f41.1, f38.1, f34.1]; exact y2) (by rw [f41.2.1, f38.2.1, f34.2.1]; exact y3) (by omega) oc24 (by omega)).mono (fun M45 q2 => ?_)⟩
    obtain ⟨o45, f45, p45⟩ := q2
    refine ⟨o45, Or.inr rfl, ?_⟩
    have ff : Fxo (fun x => x = s + 126 ∨ x = O) s M18 M45 := (f34.fo.mono (fun _ u => Or.inr u)).trans ((f38.fo.mono (fun _ u => Or.inl u)).trans ((f41.mono (fun _ u => Or.inr u)).trans (f45.mono (fun _ u => Or.inr u))))
    obtain ⟨nx, -⟩ := ff.nx (T := Tat s) (r := False) o2 o45 hF2 hS2.tat (fun x u => hN2.oc hF0 (c1o x (Or.inr u))) hS2.z9
    have q' : NX L W (Tat s) (Co1 s O) False (s + 1) M0 M45 := (hN2.mono hF0 (fun _ u => u) h0.tat (fun _ u => Or.inl u) c1o (fun u => u)).trans (nx.mono hF2 (fun _ u => u) hS2.tat (fun x u => Or.inr u) (fun x u => hN2.oc hF0 (c1o x u)) (fun u => u))
    have kp : ∀ x, x ≠ s + 126 → x ≠ O → mI M45 x = mI M18 x := fun x a1 a2 => ff.2.2.2.2.2.2 x (fun u => u.elim a1 a2)
    have z0 := kp s (by omega) (by omega)
    have z2 := kp (s + 122) (by omega) (by omega)
    have z3 := kp (s + 123) (by omega) (by omega)
    have z4 := kp (s + 124) (by omega) (by omega)
    have z5 := kp (s + 125) (by omega) (by omega)
    refine i1_mk h0 hcn hr kO hO q' ?_ ?_
    · obtain ⟨v1, v2, v3, v4⟩ := hu2
      refine ⟨by rw [z0]; exact v1, v2, fun j hj => by rw [z4]; exact v3 j hj, fun j hj => ?_⟩
      have n6 : ¬ s + 126 = O := by omega
      rw [z2, z3, z5, f45.2.2.2.2.2.2 (s + 126) n6, f41.2.2.2.2.2.2 (s + 126) n6, mI_ui _ j e38]
      by_cases cj : j = ii
      · rw [if_pos ⟨rfl, cj⟩, cj]
        exact ⟨k', c, lo, hi', e3, kcn, rfl, e4, e5, l1, l2⟩
      · rw [if_neg (fun u => cj u.2), f34.2.2.2.2.2.2 (s + 126) n6]
        exact v4 j hj
    · have P38 : ∀ j, j < oc → ot1 M18 s un (mI M38 O j) := fun j hj => by
        rw [f38.2.2.2.2.2.2 O (show ¬ O = s + 126 by omega), mI_ui _ j e34]
        by_cases cj : j = i
        · rw [if_pos ⟨rfl, cj⟩]
          exact ⟨c2, ii, k', lo', hi2, by omega, e2, p1, p4, p5, p6, p7⟩
        · rw [if_neg (fun u => cj u.2)]
          exact y8 j hj
      have P45 := p45 _ (p41 _ P38)
      exact ⟨⟨by rw [ff.2.2.1]; exact y1, by rw [ff.1]; exact y2, by rw [ff.2.1]; exact y3⟩, ⟨by rw [z0]; exact y4, by rw [z0]; exact y5, y6, y7⟩, fun j hj => (P45 j hj).cg z2 z3 z5⟩
theorem s_So_improveOne (h0 : Sva L W s g a R k cn cc bc M) (hcn : cn ≤ k) (hk : k ≤ 512) (hL : LHs M s cn cc) (hU : Unk M s cn un) (hr : Rsm M R cn 17 ∧ Rt1 M R cn) (hH : Oth M s un O oc mo) (oO : Oc L M O) (hO : s + 134 < O) (hW : ∀ x, Tat s x → B ≤ W x) (b1 : 300 ≤ B) (hB : B ≤ 16000) : Ci G y_So_improveOne (d + 6) [vr s, vr a] M (fun x M' => (x = 0 ∨ x = 1) ∧ i1I L W s g a R k cn cc bc un O oc mo M M') := by
  refine k_So_improveOne h0.1.1 ?_
  exact s_i12 h0 hcn hk hr hL hU hH oO hO hW b1 hB oc 0 M (by omega) (by omega) (at_mk h0 hcn hr (NX.refl h0.1.1 h0.2.1.1 h0.tat (h0.cat hcn) h0.z9))
end NBYC
end
section
/-! The class's Solver: the list of the commands that are not chosen. -/
section NBYD
variable {G : mG} {d s g a R cn cc bc i k n c un x y B O oc mo : Nat} {M M0 M' M1 M2 M3 : mM} {L : List Nat} {W : Nat → Nat} {S : Nat → Prop} {p : Int}
theorem SoT.fo (h : SoT M s g) (f : Fxo S s M M') : SoT M' s g := by
  unfold SoT at h ⊢
  rw [f.1, f.2.1, f.2.2.1]
  exact h
theorem GK9.fo (h : GK9 M g) (f : Fxo S s M M') : GK9 M' g := by
  unfold GK9 at h ⊢
  rw [f.1, f.2.1, f.2.2.1]
  exact h
theorem SG.fo (h : SG M s g cn cc bc) (f : Fxo S s M M') (o : mOk M') (hS : ∀ i, i ≤ 9 → ¬ S (g + i)) : SG M' s g cn cc bc := by
  obtain ⟨-, h2, h3, h4, h5⟩ := h
  exact ⟨o, h2.fo f, h3.fo f, by rw [f.2.1, f.2.2.1]; exact h4, h5.same (fun i hi => f.2.2.2.2.2.2 _ (hS i hi))⟩
theorem s_So_addToDraw (h : SG M s g cn cc bc) (hc : c < cc) : Cv G y_So_addToDraw d [vr s, vi c] M (fun M' => mOk M' ∧ Fxo (fun _ => False) s M M') := by
  obtain ⟨o, ⟨⟨s0, gs⟩, ⟨-, -, -, r3, -⟩, -⟩, ⟨g0, ⟨-, -, -, q7, q8, q9⟩, gk, ⟨-, -, -, m7, m8, m9⟩⟩, -, hT⟩ := id h
  obtain ⟨hc1, hc2, hc3⟩ := hT.1
  obtain ⟨x, y, mu, e1, e2, ⟨xy, -⟩, yb, -⟩ := hT.2.1 c hc
  have g7 := gk 7 (by decide) (by decide)
  refine k_So_addToDraw o ⟨by omega, by omega⟩ ?_
  rw [r3, q7, m7, Int.toNat_natCast, e1]
  refine ⟨s0, g0, g7, ⟨by omega, by omega⟩, ?_⟩
  suffices H : ∀ (t l : Nat) (M1 : mM), y ≤ l + t → l ≤ y → mOk M1 ∧ Fxo (fun _ => False) s M M1 → h_So_addToDraw_10 G d s c l M1 (fun M' => mOk M' ∧ Fxo (fun _ => False) s M M') from H y x M (by omega) (by omega) ⟨o, Fxo.refl⟩
  intro t
  induction t with
  | zero =>
    intro l M1 h1 h2 hI
    obtain ⟨o1, f1⟩ := hI
    refine k_So_addToDraw_10 o1 ⟨by omega, by omega⟩ ⟨by omega, by omega⟩ ?_
    rw [f1.2.2.1, f1.1, f1.2.1, r3, q7, m7, show Int.toNat (((c : Nat) : Int) + 1) = c + 1 by omega, f1.2.2.2.2.2.2 (g + 7) (fun u => u), e2]
    exact ⟨s0, g0, g7, ⟨by omega, by omega⟩, fun _ => ⟨o1, f1⟩, fun u => absurd (by omega) u⟩
  | succ t ih =>
    intro l M1 h1 h2 hI
    obtain ⟨o1, f1⟩ := hI
    refine k_So_addToDraw_10 o1 ⟨by omega, by omega⟩ ⟨by omega, by omega⟩ ?_
    rw [f1.2.2.1, f1.1, f1.2.1, r3, q7, m7, show Int.toNat (((c : Nat) : Int) + 1) = c + 1 by omega, f1.2.2.2.2.2.2 (g + 7) (fun u => u), e2, q9, m9]
    refine ⟨s0, g0, g7, ⟨by omega, by omega⟩, fun _ => ⟨o1, f1⟩, fun u => ⟨gk 9 (by decide) (by decide), ⟨by omega, by omega⟩, fun M13 e13 => ?_⟩⟩
    have f13 : Fxo (fun _ => False) s M1 M13 := Fxo.ul e13
    have o13 : mOk M13 := by rw [e13]; exact mOk_UL o1 i64_w64
    have g13 := f1.trans f13
    rw [g13.2.2.1, g13.1, g13.2.1, r3, q8, m8]
    refine ⟨g0, gk 8 (by decide) (by decide), ⟨by omega, by omega⟩, fun M18 e18 => ?_⟩
    rw [show (((l : Nat) : Int) + 1) = ((l + 1 : Nat) : Int) by omega]
    exact ih (l + 1) M18 (by omega) (by omega) ⟨by rw [e18]; exact mOk_UL o13 i64_w64, g13.trans (Fxo.ul e18)⟩
/-- how many of the first n unknown states are a player's -/
def ctp (M : mM) (s g : Nat) (p : Int) : Nat → Nat
  | 0 => 0
  | n + 1 => ctp M s g p n + (if mI M (g + 2) (mI M (s + 125) n).toNat = p then 1 else 0)
theorem ctp_two : ∀ n, ctp M s g 2 n + ctp M s g 1 n ≤ n
  | 0 => Nat.le_refl _
  | n + 1 => by
    have ih := ctp_two n
    show ctp M s g 2 n + (if mI M (g + 2) (mI M (s + 125) n).toNat = 2 then 1 else 0) + (ctp M s g 1 n + (if mI M (g + 2) (mI M (s + 125) n).toNat = 1 then 1 else 0)) ≤ n + 1
    generalize mI M (g + 2) (mI M (s + 125) n).toNat = z
    by_cases z2 : z = 2
    · rw [if_pos z2, if_neg (by omega)]; omega
    · rw [if_neg z2]; split <;> omega
theorem ctp_mono : ∀ (t i : Nat), ctp M s g p i ≤ ctp M s g p (i + t)
  | 0, _ => Nat.le_refl _
  | t + 1, i => by
    have ih := ctp_mono t i
    show _ ≤ ctp M s g p (i + t) + (if mI M (g + 2) (mI M (s + 125) (i + t)).toNat = p then 1 else 0)
    omega
theorem ctp_cg (e5 : mI M' (s + 125) = mI M (s + 125)) (e2 : mI M' (g + 2) = mI M (g + 2)) : ∀ n, ctp M' s g p n = ctp M s g p n
  | 0 => rfl
  | n + 1 => by
    show ctp M' s g p n + (if mI M' (g + 2) (mI M' (s + 125) n).toNat = p then 1 else 0) = ctp M s g p n + (if mI M (g + 2) (mI M (s + 125) n).toNat = p then 1 else 0)
    rw [ctp_cg e5 e2 n, e5, e2]
/-- while commands are listed -/
def adI (s un O : Nat) (M0 M : mM) (oc : Nat) : Prop := mOk M ∧ Fxo (fun x => x = s ∨ x = O) s M0 M ∧ mI M s 12 = ((oc : Nat) : Int) ∧ (∀ j, j ≠ 12 → mI M s j = mI M0 s j) ∧ ∀ j, j < oc → ot1 M0 s un (mI M O j)
theorem s_So_addOthers (hp : i32 p) (h : SG M0 s g cn cc bc) (hL : LHs M0 s cn cc) (hU : Unk M0 s cn un) (hr : mR M0 s 11 = O) (hK : mK M0 O = 30) (hn : mN M0 O = 2400) (hO : s + 134 < O) (e12 : mI M0 s 12 = ((oc : Nat) : Int)) (ho : ∀ j, j < oc → ot1 M0 s un (mI M0 O j)) (hb : oc + 60 * ctp M0 s g p un ≤ 2400) : Cv G y_So_addOthers (d + 1) [vr s, vi p] M0 (fun M' => ∃ oc' : Nat, oc ≤ oc' ∧ oc' ≤ oc + 60 * ctp M0 s g p un ∧ adI s un O M0 M' oc') := by
  refine k_So_addOthers h.1 hp ?_
  obtain ⟨o, ⟨⟨s0, gs⟩, ⟨-, -, -, r3, -, r5, r6, -, r8, r9, -⟩, ⟨-, -, k5, k6, -, k8, k9, -⟩, ⟨-, -, n5, n6, -, n8, n9, -⟩⟩, ⟨g0, ⟨q2, -⟩, gk, ⟨m2, -⟩⟩, -, hT⟩ := id h
  obtain ⟨hc1, hc2, hc3⟩ := hT.1
  have u40 := hU.2.1
  have sO : ¬ s = O := by omega
  have nS : ∀ i, i ≤ 9 → ¬ (g + i = s ∨ g + i = O) := fun i hi u => by omega
  suffices H : ∀ (t i b : Nat) (M : mM), un ≤ i + t → i ≤ un → oc ≤ b → b ≤ oc + 60 * ctp M0 s g p i → adI s un O M0 M b → h_So_addOthers_2 G d s p i M (fun M' => ∃ oc' : Nat, oc ≤ oc' ∧ oc' ≤ oc + 60 * ctp M0 s g p un ∧ adI s un O M0 M' oc') from H un 0 oc M0 (by omega) (by omega) (Nat.le_refl _) (by omega) ⟨h.1, Fxo.refl, e12, fun _ _ => rfl, ho⟩
  intro t
  induction t with
  | zero =>
    intro i b M h1 h2 hb1 hb2 hI
    have ei : i = un := by omega
    subst ei
    obtain ⟨o1, f1, q12, qj, qo⟩ := id hI
    refine k_So_addOthers_2 o1 hp ⟨by omega, by omega⟩ ?_
    rw [f1.1, qj 10 (by decide), hU.1]
    exact ⟨s0, fun _ => ⟨b, hb1, hb2, hI⟩, fun u => absurd (Int.le_refl _) u⟩
  | succ t ih =>
    intro i b M h1 h2 hb1 hb2 hI
    by_cases ei : i = un
    · exact ih i b M (by omega) h2 hb1 hb2 hI
    obtain ⟨o1, f1, q12, qj, qo⟩ := id hI
    obtain ⟨kst, c, lo, hi', e1, hkc, e4, e2, e3, l1, l2⟩ := hU.2.2.2 i (by omega)
    have hl : hi' ≤ cc ∧ hi' ≤ lo + 60 := by
      obtain ⟨lo', hi2, y1, y2, y3, y4, y5⟩ := hL kst hkc
      rw [e2] at y1
      rw [e3] at y2
      omega
    have ec : ctp M0 s g p (i + 1) = ctp M0 s g p i + (if mI M0 (g + 2) kst = p then 1 else 0) := by
      show ctp M0 s g p i + (if mI M0 (g + 2) (mI M0 (s + 125) i).toNat = p then 1 else 0) = _
      rw [e1, Int.toNat_natCast]
    have cm : ctp M0 s g p (i + 1) ≤ ctp M0 s g p un := by
      have := ctp_mono (M := M0) (s := s) (g := g) (p := p) (un - (i + 1)) (i + 1)
      rw [show i + 1 + (un - (i + 1)) = un by omega] at this
      exact this
    have b60 : mI M0 (g + 2) kst = p → b + 60 ≤ 2400 := fun u => by
      rw [if_pos u] at ec
      omega
    have nxt : ∀ (b' : Nat) (M1 : mM), oc ≤ b' → ((mI M0 (g + 2) kst = p ∧ b' ≤ b + 60) ∨ b' = b) → adI s un O M0 M1 b' → h_So_addOthers_2 G d s p (((i : Nat) : Int) + 1) M1 (fun M' => ∃ oc' : Nat, oc ≤ oc' ∧ oc' ≤ oc + 60 * ctp M0 s g p un ∧ adI s un O M0 M' oc') := fun b' M1 a1 a2 a3 => by
      rw [show (((i : Nat) : Int) + 1) = ((i + 1 : Nat) : Int) by omega]
      refine ih (i + 1) b' M1 (by omega) (by omega) a1 ?_ a3
      rcases a2 with ⟨u, w⟩ | u
      · rw [ec, if_pos u]; omega
      · have := ctp_mono (M := M0) (s := s) (g := g) (p := p) 1 i
        omega
    have i125 : mI M (s + 125) = mI M0 (s + 125) := f1.2.2.2.2.2.2 _ (fun u => by omega)
    have i122 : mI M (s + 122) = mI M0 (s + 122) := f1.2.2.2.2.2.2 _ (fun u => by omega)
    refine k_So_addOthers_2 o1 hp ⟨by omega, by omega⟩ ?_
    rw [f1.1, f1.2.1, f1.2.2.1, qj 10 (by decide), hU.1, r8, r5, n8, n5, i125, i122, Int.toNat_natCast, e1, Int.toNat_natCast, e2]
    refine ⟨s0, fun u => absurd u (by omega), fun _ => ⟨k8, ⟨by omega, by omega⟩, k5, ⟨by omega, by omega⟩, ?_⟩⟩
    clear ih
    suffices K : ∀ (t' c' b' : Nat) (M1 : mM), hi' ≤ c' + t' → lo ≤ c' → c' ≤ hi' → oc ≤ b' → ((mI M0 (g + 2) kst = p ∧ b' ≤ b + (c' - lo)) ∨ b' = b) → adI s un O M0 M1 b' → h_So_addOthers_25 G d s p i kst c' M1 (fun M' => ∃ oc' : Nat, oc ≤ oc' ∧ oc' ≤ oc + 60 * ctp M0 s g p un ∧ adI s un O M0 M' oc') from K (hi' - lo) lo b M (by omega) (Nat.le_refl _) (by omega) hb1 (Or.inr rfl) hI
    clear hI f1 q12 qj qo o1 i125 i122
    intro t'
    induction t' with
    | zero =>
      intro c' b' M1 h1' h2' h3' a1 a2 hI
      obtain ⟨o1, f1, q12, qj, qo⟩ := id hI
      have i123 : mI M1 (s + 123) = mI M0 (s + 123) := f1.2.2.2.2.2.2 _ (fun u => by omega)
      refine k_So_addOthers_25 o1 hp ⟨by omega, by omega⟩ ⟨by omega, by omega⟩ ⟨by omega, by omega⟩ ?_
      rw [f1.1, f1.2.1, f1.2.2.1, r6, n6, r3, q2, m2, i123, Int.toNat_natCast, e3]
      refine ⟨s0, k6, ⟨by omega, by omega⟩, fun _ => ⟨g0, gk 2 (by decide) (by decide), ⟨by omega, by omega⟩⟩, fun _ => nxt b' M1 a1 (a2.imp (fun u => ⟨u.1, by have := u.2; omega⟩) id) hI, fun u => absurd (Or.inl (by omega)) u⟩
    | succ t' ih =>
      intro c' b' M1 h1' h2' h3' a1 a2 hI
      obtain ⟨o1, f1, q12, qj, qo⟩ := id hI
      have i123 : mI M1 (s + 123) = mI M0 (s + 123) := f1.2.2.2.2.2.2 _ (fun u => by omega)
      have i126 : mI M1 (s + 126) = mI M0 (s + 126) := f1.2.2.2.2.2.2 _ (fun u => by omega)
      have ig2 : mI M1 (g + 2) = mI M0 (g + 2) := f1.2.2.2.2.2.2 _ (fun u => nS 2 (by decide) u)
      refine k_So_addOthers_25 o1 hp ⟨by omega, by omega⟩ ⟨by omega, by omega⟩ ⟨by omega, by omega⟩ ?_
      rw [f1.1, f1.2.1, f1.2.2.1, r6, n6, r3, q2, m2, r9, n9, hr, q12, i123, i126, ig2, Int.toNat_natCast, Int.toNat_natCast, Int.toNat_natCast, e3, e4]
      refine ⟨s0, k6, ⟨by omega, by omega⟩, fun _ => ⟨g0, gk 2 (by decide) (by decide), ⟨by omega, by omega⟩⟩, fun _ => nxt b' M1 a1 (a2.imp (fun u => ⟨u.1, by have := u.2; omega⟩) id) hI, fun u => ?_⟩
      have cl : c' < hi' := by
        by_cases z : ((hi' : Nat) : Int) ≤ ((c' : Nat) : Int)
        · exact absurd (Or.inl z) u
        · omega
      have sp : mI M0 (g + 2) kst = p := Classical.byContradiction (fun z => u (Or.inr z))
      have bb : b' ≤ b + (c' - lo) := by
        rcases a2 with a | a
        · exact a.2
        · omega
      have b24 := b60 sp
      clear a2 u
      have dr : ∀ (b2 : Nat) (M2 : mM), oc ≤ b2 → b2 ≤ b + (c' + 1 - lo) → adI s un O M0 M2 b2 → Cv G y_So_addToDraw d [vr s, vi ((c' : Nat) : Int)] M2 (fun M35 => mOk M35 ∧ h_So_addOthers_25 G d s p i kst (((c' : Nat) : Int) + 1) M35 (fun M' => ∃ oc' : Nat, oc ≤ oc' ∧ oc' ≤ oc + 60 * ctp M0 s g p un ∧ adI s un O M0 M' oc')) := fun b2 M2 x1 x2 x3 => by
        obtain ⟨o3, f3, v12, vj, vo⟩ := id x3
        refine (s_So_addToDraw (d := d) (h.fo f3 o3 nS) (show c' < cc by omega)).mono (fun M35 q => ?_)
        obtain ⟨o5, f5⟩ := q
        rw [show (((c' : Nat) : Int) + 1) = ((c' + 1 : Nat) : Int) by omega]
        refine ⟨o5, ih (c' + 1) b2 M35 (by omega) (by omega) (by omega) x1 (Or.inl ⟨sp, x2⟩) ⟨o5, f3.trans (f5.mono (fun _ u => u.elim)), ?_, fun j hj => ?_, fun j hj => ?_⟩⟩
        · rw [f5.2.2.2.2.2.2 s (fun u => u)]; exact v12
        · rw [f5.2.2.2.2.2.2 s (fun u => u)]; exact vj j hj
        · rw [f5.2.2.2.2.2.2 O (fun u => u)]; exact vo j hj
      refine ⟨k9, ⟨by omega, by omega⟩, fun _ => dr b' M1 a1 (by omega) hI, fun _ => ⟨⟨by omega, by omega⟩, fun M39 e39 => ?_⟩⟩
      have f39 : FI (fun z => z = s) M1 M39 := by rw [e39]; exact FI.ui rfl
      have o39 : mOk M39 := by rw [e39]; exact mOk_UI o1 ⟨by omega, by omega⟩
      rw [f39.1, f39.2.1, f1.1, f1.2.1, hn]
      refine ⟨hK, ⟨by omega, by omega⟩, ⟨by omega, by omega⟩, fun M44 e44 => dr (b' + 1) M44 (by omega) (by omega) ?_⟩
      have f44 : FI (fun z => z = O) M39 M44 := by rw [e44]; exact FI.ui rfl
      have o44 : mOk M44 := by rw [e44]; exact mOk_UI o39 ⟨by omega, by omega⟩
      refine ⟨o44, f1.trans ((f39.fo.mono (fun _ u => Or.inl u)).trans (f44.fo.mono (fun _ u => Or.inr u))), ?_, fun j hj => ?_, fun j hj => ?_⟩
      · rw [mI_ui s 12 e44, if_neg (fun u => sO u.1), mI_ui s 12 e39, if_pos ⟨rfl, rfl⟩]; omega
      · rw [mI_ui s j e44, if_neg (fun u => sO u.1), mI_ui s j e39, if_neg (fun u => hj u.2)]; exact qj j hj
      · rw [mI_ui O j e44]
        by_cases cj : j = b'
        · rw [if_pos ⟨rfl, cj⟩]
          exact ⟨c', i, kst, lo, hi', by omega, by omega, e1, e2, e3, h2', cl⟩
        · rw [if_neg (fun u => cj u.2), mI_ui O j e39, if_neg (fun u => sO u.1.symm)]
          exact qo j (by omega)
/-- the list is made -/
def loP (s un O : Nat) (M0 M : mM) : Prop := mOk M ∧ Fxo (fun x => x = s ∨ x = O) s M0 M ∧ (∀ j, j ≠ 12 → j ≠ 13 → mI M s j = mI M0 s j) ∧ ∃ oc mo : Nat, Oth M s un O oc mo
theorem s_lo16 {Q : mM → Prop} (h : SG M0 s g cn cc bc) (hL : LHs M0 s cn cc) (hU : Unk M0 s cn un) (hr : mR M0 s 11 = O) (hK : mK M0 O = 30) (hn : mN M0 O = 2400) (hO : s + 134 < O) (e12 : mI M0 s 12 = 0) (hQ : ∀ M, loP s un O M0 M → Q M) : Cv G y_So_addOthers (d + 1) [vr s, vi 2] M0 (fun M18 => mOk M18 ∧ (mK M18 s = 8 ∧ ∀ M22, M22 = mUI M18 s 13 (mI M18 s 12) → Cv G y_So_addOthers (d + 1) [vr s, vi 1] M22 (fun M24 => mOk M24 ∧ (mK M24 s = 8 ∧ Cv G y_So_mix (d + 1) [vr s, vi 0, vi (mI M24 s 13)] M24 (fun M28 => mOk M28 ∧ (mK M28 s = 8 ∧ Cv G y_So_mix (d + 1) [vr s, vi (mI M28 s 13), vi (mI M28 s 12)] M28 (fun M32 => mOk M32 ∧ (Q M32)))))))) := by
  have two := ctp_two (M := M0) (s := s) (g := g) un
  have u40 := hU.2.1
  have s0 := h.2.1.1.1
  have gs := h.2.1.1.2
  have sO : ¬ s = O := by omega
  have nS : ∀ i, i ≤ 9 → ¬ (g + i = s ∨ g + i = O) := fun i hi u => by omega
  refine (s_So_addOthers (G := G) (d := d) (p := 2) (oc := 0) ⟨by decide, by decide⟩ h hL hU hr hK hn hO e12 (fun j hj => absurd hj (by omega)) (by omega)).mono (fun M18 q => ?_)
  obtain ⟨m, -, m2, o18, f18, i12, ij, io⟩ := q
  refine ⟨o18, by rw [f18.1]; exact s0, fun M22 e22 => ?_⟩
  rw [i12] at e22
  have f22 : FI (fun z => z = s) M18 M22 := by rw [e22]; exact FI.ui rfl
  have o22 : mOk M22 := by rw [e22]; exact mOk_UI o18 ⟨by omega, by omega⟩
  have g22 : Fxo (fun x => x = s ∨ x = O) s M0 M22 := f18.trans (f22.fo.mono (fun _ u => Or.inl u))
  have kp : ∀ x, x ≠ s → x ≠ O → mI M22 x = mI M0 x := fun x a1 a2 => g22.2.2.2.2.2.2 x (fun u => u.elim a1 a2)
  have z2 := kp (s + 122) (by omega) (by omega)
  have z3 := kp (s + 123) (by omega) (by omega)
  have z4 := kp (s + 124) (by omega) (by omega)
  have z5 := kp (s + 125) (by omega) (by omega)
  have z6 := kp (s + 126) (by omega) (by omega)
  have zj : ∀ j, j ≠ 13 → mI M22 s j = mI M18 s j := fun j hj => by rw [mI_ui s j e22, if_neg (fun u => hj u.2)]
  have i13 : mI M22 s 13 = ((m : Nat) : Int) := by rw [mI_ui s 13 e22, if_pos ⟨rfl, rfl⟩]
  have U22 : Unk M22 s cn un := unk_cg hU (by rw [zj 10 (by decide), ij 10 (by decide)]) z2 z3 z4 z5 z6
  have L22 : LHs M22 s cn cc := by
    unfold LHs at hL ⊢
    rw [z2, z3]
    exact hL
  have r22 : mR M22 s 11 = O := by rw [g22.2.2.1]; exact hr
  have K22 : mK M22 O = 30 := by rw [g22.1]; exact hK
  have n22 : mN M22 O = 2400 := by rw [g22.2.1]; exact hn
  have ct : ctp M22 s g 1 un = ctp M0 s g 1 un := ctp_cg z5 (g22.2.2.2.2.2.2 _ (nS 2 (by decide))) un
  refine (s_So_addOthers (G := G) (d := d) (p := 1) (oc := m) ⟨by decide, by decide⟩ (h.fo g22 o22 nS) L22 U22 r22 K22 n22 hO (by rw [zj 12 (by decide)]; exact i12) (fun j hj => by rw [f22.2.2.2.2.2.2 O (fun u => sO u.symm)]; exact (io j hj).cg z2 z3 z5) (by rw [ct]; omega)).mono (fun M24 q => ?_)
  obtain ⟨m', a1, a2, o24, f24, j12, jj, jo⟩ := q
  rw [ct] at a2
  have j13 : mI M24 s 13 = ((m : Nat) : Int) := by rw [jj 13 (by decide)]; exact i13
  have s24 : mK M24 s = 8 := by rw [f24.1, g22.1]; exact s0
  have r24 : mR M24 s 11 = O := by rw [f24.2.2.1]; exact r22
  have K24 : mK M24 O = 30 := by rw [f24.1]; exact K22
  have n24 : mN M24 O = 2400 := by rw [f24.2.1]; exact n22
  rw [j13]
  refine ⟨o24, s24, (s_So_mix (G := G) (d := d + 1) (O := O) (l1 := 0) (l2 := m) (n := m') o24 s24 r24 K24 n24 a1 (by omega) (by omega)).mono (fun M28 q => ?_)⟩
  obtain ⟨o28, f28, p28⟩ := q
  have e28 : mI M28 s = mI M24 s := f28.2.2.2.2.2.2 s sO
  have s28 : mK M28 s = 8 := by rw [f28.1]; exact s24
  rw [e28, j13, j12]
  refine ⟨o28, s28, (s_So_mix (G := G) (d := d + 1) (O := O) (l1 := m) (l2 := m') (n := m') o28 s28 (by rw [f28.2.2.1]; exact r24) (by rw [f28.1]; exact K24) (by rw [f28.2.1]; exact n24) (Nat.le_refl _) (by omega) (by omega)).mono (fun M32 q => ?_)⟩
  obtain ⟨o32, f32, p32⟩ := q
  have ff : Fxo (fun x => x = s ∨ x = O) s M22 M32 := f24.trans ((f28.trans f32).mono (fun _ u => Or.inr u))
  have e32 : mI M32 s = mI M24 s := by rw [f32.2.2.2.2.2.2 s sO]; exact e28
  have kq : ∀ x, x ≠ s → x ≠ O → mI M32 x = mI M22 x := fun x b1 b2 => ff.2.2.2.2.2.2 x (fun u => u.elim b1 b2)
  refine ⟨o32, hQ M32 ⟨o32, g22.trans ff, fun j b1 b2 => ?_, m', m, ⟨⟨by rw [ff.2.2.1]; exact r22, by rw [ff.1]; exact K22, by rw [ff.2.1]; exact n22⟩, ⟨by rw [e32]; exact j12, by rw [e32]; exact j13, a1, by omega⟩, fun j hj => ?_⟩⟩⟩
  · rw [e32, jj j b1, zj j b2, ij j b1]
  · exact (p32 _ (p28 _ jo) j hj).cg (kq (s + 122) (by omega) (by omega)) (kq (s + 123) (by omega) (by omega)) (kq (s + 125) (by omega) (by omega))
/-- from the list's place on -/
theorem s_lo12 {Q : mM → Prop} {M14 M16 : mM} (h : SG M0 s g cn cc bc) (hL : LHs M0 s cn cc) (hU : Unk M0 s cn un) (ht : Ot L M0 s O 2400) (e14 : M14 = mUI M0 s 12 0) (e16 : M16 = mUL M14 s 14 (w64 0)) (hQ : ∀ M, loP s un O M0 M → Q M) : Cv G y_So_addOthers (d + 1) [vr s, vi 2] M16 (fun M18 => mOk M18 ∧ (mK M18 s = 8 ∧ ∀ M22, M22 = mUI M18 s 13 (mI M18 s 12) → Cv G y_So_addOthers (d + 1) [vr s, vi 1] M22 (fun M24 => mOk M24 ∧ (mK M24 s = 8 ∧ Cv G y_So_mix (d + 1) [vr s, vi 0, vi (mI M24 s 13)] M24 (fun M28 => mOk M28 ∧ (mK M28 s = 8 ∧ Cv G y_So_mix (d + 1) [vr s, vi (mI M28 s 13), vi (mI M28 s 12)] M28 (fun M32 => mOk M32 ∧ (Q M32)))))))) := by
  have gs := h.2.1.1.2
  have hO : s + 134 < O := by
    rcases ht.2.2 with u | u
    · omega
    · exact u.1
  have f14 : FI (fun z => z = s) M0 M14 := by rw [e14]; exact FI.ui rfl
  have o14 : mOk M14 := by rw [e14]; exact mOk_UI h.1 ⟨by decide, by decide⟩
  have o16 : mOk M16 := by rw [e16]; exact mOk_UL o14 i64_w64
  have g16 : Fxo (fun x => x = s ∨ x = O) s M0 M16 := (f14.fo.mono (fun _ u => Or.inl u)).trans (Fxo.ul e16)
  have nS : ∀ i, i ≤ 9 → ¬ (g + i = s ∨ g + i = O) := fun i hi u => by omega
  have i16 : mI M16 = mI M14 := by rw [e16]; rfl
  have kp : ∀ x, x ≠ s → mI M16 x = mI M0 x := fun x a1 => by rw [i16]; exact f14.2.2.2.2.2.2 x a1
  have z2 := kp (s + 122) (by omega)
  have z3 := kp (s + 123) (by omega)
  have zj : ∀ j, j ≠ 12 → mI M16 s j = mI M0 s j := fun j hj => by rw [i16, mI_ui s j e14, if_neg (fun u => hj u.2)]
  have L16 : LHs M16 s cn cc := by
    unfold LHs at hL ⊢
    rw [z2, z3]
    exact hL
  refine s_lo16 (h.fo g16 o16 nS) L16 (unk_cg hU (zj 10 (by decide)) z2 z3 (kp _ (by omega)) (kp _ (by omega)) (kp _ (by omega))) (by rw [g16.2.2.1]; exact ht.1.1) (by rw [g16.1]; exact ht.1.2.1) (by rw [g16.2.1]; exact ht.1.2.2) hO (by rw [i16, mI_ui s 12 e14, if_pos ⟨rfl, rfl⟩]) (fun M hM => hQ M ?_)
  obtain ⟨a1, a2, a3, a4⟩ := hM
  exact ⟨a1, g16.trans a2, fun j b1 b2 => by rw [a3 j b1 b2]; exact zj j b1, a4⟩
/-- the list stays, or is a new one -/
def gr1 (s : Nat) (M M' : mM) (O n O' n' : Nat) : Prop := (M' = M ∧ O' = O ∧ n' = n) ∨ (n = 0 ∧ Gro s M M' ∧ O' = mZ M ∧ n' = 2400)
theorem s_So_listOthers (h : Sva L W s g a R k cn cc bc M) (hz : s + 134 < mZ M) (hL : LHs M s cn cc) (hU : Unk M s cn un) (ht : Ot L M s O n) : Cv G y_So_listOthers (d + 2) [vr s] M (fun M' => ∃ (M5 : mM) (O' : Nat), gr1 s M M5 O n O' 2400 ∧ Sva L W s g a R k cn cc bc M5 ∧ Ot L M5 s O' 2400 ∧ loP s un O' M5 M') := by
  have s0 := h.1.2.1.1.1
  refine k_So_listOthers h.1.1 ?_
  rw [ht.1.1, ht.1.2.2]
  have n24 : n = 0 ∨ n = 2400 := by
    rcases ht.2.2 with u | u
    · exact Or.inl u.2
    · exact Or.inr u.2
  refine ⟨s0, ht.1.2.1, ⟨by omega, by omega⟩, fun u M9 e9 => ?_, fun u M35 e35 M37 e37 => ?_⟩
  · have zs := (h.2.2.1 s (Or.inl rfl)).1
    refine ⟨by rw [e9, mK_New, if_neg (by omega)]; exact s0, fun M12 e12 M14 e14 M16 e16 => ?_⟩
    have gq : Gro s M M12 := by
      unfold Gro
      rw [e12, e9]
    obtain ⟨S12, T12, -, I12, -⟩ := h.gro hz gq
    have st : ∀ x, Stb s x → mI M12 x = mI M x := fun x hx => I12 x (h.2.2.1 x hx).1
    have L12 : LHs M12 s cn cc := by
      unfold LHs at hL ⊢
      rw [st _ st122.1, st _ st122.2.1]
      exact hL
    have U12 : Unk M12 s cn un := unk_cg hU (by rw [st s (Or.inl rfl)]) (st _ st122.1) (st _ st122.2.1) (st _ st124) (st _ st122.2.2) (st _ st126)
    exact s_lo12 (d := d) S12.1 L12 U12 T12 e14 e16 (fun M' hM => ⟨M12, mZ M, Or.inr ⟨by omega, gq, rfl, rfl⟩, S12, T12, hM⟩)
  · have en : n = 2400 := by omega
    subst en
    exact s_lo12 (d := d) h.1 hL hU ht e35 e37 (fun M' hM => ⟨M, O, Or.inl ⟨rfl, rfl, rfl⟩, h, ht, hM⟩)
end NBYD
end
section
/-! The class's Solver: workOut. -/
section NBZ
variable {G : mG} {d s g a R R' cn cc bc i k k' n c un x y B O O' n' oc mo : Nat} {M M0 M' M1 M2 M3 M5 : mM} {L L' : List Nat} {W : Nat → Nat} {wt : Nat → Nat}
/-- between the rounds -/
def loI (L : List Nat) (W : Nat → Nat) (s g a R k cn cc bc un : Nat) (wt : Nat → Nat) (M0 M : mM) : Prop := NX L W (Tso s M0 R cn) (Cso s M0 R cn) True (s + 1) M0 M ∧ Sva L W s g a R k cn cc bc M ∧ mR M R = mR M0 R ∧ (Rsm M R cn 17 ∧ Rt1 M R cn) ∧ LHs M s cn cc ∧ Unk M s cn un ∧ (∀ i, i < un → wtO M s g i (wt i) ∧ wt i ≤ 33) ∧ mI M (s + 30) = mI M0 (s + 30)
theorem tso_e (e : mR M R = mR M0 R) : Tso s M R cn = Tso s M0 R cn ∧ Cso s M R cn = Cso s M0 R cn := by
  constructor
  · funext z
    unfold Tso Trw
    rw [e]
  · funext z
    unfold Cso Irw
    rw [e]
theorem lhs_same (h : LHs M s cn cc) (e2 : mI M' (s + 122) = mI M (s + 122)) (e3 : mI M' (s + 123) = mI M (s + 123)) : LHs M' s cn cc := by
  unfold LHs at h ⊢
  rw [e2, e3]
  exact h
theorem wto_same (h : wtO M s g i n) (e2 : mI M' (s + 122) = mI M (s + 122)) (e3 : mI M' (s + 123) = mI M (s + 123)) (e5 : mI M' (s + 125) = mI M (s + 125)) (e6 : mI M' (g + 6) = mI M (g + 6)) : wtO M' s g i n := by
  unfold wtO at h ⊢
  rw [e2, e3, e5, e6]
  exact h
theorem lo_ev (hI : loI L W s g a R k cn cc bc un wt M0 M) (hcn : cn ≤ k) (e : evI L W s g a R k cn cc bc M M') : loI L W s g a R k cn cc bc un wt M0 M' := by
  obtain ⟨hN, hS, eR, ⟨hr, ht⟩, hL, hU, hw, h30⟩ := hI
  obtain ⟨q, S1, eR1, st, r1, ti, gi⟩ := e
  obtain ⟨eT, eC⟩ := tso_e (s := s) (cn := cn) eR
  have hF := hS.2.1.1
  have q' : NX L W (Tso s M R cn) (Cso s M R cn) True (s + 1) M M' := q.mono hF (fun _ u => u) (hS.tl hcn) (fun x u => u.so) (hS.cl hcn) (fun u => u.elim)
  rw [eT, eC] at q'
  have e2 := st (s + 122) st122.1
  have e3 := st (s + 123) st122.2.1
  have e5 := st (s + 125) st122.2.2
  refine ⟨hN.trans q', S1, by rw [eR1, eR], ⟨r1, fun i hi => by rw [eR1, ti i hi]; exact ht i hi⟩, lhs_same hL e2 e3, unk_same hU (fun x hx _ => st x hx) (st (s + 126) st126), fun i hi => ⟨wto_same (hw i hi).1 e2 e3 e5 (gi 6 (by decide)), (hw i hi).2⟩, (st (s + 30) st30).trans h30⟩
theorem lo_im (hI : loI L W s g a R k cn cc bc un wt M0 M) (hcn : cn ≤ k) (e : imI L W s g a R k cn cc bc un M M') : loI L W s g a R k cn cc bc un wt M0 M' := by
  obtain ⟨hN, hS, eR, ⟨hr, ht⟩, hL, hU, hw, h30⟩ := hI
  obtain ⟨q, S1, eR1, st, r1, U1⟩ := e
  obtain ⟨eT, eC⟩ := tso_e (s := s) (cn := cn) eR
  have hF := hS.2.1.1
  have q' : NX L W (Tso s M R cn) (Cso s M R cn) True (s + 1) M M' := q.mono hF (fun _ u => Or.inl u) (hS.tl hcn) (fun x u => u.so) (hS.cl hcn) (fun u => u)
  have gi := (hS.nx hcn q' S1.2.1.2.1).2.1
  rw [eT, eC] at q'
  have e2 := st (s + 122) st122.1 (by omega)
  have e3 := st (s + 123) st122.2.1 (by omega)
  have e5 := st (s + 125) st122.2.2 (by omega)
  exact ⟨hN.trans q', S1, by rw [eR1, eR], r1, lhs_same hL e2 e3, U1, fun i hi => ⟨wto_same (hw i hi).1 e2 e3 e5 (gi 6 (by decide)), (hw i hi).2⟩, (st (s + 30) st30 (by omega)).trans h30⟩
/-- the list's growth keeps the Solver -/
theorem gr1.kp (h : Sva L W s g a R k cn cc bc M) (hz : s + 134 < mZ M) (ht : Ot L M s O n) (q : gr1 s M M5 O n O' n') : Sva L W s g a R k cn cc bc M5 ∧ Ot L M5 s O' n' ∧ (∀ b, b ∈ L → nv M5 b = nv M b) ∧ (∀ x, x < mZ M → mI M5 x = mI M x) ∧ mR M5 R = mR M R ∧ mZ M ≤ mZ M5 := by
  rcases q with ⟨e, e1, e2⟩ | ⟨-, gq, e1, e2⟩
  · rw [e, e1, e2]
    exact ⟨h, ht, fun _ _ => rfl, fun _ _ => rfl, rfl, Nat.le_refl _⟩
  · obtain ⟨a1, a2, a3, a4, a5⟩ := h.gro hz gq
    rw [e1, e2]
    exact ⟨a1, a2, fun b hb => (a3 b hb).1, a4, a5, by have := gq.new.2.2.1; omega⟩
def Co2 (s : Nat) (M : mM) (R n O x : Nat) : Prop := Cso s M R n x ∨ x = O
/-- over the rounds in which one state betters its choice -/
def lo2 (L : List Nat) (W : Nat → Nat) (s g a R k cn cc bc O : Nat) (M0 M : mM) : Prop := NX L W (Tso s M0 R cn) (Co2 s M0 R cn O) True (s + 1) M0 M ∧ Sva L W s g a R k cn cc bc M ∧ mR M R = mR M0 R ∧ (Rsm M R cn 17 ∧ Rt1 M R cn) ∧ mI M (s + 30) = mI M0 (s + 30)
/-- between these rounds -/
def lo3 (L : List Nat) (W : Nat → Nat) (s g a R k cn cc bc O un : Nat) (wt : Nat → Nat) (M0 M : mM) : Prop := lo2 L W s g a R k cn cc bc O M0 M ∧ LHs M s cn cc ∧ Unk M s cn un ∧ (∀ i, i < un → wtO M s g i (wt i) ∧ wt i ≤ 33) ∧ ∃ oc mo : Nat, Oth M s un O oc mo
theorem co2_e (e : mR M R = mR M0 R) : Co2 s M R cn O = Co2 s M0 R cn O := by
  funext z
  show (Cso s M R cn z ∨ z = O) = (Cso s M0 R cn z ∨ z = O)
  rw [(tso_e (s := s) (cn := cn) e).2]
theorem nx_oth {T C : Nat → Prop} {r : Prop} (os : Oc L M s) (q : NX L W T C r (s + 1) M M') (oO : Oc L M O) (hO : s + 134 < O) (nC : ¬ C O) (e0 : mI M' s = mI M s) (e2 : mI M' (s + 122) = mI M (s + 122)) (e3 : mI M' (s + 123) = mI M (s + 123)) (e5 : mI M' (s + 125) = mI M (s + 125)) (h : Oth M s un O oc mo) : Oth M' s un O oc mo := by
  obtain ⟨a1, a2, -, a4⟩ := q.oth oO (by omega)
  obtain ⟨-, -, b3, -⟩ := q.oth os (by omega)
  obtain ⟨⟨h1, h2, h3⟩, ⟨h4, h5, h6⟩, h7⟩ := h
  refine ⟨⟨by rw [b3]; exact h1, by rw [a1]; exact h2, by rw [a2]; exact h3⟩, ⟨by rw [e0]; exact h4, by rw [e0]; exact h5, h6⟩, fun j hj => ?_⟩
  rw [a4 nC]
  exact (h7 j hj).cg e2 e3 e5
theorem lo3_ev (hI : lo3 L W s g a R k cn cc bc O un wt M0 M) (hcn : cn ≤ k) (hF0 : NF L W M0) (oO : Oc L M0 O) (hO : s + 134 < O) (e : evI L W s g a R k cn cc bc M M') : lo3 L W s g a R k cn cc bc O un wt M0 M' := by
  obtain ⟨⟨hN, hS, eR, ⟨hr, ht⟩, h30⟩, hL, hU, hw, oc, mo, hH⟩ := hI
  obtain ⟨q, S1, eR1, st, r1, ti, gi⟩ := e
  have eT := (tso_e (s := s) (cn := cn) eR).1
  have eC := co2_e (s := s) (cn := cn) (O := O) eR
  have hF := hS.2.1.1
  have oM := hN.oc hF0 oO
  have q' : NX L W (Tso s M R cn) (Co2 s M R cn O) True (s + 1) M M' := q.mono hF (fun _ u => u) (hS.tl hcn) (fun x u => Or.inl u.so) (fun x u => u.elim (hS.cl hcn x) (fun u => by rw [u]; exact oM)) (fun u => u.elim)
  rw [eT, eC] at q'
  have e2 := st (s + 122) st122.1
  have e3 := st (s + 123) st122.2.1
  have e5 := st (s + 125) st122.2.2
  refine ⟨⟨hN.trans q', S1, by rw [eR1, eR], ⟨r1, fun i hi => by rw [eR1, ti i hi]; exact ht i hi⟩, (st (s + 30) st30).trans h30⟩, lhs_same hL e2 e3, unk_same hU (fun x hx _ => st x hx) (st (s + 126) st126), fun i hi => ⟨wto_same (hw i hi).1 e2 e3 e5 (gi 6 (by decide)), (hw i hi).2⟩, oc, mo, nx_oth (hS.2.2.1 s (Or.inl rfl)) q oM hO (fun u => ?_) (st s (Or.inl rfl)) e2 e3 e5 hH⟩
  unfold Cev S36 at u
  omega
theorem lo3_i1 (hI : lo3 L W s g a R k cn cc bc O un wt M0 M) (hcn : cn ≤ k) (hF0 : NF L W M0) (oO : Oc L M0 O) (e : i1I L W s g a R k cn cc bc un O oc mo M M') : lo3 L W s g a R k cn cc bc O un wt M0 M' := by
  obtain ⟨⟨hN, hS, eR, -, h30⟩, hL, hU, hw, -⟩ := hI
  obtain ⟨q, S1, eR1, st, r1, U1, H1, gi⟩ := e
  have eT := (tso_e (s := s) (cn := cn) eR).1
  have eC := co2_e (s := s) (cn := cn) (O := O) eR
  have hF := hS.2.1.1
  have oM := hN.oc hF0 oO
  have q' : NX L W (Tso s M R cn) (Co2 s M R cn O) True (s + 1) M M' := q.mono hF (fun _ u => u.elim Or.inl (fun u => Or.inr (Or.inr (Or.inl u)))) (hS.tl hcn) (fun x u => by
    rcases u with u | u | u
    · exact Or.inl u.so
    · exact Or.inl (Or.inr (Or.inl (by rw [u]; exact st126)))
    · exact Or.inr u) (fun x u => u.elim (hS.cl hcn x) (fun u => by rw [u]; exact oM)) (fun u => u.elim)
  rw [eT, eC] at q'
  have e2 := st (s + 122) st122.1 (by omega) (by omega)
  have e3 := st (s + 123) st122.2.1 (by omega) (by omega)
  have e5 := st (s + 125) st122.2.2 (by omega) (by omega)
  exact ⟨⟨hN.trans q', S1, by rw [eR1, eR], r1, (st (s + 30) st30 (by omega) (by omega)).trans h30⟩, lhs_same hL e2 e3, U1, fun i hi => ⟨wto_same (hw i hi).1 e2 e3 e5 (gi 6 (by decide)), (hw i hi).2⟩, oc, mo, H1⟩
/-- the rounds in which one state betters its choice -/
theorem s_wo102 {Q : Int → mM → Prop} (hF0 : NF L W M0) (hcn : cn ≤ k) (hk : k ≤ 512) (h480 : wsu wt un ≤ 480) (hWr : ∀ i, i < k → 17 ≤ W (mR M0 R i + 1) ∧ 17 ≤ W (mR M0 R i + 3)) (hWs : ∀ x, Trs (s + 31) x → 40 ≤ W x) (hW : ∀ x, Tat s x → B ≤ W x) (b1 : 300 ≤ B) (hB : B ≤ 16000) (oO : Oc L M0 O) (hO : s + 134 < O)
    (hQ : ∀ M M66, lo2 L W s g a R k cn cc bc O M0 M → M66 = mUI M a 1 1 → Q 0 M66) : ∀ (t rn : Nat) (bt : Int) (M : mM), 4611686018427387904 ≤ rn + t → rn ≤ 4611686018427387904 → (bt = 0 ∨ bt = 1) → lo3 L W s g a R k cn cc bc O un wt M0 M → h_So_workOut_102 G (d + 7) s a bt rn M Q := by
  intro t
  induction t with
  | zero =>
    intro rn bt M h1 h2 hb hI
    have hS := hI.1.2.1
    exact k_So_workOut_102 hS.1.1 (m_b32 hb) ⟨by omega, by omega⟩ ⟨fun _ => ⟨hS.2.2.2.2.1.1, fun M66 e66 => hQ M M66 hI.1 e66⟩, fun u => absurd (Or.inl ((cmpz _ _).1.mpr (by omega))) u⟩
  | succ t ih =>
    intro rn bt M h1 h2 hb hI
    obtain ⟨⟨hN, hS, eR, hr, -⟩, hL, hU, hw, -⟩ := id hI
    refine k_So_workOut_102 hS.1.1 (m_b32 hb) ⟨by omega, by omega⟩ ⟨fun _ => ⟨hS.2.2.2.2.1.1, fun M66 e66 => hQ M M66 hI.1 e66⟩, fun u => ⟨hS.1.2.1.1.1, ?_⟩⟩
    rw [show (((rn : Nat) : Int) + 1) = ((rn + 1 : Nat) : Int) by omega]
    have rl : rn < 4611686018427387904 := by
      by_cases c : (4611686018427387904 : Int) ≤ rn
      · exact absurd (Or.inl ((cmpz _ _).1.mpr c)) u
      · omega
    refine (s_So_evaluate (d := d + 1) (wt := wt) hS hcn hk hL hU hw h480 hr.1 (fun i hi => by rw [eR]; exact hWr i hi) hWs).mono (fun M70 q => ?_)
    have I70 := lo3_ev hI hcn hF0 oO hO q
    obtain ⟨⟨N70, S70, -, r70, -⟩, L70, U70, -, oc, mo, H70⟩ := id I70
    refine ⟨S70.1.1, S70.1.2.1.1.1, (s_So_improveOne (d := d + 1) S70 hcn hk L70 U70 r70 H70 (N70.oc hF0 oO) hO hW b1 hB).mono (fun x75 M74 q2 => ?_)⟩
    obtain ⟨x01, i74⟩ := q2
    have I74 := lo3_i1 I70 hcn hF0 oO i74
    exact ⟨m_b32 x01, I74.1.2.1.1.1, ih (rn + 1) x75 M74 (by omega) (by omega) x01 I74⟩
/-- the first of these rounds begins -/
theorem lo3_go (hI : loI L W s g a R k cn cc bc un wt M0 M) (hcn : cn ≤ k) (hz : s + 134 < mZ M) (ht : Ot L M s O n) (gr : gr1 s M M5 O n O' 2400) (S5 : Sva L W s g a R k cn cc bc M5) (T5 : Ot L M5 s O' 2400) (hO : s + 134 < O') (hP : loP s un O' M5 M') : lo3 L W s g a R k cn cc bc O' un wt M5 M' := by
  obtain ⟨-, hS, -, ⟨hr, ht1⟩, hL, hU, hw, -⟩ := hI
  obtain ⟨-, -, nv5, I5, R5, -⟩ := gr.kp hS hz ht
  obtain ⟨o', ff, ij, hH⟩ := hP
  have hF5 := S5.2.1.1
  have gs := S5.1.2.1.1.2
  have os := S5.2.2.1 s (Or.inl rfl)
  obtain ⟨nx, nvs⟩ := ff.nx (T := Tso s M5 R cn) (r := False) S5.1.1 o' hF5 (S5.tl hcn) (fun x u => by
    rcases u with u | u
    · rw [u]; exact os
    · rw [u]; exact T5.2.1) S5.z9
  obtain ⟨S', gi, eR⟩ := S5.nxg nx (fun i hi u => by omega) (nx.sk hF5 S5.2.1.2.1)
  have q' : NX L W (Tso s M5 R cn) (Co2 s M5 R cn O') True (s + 1) M5 M' := nx.mono hF5 (fun _ u => u) (S5.tl hcn) (fun x u => by
    rcases u with u | u
    · exact Or.inl (Or.inr (Or.inl (Or.inl u)))
    · exact Or.inr u) (fun x u => u.elim (S5.cl hcn x) (fun u => by rw [u]; exact T5.2.1)) (fun u => u.elim)
  have kp : ∀ x, x < mZ M → x ≠ s → x ≠ O' → mI M' x = mI M x := fun x a1 a2 a3 => by
    rw [ff.2.2.2.2.2.2 x (fun u => u.elim a2 a3)]
    exact I5 x a1
  have st : ∀ x, Stb s x → x ≠ s → mI M' x = mI M x := fun x hx nx => kp x (hS.2.2.1 x hx).1 nx (by unfold Stb at hx; omega)
  have e0 : mI M' s 10 = mI M s 10 := by
    rw [ij 10 (by decide) (by decide), I5 s (hS.2.2.1 s (Or.inl rfl)).1]
  have e2 := st (s + 122) st122.1 (by omega)
  have e3 := st (s + 123) st122.2.1 (by omega)
  have e5 := st (s + 125) st122.2.2 (by omega)
  have rows := hS.2.2.2.2.1.2.2.2.2.2
  refine ⟨⟨q', S', eR, ⟨fun i hi => ?_, fun i hi => ?_⟩, ?_⟩, lhs_same hL e2 e3, unk_cg hU e0 e2 e3 (st _ st124 (by omega)) e5 (st _ st126 (by omega)), fun i hi => ⟨wto_same (hw i hi).1 e2 e3 e5 ?_, (hw i hi).2⟩, hH⟩
  · have f := rows i (by omega)
    rw [eR, R5, nvs _ f.2.1, nvs _ f.2.2, nv5 _ f.2.1, nv5 _ f.2.2]
    exact hr i hi
  · have f := rows i (by omega)
    have hb := hS.2.2.2.2.2.1 i (by omega)
    rw [eR, R5, kp _ f.1.2.2 (by omega) (fun u => ?_)]
    · exact ht1 i hi
    · have kO := T5.1.2.1
      have k5 := (S5.2.2.2.2.1.2.2.2.2.2 i (by omega)).1.1
      rw [R5, u, kO] at k5
      exact absurd k5 (by decide)
  · rw [ff.2.2.2.2.2.2 (s + 30) (fun u => by omega)]
  · rw [gi 6 (by decide), I5 _ (hS.2.2.2.1 6 (by decide)).1]
/-- the rounds -/
theorem s_wo45 {Q : Int → mM → Prop} (hF0 : NF L W M0) (os0 : Oc L M0 s) (hz : s + 134 < mZ M0) (ht0 : Ot L M0 s O n) (hcn : cn ≤ k) (hk : k ≤ 512) (h480 : wsu wt un ≤ 480) (hWr : ∀ i, i < k → 17 ≤ W (mR M0 R i + 1) ∧ 17 ≤ W (mR M0 R i + 3)) (hWs : ∀ x, Trs (s + 31) x → 40 ≤ W x) (hW : ∀ x, Tat s x → B ≤ W x) (b1 : 300 ≤ B) (hB : B ≤ 16000)
    (hQ : ∀ (M4 M5 M6 M66 : mM) (O' n' : Nat), loI L W s g a R k cn cc bc un wt M0 M4 → gr1 s M4 M5 O n O' n' → lo2 L W s g a R k cn cc bc O' M5 M6 → M66 = mUI M6 a 1 1 → Q 0 M66) : ∀ (t rn : Nat) (bt : Int) (M : mM), 100 ≤ rn + t → rn ≤ 100 → (bt = 0 ∨ bt = 1) → loI L W s g a R k cn cc bc un wt M0 M → h_So_workOut_45 G (d + 7) s a bt rn M Q := by
  have ex : ∀ (bt : Int) (M : mM), (bt = 0 ∨ bt = 1) → loI L W s g a R k cn cc bc un wt M0 M → (((bt = 0) → (h_So_workOut_102 G (d + 7) s a bt 0 M Q)) ∧ (¬ (bt = 0) → (mK M s = 8 ∧ Cv G y_So_listOthers (d + 7) [vr s] M (fun M33 => mOk M33 ∧ (h_So_workOut_102 G (d + 7) s a bt 0 M33 Q))))) := fun bt M hb hI => by
    obtain ⟨hN, hS, eR, hr, hL, hU, hw, -⟩ := id hI
    have htM := ht0.nx hN hF0 os0
    have zM : s + 134 < mZ M := Nat.lt_of_lt_of_le hz hN.2.2.1.1.1
    refine ⟨fun b0 => ?_, fun b0 => ⟨hS.1.2.1.1.1, ?_⟩⟩
    · refine k_So_workOut_102 hS.1.1 (m_b32 hb) ⟨by decide, by decide⟩ ⟨fun _ => ⟨hS.2.2.2.2.1.1, fun M66 e66 => hQ M M M M66 O n hI (Or.inl ⟨rfl, rfl, rfl⟩) ⟨NX.refl hS.1.1 hS.2.1.1 (hS.tl hcn) (fun x u => u.elim (hS.cl hcn x) (fun u => by rw [u]; exact htM.2.1)) hS.z9, hS, rfl, hr, rfl⟩ e66⟩, fun u => absurd (Or.inr b0) u⟩
    · refine (s_So_listOthers (d := d + 5) hS zM hL hU htM).mono (fun M33 q => ?_)
      obtain ⟨M5, O', gr, S5, T5, hP⟩ := q
      have hO : s + 134 < O' := by
        rcases T5.2.2 with u | u
        · omega
        · exact u.1
      have eR5 : mR M5 R = mR M0 R := by rw [(gr.kp hS zM htM).2.2.2.2.1, eR]
      refine ⟨hP.1, ?_⟩
      show h_So_workOut_102 G (d + 7) s a bt ((0 : Nat) : Int) M33 Q
      exact s_wo102 (d := d) (wt := wt) (un := un) S5.2.1.1 hcn hk h480 (fun i hi => by rw [eR5]; exact hWr i hi) hWs hW b1 hB T5.2.1 hO (fun M6 M66 l2 e66 => hQ M M5 M6 M66 O' 2400 hI gr l2 e66) 4611686018427387904 0 bt M33 (by omega) (by omega) hb (lo3_go hI hcn zM htM gr S5 T5 hO hP)
  intro t
  induction t with
  | zero =>
    intro rn bt M h1 h2 hb hI
    have hS := hI.2.1
    exact k_So_workOut_45 hS.1.1 (m_b32 hb) ⟨by omega, by omega⟩ ⟨fun _ => ex bt M hb hI, fun u => absurd (Or.inl (by omega)) u⟩
  | succ t ih =>
    intro rn bt M h1 h2 hb hI
    obtain ⟨hN, hS, eR, hr, hL, hU, hw, -⟩ := id hI
    refine k_So_workOut_45 hS.1.1 (m_b32 hb) ⟨by omega, by omega⟩ ⟨fun _ => ex bt M hb hI, fun u => ⟨hS.1.2.1.1.1, ?_⟩⟩
    rw [show ((rn : Int) + 1) = ((rn + 1 : Nat) : Int) by omega]
    have rl : rn < 100 := by
      by_cases c : (100 : Int) ≤ rn
      · exact absurd (Or.inl c) u
      · omega
    refine (s_So_evaluate (d := d + 1) (wt := wt) hS hcn hk hL hU hw h480 hr.1 (fun i hi => by rw [eR]; exact hWr i hi) hWs).mono (fun M34 q => ?_)
    have I34 := lo_ev hI hcn q
    obtain ⟨-, S34, -, r34, L34, U34, -⟩ := id I34
    refine ⟨S34.1.1, S34.1.2.1.1.1, (s_So_improve (d := d) (pl := 2) ⟨by decide, by decide⟩ S34 hcn hk L34 U34 r34 (fun x hx => hW x (Or.inl hx)) b1 hB).mono (fun x39 M38 q2 => ?_)⟩
    obtain ⟨x01, im38⟩ := q2
    have I38 := lo_im I34 hcn im38
    obtain ⟨-, S38, -, r38, L38, U38, -⟩ := id I38
    refine ⟨m_b32 x01, S38.1.1, fun _ => ⟨S38.1.2.1.1.1, (s_So_improve (d := d) (pl := 1) ⟨by decide, by decide⟩ S38 hcn hk L38 U38 r38 (fun x hx => hW x (Or.inl hx)) b1 hB).mono (fun x46 M45 q3 => ?_)⟩, fun _ => ih (rn + 1) 1 M38 (by omega) (by omega) (Or.inr rfl) I38⟩
    obtain ⟨x01', im45⟩ := q3
    have I45 := lo_im I38 hcn im45
    exact ⟨m_b32 x01', I45.2.1.1.1, fun v49 e49 => ih (rn + 1) v49 M45 (by omega) (by omega) (by rw [e49]; split <;> omega) I45⟩
/-- the first part of workOut: tables alone have changed -/
def woI (L : List Nat) (W : Nat → Nat) (s g a R k cn cc bc : Nat) (M0 M : mM) : Prop := mOk M ∧ FI (Sta s a) M0 M ∧ Sva L W s g a R k cn cc bc M ∧ mI M (s + 30) = mI M0 (s + 30) ∧ mI M a 1 = 0
/-- what workOut leaves behind -/
def wkoQ (L : List Nat) (W : Nat → Nat) (s g a R k cn cc bc O n : Nat) (M0 : mM) (x : Int) (M' : mM) : Prop := ((x = 5 ∨ x = 6) ∧ woI L W s g a R k cn cc bc M0 M') ∨ (x = 0 ∧ ∃ M1 L' R' k' M2 M3 un wt M4 M5 O' n' M6, woI L W s g a R k cn cc bc M0 M1 ∧ Gw L W a M1 L' M2 ∧ Te L' W (s + 1) g a R' k' M2 ∧ ((M2 = M1 ∧ L' = L ∧ R' = R ∧ k' = k) ∨ rvG L M1 R k L' M2 R' k') ∧ (cn ≤ k' ∧ k ≤ k' ∧ k' ≤ 512) ∧ (∀ i, i < k → mR M2 R' i = mR M1 R i) ∧ (∀ i, k ≤ i → i < k' → mR M2 R' i = mZ M1 + 1 + 5 * (i - k) ∧ mI M2 (mZ M1 + 1 + 5 * (i - k)) 2 = 1) ∧ NL L' W (Trw M2 R' cn) (Irw M2 R' cn) False (s + 1) M2 M3 ∧ loI L' W s g a R' k' cn cc bc un wt M3 M4 ∧ gr1 s M4 M5 O n O' n' ∧ lo2 L' W s g a R' k' cn cc bc O' M5 M6 ∧ M' = mUI M6 a 1 1 ∧ mI M' (s + 30) = mI M0 (s + 30))
theorem s_So_workOut {kp : Int} (hkp : i32 kp) (h : Sva L W s g a R k cn cc bc M) (hot : Ot L M s O n) (hk : k ≤ 512) (hz : s + 134 < mZ M) (ht : Tld M g cn kp) (hWr : ∀ i, i < k → 17 ≤ W (mR M R i + 1) ∧ 17 ≤ W (mR M R i + 3)) (hWn : ∀ x, mZ M < x → 17 ≤ W x ∧ W x ≤ 20000) (hWs : ∀ x, Trs (s + 31) x → 40 ≤ W x) (hW : ∀ x, Tat s x → B ≤ W x) (b1 : 300 ≤ B) (hB : B ≤ 16000) : Ci G y_So_workOut (d + 8) [vr s, vi kp, vr a] M (fun x M' => wkoQ L W s g a R k cn cc bc O n M x M' ∧ (kp = 0 → kdT (xtm M g cn) → svA9 (xtm M g cn) x)) := by
  have gst : ∀ i, i ≤ 9 → ¬ Sta s a (g + i) := fun i hi => h.gst hi
  have nas : ∀ x, Stb s x → x ≠ a := fun x hx e => by
    have ka := h.2.2.2.2.1.1
    obtain ⟨⟨-, ⟨⟨s0, -⟩, -, ⟨k1, k2, k3, k4, k5, k6, k7, k8, k9⟩, -⟩, -⟩, -⟩ := id h
    rw [← e] at ka
    unfold Stb at hx
    rcases hx with u | u | u | u | u | u | u | u | u | u <;> rw [u] at ka <;> omega
  refine k_So_workOut h.1.1 hkp ⟨h.2.2.2.2.1.1, fun M2 e2 => ?_⟩
  have f2 : FI (Sta s a) M M2 := by rw [e2]; exact FI.ui (Or.inl rfl)
  have o2 : mOk M2 := by rw [e2]; exact mOk_UI h.1.1 ⟨by decide, by decide⟩
  have S2 := (h.fi f2 o2).1
  have g2 : ∀ i, i ≤ 9 → mI M2 (g + i) = mI M (g + i) := fun i hi => f2.2.2.2.2.2.2 _ (gst i hi)
  refine ⟨S2.1.2.1.1.1, (s_So_leaveCommands (d := d + 7) hkp S2.1 (fun h0 j hj e x y f1 f4 => ?_)).mono (fun M5 q => ?_)⟩
  · rw [g2 2 (by decide)] at e
    rw [g2 4 (by decide)] at f1 f4
    rw [g2 3 (by decide)]
    exact ht h0 j hj e x y f1 f4
  obtain ⟨f5, sg5, L5, X5⟩ := q
  have f5' : FI (Sta s a) M2 M5 := f5.mono (fun z u => Or.inr (u.elim (fun u => by rw [u]; exact st122.1) (fun u => by rw [u]; exact st122.2.1)))
  have S5 := (S2.fi f5' sg5.1).1
  refine ⟨sg5.1, sg5.2.1.1.1, (x_So_findUnknown (d := d + 5) sg5 L5).mono (fun x10 M9 q => ?_)⟩
  obtain ⟨un, ⟨f9, sg9, L9, U9, mb9, su9⟩, hres⟩ := q
  have x01 : x10 = 0 ∨ x10 = 1 := by
    rcases hres with ⟨u, -⟩ | ⟨u, -⟩
    · exact Or.inr u
    · exact Or.inl u
  have f9' : FI (Sta s a) M5 M9 := f9.mono (fun z u => Or.inr (by
    rcases u with u | u | u | u
    · exact Or.inl u
    · exact Or.inr (Or.inr (Or.inr (Or.inr (Or.inr (Or.inl u)))))
    · rw [u]; exact st122.2.2
    · rw [u]; exact st126))
  have S9 := (S5.fi f9' sg9.1).1
  have e30 : mI M9 (s + 30) = mI M (s + 30) := by
    rw [f9.2.2.2.2.2.2 (s + 30) (fun u => by unfold Sun at u; omega), f5.2.2.2.2.2.2 (s + 30) (fun u => by unfold S56 at u; omega)]
    funext j
    rw [mI_ui _ j e2, if_neg (fun u => nas (s + 30) st30 u.1)]
  have a56 : ¬ S56 s a := fun u => u.elim (fun u => nas (s + 122) st122.1 u.symm) (fun u => nas (s + 123) st122.2.1 u.symm)
  have aSn : ¬ Sun s a := fun u => by
    rcases u with u | u | u | u
    · exact nas s (Or.inl rfl) u.symm
    · exact nas (s + 124) (Or.inr (Or.inr (Or.inr (Or.inr (Or.inr (Or.inl rfl)))))) u.symm
    · exact nas (s + 125) st122.2.2 u.symm
    · exact nas (s + 126) st126 u.symm
  have fl0 : mI M9 a 1 = 0 := by rw [f9.2.2.2.2.2.2 a aSn, f5.2.2.2.2.2.2 a a56, mI_ui a 1 e2, if_pos ⟨rfl, rfl⟩]
  have I9 : woI L W s g a R k cn cc bc M M9 := ⟨sg9.1, (f2.trans f5').trans f9', S9, e30, fl0⟩
  have clt : kp = 0 → kdT (xtm M g cn) → ClT M9 s g cn (xtm M g cn) := fun k0 kd => by
    refine clt_of (M := M) h.1.2.2.2.2 (fun k hk => ?_) (fun i hi => I9.2.1.2.2.2.2.2.2 _ (gst i hi)) kd
    obtain ⟨a1, a2⟩ := X5 k0 k hk
    rw [f9.2.2.2.2.2.2 (s + 122) (fun u => by unfold Sun at u; omega), f9.2.2.2.2.2.2 (s + 123) (fun u => by unfold Sun at u; omega), ← g2 4 (by decide)]
    exact ⟨a1, a2⟩
  have cn5 : cn ≤ 512 := h.1.2.2.2.2.1.1
  refine ⟨m_b32 x01, sg9.1, fun z => ⟨Or.inl ⟨Or.inl rfl, I9⟩, fun k0 kd => ?_⟩, fun z => ⟨sg9.2.1.1.1, (x_So_weights (d := d + 6) sg9 L9 U9).mono (fun x16 M15 q => ?_)⟩⟩
  · rcases hres with ⟨u, -⟩ | ⟨-, e40, k9, hk9, k90, lo9, hi9, l91, l92, hco⟩
    · exact absurd (z.symm.trans u) (by decide)
    · subst e40
      exact cl_many (clt k0 kd) U9.2.2.1 cn5 mb9 su9 hk9 k90 l91 l92 hco (fun J' hc j a b => cl_inn (clt k0 kd) U9.2.2.1 cn5 mb9 hc j ⟨a, b⟩)
  have hno : noM M9 s g cn 0 := by
    rcases hres with ⟨-, u⟩ | ⟨u, -⟩
    · exact u
    · exact absurd u z
  obtain ⟨e15, wt, ew, hw0⟩ := q
  have hw : ∀ i, i < un → wtO M9 s g i (wt i) ∧ wt i ≤ 33 := fun i hi => ⟨(hw0 i hi).1.wto, (hw0 i hi).2⟩
  have few : ∀ r : Int, ((480 < ((wsu wt un : Nat) : Int) ∧ r = 6) ∨ (((wsu wt un : Nat) : Int) ≤ 480 ∧ r = 0)) → kp = 0 → kdT (xtm M g cn) → svA9 (xtm M g cn) r := fun r hr k0 kd => cl_few (clt k0 kd) U9.2.2.1 cn5 U9.2.1 mb9 su9 hno (fun i hi => by
    obtain ⟨k9, c9, lo9, hi9, q1, q2, -⟩ := U9.2.2.2 i hi
    exact ⟨k9, q1, q2⟩) (fun i hi => (hw0 i hi).1) hr
  have w33 : wsu wt un ≤ wsu (fun _ => 33) un := wsu_le un (fun i hi => (hw i hi).2)
  have w33' : ∀ n, wsu (fun _ => 33) n = 33 * n := fun n => by
    induction n with
    | zero => rfl
    | succ n ih => show wsu (fun _ => 33) n + 33 = _; rw [ih]; omega
  rw [w33'] at w33
  have u40 := U9.2.1
  rw [e15, ew]
  refine ⟨⟨by omega, by omega⟩, sg9.1, fun le => ⟨sg9.2.1.1.1, S9.2.2.2.2.1.1, ?_⟩, fun ng => ⟨Or.inl ⟨Or.inr rfl, I9⟩, few 6 (Or.inl ⟨Int.not_le.mp ng, rfl⟩)⟩⟩
  have z9 : mZ M9 = mZ M := I9.2.1.2.2.2.2.1
  have r3 : mR M9 s 3 = g := sg9.2.1.2.1.2.2.2.1
  rw [r3]
  refine (f_begin (d := d + 3) S9.te hk sg9.2.2.2.2.1.1 sg9.2.2.2.2.2.2.2 (fun x hx => by have := hWn x (by omega); omega)).mono (fun M22 q => ?_)
  obtain ⟨L', R', k', MB, gw, te, ⟨c1, c2⟩, gr', p1, p2, nb, bg, -⟩ := q
  have k5 : k' ≤ 512 := by
    rcases gr' with ⟨-, -, -, e⟩ | ⟨-, e, -⟩ <;> omega
  have z133 : s + 134 < mZ M9 := by rw [z9]; exact hz
  have row' : ∀ i, i < k' → s + 134 < mR MB R' i := fun i hi => by
    by_cases c : i < k
    · rw [p1 i c]; exact S9.2.2.2.2.2.1 i c
    · rw [(p2 i (by omega) hi).1]; omega
  obtain ⟨SB, stB, giB⟩ := S9.gw gw te row'
  have FB := SB.2.1.1
  have nbx : NX L' W (Tso s MB R' cn) (Cso s MB R' cn) False (s + 1) MB M22 := (nb.nx FB).mono FB (fun _ u => Or.inr (Or.inr (Or.inr u))) (SB.tl c1) (fun _ u => Or.inr (Or.inr (Or.inr (Or.inr (Or.inr u))))) (SB.cl c1) (fun u => u)
  obtain ⟨S22, gi22, eR22⟩ := SB.nx c1 nbx (nb.sk FB SB.2.1.2.1)
  have st22 : ∀ x, Stb s x → mI M22 x = mI M9 x := fun x hx => by
    have ne : x ≠ s + 1 := by unfold Stb at hx; omega
    rw [((nb.nx FB).oth (SB.2.2.1 x hx) ne).2.2.2 (fun ⟨i, hi, u⟩ => by
      have := row' i (by omega)
      unfold Stb at hx
      omega), stB x hx]
  have e2' := st22 (s + 122) st122.1
  have e3' := st22 (s + 123) st122.2.1
  have e5' := st22 (s + 125) st122.2.2
  have I22 : loI L' W s g a R' k' cn cc bc un wt M22 M22 := by
    refine ⟨NX.refl nb.ok S22.2.1.1 (S22.tl c1) (S22.cl c1) S22.z9, S22, rfl, ⟨fun i hi => ?_, fun i hi => (bg i hi).2.2⟩, lhs_same L9 e2' e3', unk_same U9 (fun x hx _ => st22 x hx) (st22 (s + 126) st126), fun i hi => ⟨wto_same (hw i hi).1 e2' e3' e5' (by rw [gi22 6 (by decide), giB 6 (by decide)]), (hw i hi).2⟩, rfl⟩
    obtain ⟨b1', b3', -⟩ := bg i hi
    have p1' : (1 : Int) < 2 ^ (30 * 17) := Int.lt_of_lt_of_le (show (1 : Int) < 2 ^ (30 * 1) by decide) (p30m (by decide))
    rw [b3']
    exact ⟨by decide, p1', by rcases b1' with e | e <;> rw [e] <;> omega⟩
  have wr' : ∀ i, i < k' → 17 ≤ W (mR M22 R' i + 1) ∧ 17 ≤ W (mR M22 R' i + 3) := fun i hi => by
    rw [eR22]
    by_cases c : i < k
    · rw [p1 i c, I9.2.1.2.2.1]; exact hWr i c
    · rw [(p2 i (by omega) hi).1]
      exact ⟨(hWn _ (by omega)).1, (hWn _ (by omega)).1⟩
  have otB := (hot.fi I9.2.1).gw gw (nas s (Or.inl rfl)) (S9.2.2.1 s (Or.inl rfl)).1
  have ot22 : Ot L' M22 s O n := otB.nx nbx FB (SB.2.2.1 s (Or.inl rfl))
  have zB : mZ M9 ≤ mZ MB := gw.2.2.2.2.1.1.1
  have z22 : s + 134 < mZ M22 := Nat.lt_of_lt_of_le (Nat.lt_of_lt_of_le z133 zB) nbx.2.2.1.1.1
  refine ⟨nb.ok, s_wo45 (d := d) (wt := wt) (un := un) S22.2.1.1 (S22.2.2.1 s (Or.inl rfl)) z22 ot22 c1 k5 (by omega) wr' hWs hW b1 hB (fun M4 M5 M6 M30 O' n' hI gr l2 e30' => ?_) 100 0 1 M22 (by omega) (by omega) (Or.inr rfl) I22⟩
  refine ⟨Or.inr ⟨rfl, M9, L', R', k', MB, M22, un, wt, M4, M5, O', n', M6, I9, gw, te, gr', ⟨c1, c2, k5⟩, p1, p2, nb, hI, gr, l2, e30', ?_⟩, few 0 (Or.inr ⟨le, rfl⟩)⟩
  have hS4 := hI.2.1
  have z4 : s + 134 < mZ M4 := Nat.lt_of_lt_of_le z22 hI.1.2.2.1.1.1
  have I5 := (gr.kp hS4 z4 (ot22.nx hI.1 S22.2.1.1 (S22.2.2.1 s (Or.inl rfl)))).2.2.2.1
  funext j
  rw [mI_ui _ j e30', if_neg (fun u => nas (s + 30) st30 u.1), l2.2.2.2.2, I5 _ (hS4.2.2.1 _ st30).1, hI.2.2.2.2.2.2.2, st22 (s + 30) st30, e30]
end NBZ
end
section
/-! The class's top: division by 0, whole parts, digits. -/
section NCA
variable {G : mG} {d a b q e z n s x t pr st : Nat} {M M0 M' M1 M2 M3 : mM} {L : List Nat} {W : Nat → Nat}
theorem f_divide0 (hO : mOk M) (hF : NF L W M) (hb : b ∈ L) (hq : q ∈ L) (bq : b ≠ q) (hb0 : nv M b = 0) : Cv G y_Na_divide (d + 3) [vr a, vr b, vr q, vr e] M (fun M' => NC L W (fun x => x = q) M M' ∧ nv M' q = 0) := by
  refine k_Na_divide hO ⟨hF.kd hq, (f_put0 (d := d + 2) ⟨by decide, by decide⟩ hO hF hq).mono (fun M2 k2 => ?_)⟩
  obtain ⟨c1, v1⟩ := k2
  have F1 := c1.nf
  have z0 : sz M2 b = 0 := (F1.sz0 hb).2 (by rw [c1.v hF hb bq]; exact hb0)
  have tb := F1.nt hb
  rw [tb.2.1, z0]
  exact ⟨c1.ok, F1.kd hb, fun u => absurd rfl u, fun _ => ⟨c1, v1⟩, fun u => absurd (Or.inl rfl) u⟩
/-- how often a divisor is in a number, 0 for a divisor of 0 -/
theorem f_wholePartZ (hO : mOk M) (hF : NF L W M) (hS : SK L M z) (ha : a ∈ L) (hb : b ∈ L) (ab : a ≠ b) (na : ¬ T4 z a) (nb : ¬ T4 z b) (wa : sz M a + 2 ≤ W a) (w5 : sz M a + 1 ≤ W (z + 5)) (w7 : sz M b + 1 ≤ W (z + 7)) : Ci G y_Sc_wholePart (d + 4) [vr z, vr a, vr b] M (fun x M' => NC L W (fun x => x = a ∨ x = z + 5 ∨ x = z + 7) M M' ∧ 0 ≤ x ∧ x < 1073741824) := by
  by_cases b0 : 0 < nv M b
  · exact (f_wholePart (d := d) hO hF hS ha hb ab na nb b0 wa w5 w7).mono (fun x M' k => ⟨k.1, k.2.2.1, k.2.2.2.1⟩)
  · have z0 : nv M b = 0 := by have := hF.nn0 hb; omega
    obtain ⟨⟨k1, k1'⟩, ⟨-, -, r2, r3, -⟩, -, -, -, ⟨-, -, m5, m7, -⟩, -⟩ := id hS
    have b5 : b ≠ z + 5 := fun e => nb (Or.inr (Or.inr (Or.inl e)))
    refine k_Sc_wholePart hO ?_
    rw [r2, r3]
    refine ⟨k1, hF.kd ha, (f_divide0 (d := d) hO hF hb m5 b5 z0).mono (fun M3 k => ?_)⟩
    obtain ⟨c, v⟩ := k
    have hF3 := c.nf
    have hS3 := (c.nl (I := fun _ => False) (r := False) noI hS.z9).sk hF hS
    obtain ⟨⟨j1, -⟩, ⟨-, -, j2, -⟩, -⟩ := id hS3
    have t5 := hF3.nt m5
    have q0 : sz M3 (z + 5) = 0 := (hF3.sz0 m5).2 v
    rw [j2, t5.2.1, q0]
    refine ⟨c.ok, j1, hF3.kd m5, fun u => absurd rfl u, fun v11 e11 => ?_⟩
    rw [if_pos (show ((0 : Nat) : Int) = 0 from rfl)] at e11
    rw [e11]
    refine ⟨c.mono (fun t ht => Or.inr (Or.inl ht)) (fun t ht => ?_) hF, by decide, by decide⟩
    rcases ht with u | u | u
    · rw [u]; exact ha
    · rw [u]; exact m5
    · rw [u]; exact m7
theorem i2c_b (x : Int) (h : 48 ≤ x ∧ x < 58) : 0 ≤ i2cI x ∧ i2cI x < 65536 := by
  obtain ⟨n, hn, e⟩ : ∃ n : Nat, n < 58 ∧ x = ((n : Nat) : Int) := ⟨x.toNat, by omega, by omega⟩
  have : ∀ n : Nat, n < 58 → 0 ≤ i2cI ((n : Nat) : Int) ∧ i2cI ((n : Nat) : Int) < 65536 := by decide
  rw [e]
  exact this n hn
/-- printed characters -/
def Pch (M : mM) (pr : Nat) : Prop := ∀ j, j < 400 → 0 ≤ mI M pr j ∧ mI M pr j < 65536
/-- the printer's places: t the object, pr its characters, n its number -/
def Prt (L : List Nat) (M : mM) (t pr n : Nat) : Prop := (mK M t = 1 ∧ mR M t 15 = n ∧ mR M t 17 = pr) ∧ (mK M pr = 32 ∧ mN M pr = 400) ∧ (Oc L M t ∧ Oc L M pr ∧ t ≠ pr) ∧ n ∈ L ∧ Pch M pr
def Cpr (t pr x : Nat) : Prop := x = t ∨ x = pr
/-- while digits are printed: at most p characters -/
def pnI (L : List Nat) (W : Nat → Nat) (z t pr n p : Nat) (M0 M : mM) : Prop := NX L W (fun x => x = n) (Cpr t pr) False z M0 M ∧ Prt L M t pr n ∧ ∃ c : Nat, mI M t 18 = ((c : Nat) : Int) ∧ c ≤ p ∧ ∀ i, i ≠ 18 → mI M t i = mI M0 t i
theorem Prt.nx (h : Prt L M t pr n) (q : NX L W (fun x => x = n) (Cpr t pr) False z M M') (hF : NF L W M) (nz : t ≠ z ∧ pr ≠ z) (hp : Pch M' pr) : Prt L M' t pr n := by
  obtain ⟨⟨h1, h2, h3⟩, ⟨h4, h5⟩, ⟨h6, h7, h8⟩, h9, -⟩ := h
  have ot := q.oth h6 nz.1
  have op := q.oth h7 nz.2
  exact ⟨⟨by rw [ot.1]; exact h1, by rw [ot.2.2.1]; exact h2, by rw [ot.2.2.1]; exact h3⟩, ⟨by rw [op.1]; exact h4, by rw [op.2.1]; exact h5⟩, ⟨q.oc hF h6, q.oc hF h7, h8⟩, h9, hp⟩
theorem Prt.cl (h : Prt L M t pr n) : ∀ x, Cpr t pr x → Oc L M x := fun x u => u.elim (fun u => by rw [u]; exact h.2.2.1.1) (fun u => by rw [u]; exact h.2.2.1.2.1)
theorem Prt.tl (h : Prt L M t pr n) : ∀ x, (fun x => x = n) x → x ∈ L := fun x u => by rw [u]; exact h.2.2.2.1
/-- a character is printed -/
theorem pn_put {p : Nat} {v : Int} {c : Nat} (hI : pnI L W z t pr n p M0 M) (nz : t ≠ z ∧ pr ≠ z) (hz : z < mZ M ∧ mK M z = 9) (hc : mI M t 18 = ((c : Nat) : Int)) (hcp : c ≤ p) (hp : p + 1 ≤ 400) (e1 : M1 = mUI M t 18 (((c : Nat) : Int) + 1)) (hv : 0 ≤ v ∧ v < 65536) (e2 : M2 = mUI M1 pr c v) : pnI L W z t pr n (p + 1) M0 M2 ∧ (∀ b, b ∈ L → nv M2 b = nv M b) := by
  obtain ⟨hN, hP, c0, -, -, oi⟩ := hI
  obtain ⟨⟨h1, h2, h3⟩, ⟨h4, h5⟩, ⟨h6, h7, h8⟩, h9, h10⟩ := id hP
  have f1 : FI (Cpr t pr) M M1 := by rw [e1]; exact FI.ui (Or.inl rfl)
  have f2 : FI (Cpr t pr) M1 M2 := by rw [e2]; exact FI.ui (Or.inr rfl)
  have o2 : mOk M2 := by rw [e2]; exact mOk_UI (by rw [e1]; exact mOk_UI hN.ok ⟨by omega, by omega⟩) ⟨by omega, by omega⟩
  have ff := f1.trans f2
  obtain ⟨x, v'⟩ := ff.nx (T := fun x => x = n) (r := False) (z := z) o2 hN.nf hP.tl hP.cl hz
  have pp : Pch M2 pr := fun j hj => by
    rw [mI_ui pr j e2]
    by_cases cj : pr = pr ∧ j = c
    · rw [if_pos cj]; exact hv
    · rw [if_neg cj, mI_ui pr j e1, if_neg (fun u => h8 u.1.symm)]; exact h10 j hj
  have ti : ∀ i, mI M2 t i = if i = 18 then ((c : Nat) : Int) + 1 else mI M t i := fun i => by
    rw [mI_ui t i e2, if_neg (fun u => h8 u.1), mI_ui t i e1]
    by_cases ci : i = 18
    · rw [if_pos ⟨rfl, ci⟩, if_pos ci]
    · rw [if_neg (fun u => ci u.2), if_neg ci]
  exact ⟨⟨hN.trans x, hP.nx x hN.nf nz pp, c + 1, by rw [ti, if_pos rfl]; omega, by omega, fun i hi => by rw [ti, if_neg hi]; exact oi i hi⟩, v'⟩
end NCA
end
section
/-! The class's top: a number is printed. -/
section NCB
variable {G : mG} {d a b z n x t pr st p : Nat} {M M0 M' M1 M2 M3 : mM} {L : List Nat} {W : Nat → Nat}
theorem NX.z9 {T C : Nat → Prop} {r : Prop} (h : NX L W T C r z M M') : z < mZ M' ∧ mK M' z = 9 := ⟨Nat.lt_of_lt_of_le h.2.1.2.2.1 h.2.2.1.1.1, by rw [h.kind h.2.1.2.2.1]; exact h.2.1.2.2.2⟩
/-- turning the characters round -/
theorem s_pn144 {Q : mM → Prop} (nz : t ≠ z ∧ pr ≠ z) (hQ : ∀ M', pnI L W z t pr n p M0 M' → Q M') : ∀ (k : Nat) (lo hi : Int) (M : mM), hi - lo ≤ k → 0 ≤ lo → lo < 400 → -1 ≤ hi → hi < 400 → pnI L W z t pr n p M0 M → h_CA_printNumber_144 G d t lo hi M Q := by
  intro k
  induction k with
  | zero =>
    intro lo hi M h1 h2 h2' h3 h4 hI
    exact k_CA_printNumber_144 hI.1.ok ⟨by omega, by omega⟩ ⟨by omega, by omega⟩ ⟨fun _ => hQ M hI, fun u => absurd (by omega) u⟩
  | succ k ih =>
    intro lo hi M h1 h2 h2' h3 h4 hI
    refine k_CA_printNumber_144 hI.1.ok ⟨by omega, by omega⟩ ⟨by omega, by omega⟩ ⟨fun _ => hQ M hI, fun u => ?_⟩
    obtain ⟨hN, hP, c, hc, hcp, oi⟩ := id hI
    obtain ⟨⟨e1, e2, e3⟩, ⟨k1, n1⟩, ⟨o1, o2, ne⟩, mn, hp⟩ := id hP
    obtain ⟨l, el⟩ : ∃ l : Nat, lo = ((l : Nat) : Int) := ⟨lo.toNat, by omega⟩
    obtain ⟨h, eh⟩ : ∃ h : Nat, hi = ((h : Nat) : Int) := ⟨hi.toNat, by omega⟩
    subst el
    subst eh
    have pl := hp l (by omega)
    have ph := hp h (by omega)
    rw [e3, n1, Int.toNat_natCast, Int.toNat_natCast]
    refine ⟨e1, k1, ⟨by omega, by omega⟩, ⟨by omega, by omega⟩, ⟨by omega, by omega⟩, ph, fun M70 e70 => ?_⟩
    have f70 : FI (Cpr t pr) M M70 := by rw [e70]; exact FI.ui (Or.inr rfl)
    rw [f70.1, f70.2.1, f70.2.2.1, e3, n1]
    refine ⟨k1, ⟨by omega, by omega⟩, pl, fun M75 e75 => ?_⟩
    have f75 : FI (Cpr t pr) M70 M75 := by rw [e75]; exact FI.ui (Or.inr rfl)
    have o75 : mOk M75 := by rw [e75]; exact mOk_UI (by rw [e70]; exact mOk_UI hN.ok ⟨by omega, by omega⟩) ⟨by omega, by omega⟩
    obtain ⟨xx, -⟩ := (f70.trans f75).nx (T := fun x => x = n) (r := False) (z := z) o75 hN.nf hP.tl hP.cl hN.z9
    have pp : Pch M75 pr := fun j hj => by
      rw [mI_ui pr j e75]
      by_cases cj : pr = pr ∧ j = h
      · rw [if_pos cj]; exact pl
      · rw [if_neg cj, mI_ui pr j e70]
        by_cases cj2 : pr = pr ∧ j = l
        · rw [if_pos cj2]; exact ph
        · rw [if_neg cj2]; exact hp j hj
    have tt : mI M75 t = mI M t := by
      funext i
      rw [mI_ui t i e75, if_neg (fun u => ne u.1), mI_ui t i e70, if_neg (fun u => ne u.1)]
    exact ih _ _ M75 (by omega) (by omega) (by omega) (by omega) (by omega) ⟨hN.trans xx, hP.nx xx hN.nf nz pp, c, by rw [tt]; exact hc, hcp, fun i hi => by rw [tt]; exact oi i hi⟩
/-- nine digits -/
theorem s_pn68 {Q : mM → Prop} {l2 l3 : Int} {b5 : Int} {v : Int} (h2 : i32 l2) (h3 : i32 l3) (h5 : b5 = 0 ∨ b5 = 1) (nz : t ≠ z ∧ pr ≠ z) (hp : p + 9 ≤ 400) (hQ : ∀ M', pnI L W z t pr n (p + 9) M0 M' → nv M' n = v → h_CA_printNumber_15 G d t l2 (l3 + 1) M' Q) : ∀ (k i : Nat) (nine : Int) (M : mM), 9 ≤ i + k → i ≤ 9 → 0 ≤ nine → nine < 1000000000 → pnI L W z t pr n (p + i) M0 M → nv M n = v → h_CA_printNumber_68 G d t l2 l3 nine b5 i M Q := by
  have up : ∀ {i : Nat} {M : mM}, i ≤ 9 → pnI L W z t pr n (p + i) M0 M → pnI L W z t pr n (p + 9) M0 M := fun hi h => by
    obtain ⟨a1, a2, c, a3, a4, a5⟩ := h
    exact ⟨a1, a2, c, a3, by omega, a5⟩
  intro k
  induction k with
  | zero =>
    intro i nine M h1 h2' h6 h7 hI hv
    exact k_CA_printNumber_68 hI.1.ok h2 h3 ⟨by omega, by omega⟩ (m_b32 h5) ⟨by omega, by omega⟩ ⟨fun _ => hQ M (up h2' hI) hv, fun u => absurd (Or.inl (by omega)) u⟩
  | succ k ih =>
    intro i nine M h1 h2' h6 h7 hI hv
    refine k_CA_printNumber_68 hI.1.ok h2 h3 ⟨by omega, by omega⟩ (m_b32 h5) ⟨by omega, by omega⟩ ⟨fun _ => hQ M (up h2' hI) hv, fun u => ?_⟩
    have i9 : i < 9 := by
      by_cases c : (9 : Int) ≤ i
      · exact absurd (Or.inl c) u
      · omega
    obtain ⟨hN, hP, c, hc, hcp, oi⟩ := id hI
    obtain ⟨⟨e1, e2, e3⟩, ⟨k1, n1⟩, ⟨o1, o2, ne⟩, mn, hp'⟩ := id hP
    have tm : Int.tmod nine 10 = nine % 10 := Int.tmod_eq_emod_of_nonneg h6
    have td : Int.tdiv nine 10 = nine / 10 := Int.tdiv_eq_ediv_of_nonneg h6
    rw [hc, e3, tm, td]
    have cb := i2c_b (48 + nine % 10) ⟨by omega, by omega⟩
    refine ⟨e1, ⟨by omega, by omega⟩, fun M46 e46 => ?_⟩
    have f46 : FI (Cpr t pr) M M46 := by rw [e46]; exact FI.ui (Or.inl rfl)
    rw [f46.1, f46.2.1, n1, Int.toNat_natCast]
    refine ⟨k1, ⟨by omega, by omega⟩, cb, fun M51 e51 => ?_⟩
    obtain ⟨I2, v2⟩ := pn_put hI nz hN.z9 hc hcp (by omega) e46 cb e51
    rw [show ((i : Int) + 1) = ((i + 1 : Nat) : Int) by omega]
    exact ih (i + 1) _ M51 (by omega) (by omega) (by omega) (by omega) I2 (by rw [v2 n mn]; exact hv)
theorem p9 (k : Nat) : (1000000000 : Int) ^ (k + 1) = 1000000000 * 1000000000 ^ k := by rw [Int.pow_succ, Int.mul_comm]
/-- the digits of a number, from the place st on -/
theorem s_CA_printNumber (hO : mOk M) (hF : NF L W M) (hP : Prt L M t pr n) (nz : t ≠ z ∧ pr ≠ z) (hz : z < mZ M ∧ mK M z = 9) (ha : a ∈ L) (na : n ≠ a) (hv : nv M a < 2 ^ (30 * 17)) (wn : 17 ≤ W n) (hs : mI M t 18 = ((st : Nat) : Int)) (hst : st + 162 ≤ 400) : Cv G y_CA_printNumber (d + 2) [vr t, vr a] M (pnI L W z t pr n (st + 162) M) := by
  obtain ⟨⟨e1, e2, e3⟩, ⟨k1, n1⟩, ⟨o1, o2, ne⟩, mn, hp⟩ := id hP
  refine k_CA_printNumber hO ?_
  rw [e2]
  refine ⟨e1, hF.kd mn, (f_put1 (d := d) hO hF mn ha na (by have := hF.szv ha hv; omega)).mono (fun M3 q => ?_)⟩
  obtain ⟨c3, v3⟩ := q
  have x3 : NX L W (fun x => x = n) (Cpr t pr) False z M M3 := c3.nx hP.cl hz
  have ot := c3.oth o1
  have op := c3.oth o2
  have P3 : Prt L M3 t pr n := hP.nx x3 hF nz (fun j hj => by rw [op.2.2.2]; exact hp j hj)
  have hs3 : mI M3 t 18 = ((st : Nat) : Int) := by rw [ot.2.2.2]; exact hs
  have big : (2 : Int) ^ (30 * 17) ≤ 1000000000 ^ 18 := by decide +kernel
  rw [hs3]
  refine ⟨c3.ok, P3.1.1, ?_⟩
  suffices HH : ∀ (k i : Nat) (M1 : mM), 18 ≤ i + k → i ≤ 18 → pnI L W z t pr n (st + 9 * i) M M1 → nv M1 n < 1000000000 ^ (18 - i) → h_CA_printNumber_15 G (d + 1) t st i M1 (pnI L W z t pr n (st + 162) M) from
    HH 18 0 M3 (by omega) (by omega) ⟨x3, P3, st, hs3, by omega, fun i _ => by rw [ot.2.2.2]⟩ (by rw [v3]; exact Int.lt_of_lt_of_le hv big)
  have up : ∀ {i : Nat} {M : mM} {M0 : mM}, i ≤ 18 → pnI L W z t pr n (st + 9 * i) M0 M → pnI L W z t pr n (st + 162) M0 M := fun hi h => by
    obtain ⟨a1, a2, c, a3, a4, a5⟩ := h
    exact ⟨a1, a2, c, a3, by omega, a5⟩
  have turn : ∀ (i : Nat) (M1 : mM), i ≤ 18 → pnI L W z t pr n (st + 9 * i) M M1 → mK M1 t = 1 ∧ h_CA_printNumber_144 G (d + 1) t st ((mI M1 t 18) - 1) M1 (pnI L W z t pr n (st + 162) M) := fun i M1 hi hI => by
    have hI' := up hi hI
    obtain ⟨-, hP1, c, hc, hcp, -⟩ := id hI'
    rw [hc]
    exact ⟨hP1.1.1, s_pn144 nz (fun M' h => h) 400 _ _ M1 (by omega) (by omega) (by omega) (by omega) (by omega) hI'⟩
  intro k
  induction k with
  | zero =>
    intro i M1 h1 h2 hI hv1
    have ei : i = 18 := by omega
    subst ei
    obtain ⟨hN, hP1, -⟩ := id hI
    have m1 := hP1.2.2.2.1
    have z0 : sz M1 n = 0 := (hN.nf.sz0 m1).2 (by
      have := hN.nf.nn0 m1
      have h0 : (1000000000 : Int) ^ (18 - 18) = 1 := by decide
      omega)
    refine k_CA_printNumber_15 hN.ok ⟨by omega, by omega⟩ ⟨by omega, by omega⟩ ?_
    rw [hP1.1.2.1, (hN.nf.nt m1).2.1, z0]
    exact ⟨fun _ _ => ⟨hP1.1.1, hN.nf.kd m1⟩, fun _ => turn 18 M1 (Nat.le_refl _) hI, fun u => absurd (Or.inr ⟨by decide, by decide⟩) u⟩
  | succ k ih =>
    intro i M1 h1 h2 hI hv1
    by_cases ei : i = 18
    · exact ih i M1 (by omega) h2 hI hv1
    obtain ⟨hN, hP1, -⟩ := id hI
    have m1 := hP1.2.2.2.1
    refine k_CA_printNumber_15 hN.ok ⟨by omega, by omega⟩ ⟨by omega, by omega⟩ ?_
    rw [hP1.1.2.1]
    refine ⟨fun _ _ => ⟨hP1.1.1, hN.nf.kd m1⟩, fun _ => turn i M1 h2 hI, fun _ => ⟨hP1.1.1, hN.nf.kd m1, (f_divideSmall (d := d + 1) (dv := 1000000000) ⟨by decide, by decide⟩ hN.ok hN.nf m1).mono (fun x19 M18 q => ?_)⟩⟩
    obtain ⟨c18, hx, v18⟩ := q
    have x18 : NX L W (fun x => x = n) (Cpr t pr) False z M1 M18 := c18.nx hP1.cl hN.z9
    have ot1 := c18.oth hP1.2.2.1.1
    have op1 := c18.oth hP1.2.2.1.2.1
    have P18 : Prt L M18 t pr n := hP1.nx x18 hN.nf nz (fun j hj => by rw [op1.2.2.2]; exact hP1.2.2.2.2 j hj)
    have n18 := c18.nf.nn0 m1
    have vb : nv M18 n < 1000000000 ^ (18 - (i + 1)) := by
      rw [show 18 - i = (18 - (i + 1)) + 1 by omega, p9] at hv1
      omega
    have I18 : pnI L W z t pr n (st + 9 * i) M M18 := by
      obtain ⟨-, -, c, hc, hcp, oi⟩ := hI
      exact ⟨hN.trans x18, P18, c, by rw [ot1.2.2.2]; exact hc, hcp, fun j hj => by rw [ot1.2.2.2]; exact oi j hj⟩
    rw [P18.1.2.1]
    refine ⟨⟨by omega, by omega⟩, c18.ok, P18.1.1, c18.nf.kd m1, fun v24 e24 => ?_⟩
    have b24 : v24 = 0 ∨ v24 = 1 := by rw [e24]; split <;> omega
    refine s_pn68 (p := st + 9 * i) (v := nv M18 n) ⟨by omega, by omega⟩ ⟨by omega, by omega⟩ b24 nz (by omega) (fun M' hI' hv' => ?_) 9 0 x19 M18 (by omega) (by omega) hx.1 hx.2 I18 rfl
    rw [show ((i : Int) + 1) = ((i + 1 : Nat) : Int) by omega]
    exact ih (i + 1) M' (by omega) (by omega) (by rw [show st + 9 * (i + 1) = st + 9 * i + 9 by omega]; exact hI') (by rw [hv']; exact vb)
end NCB
end
