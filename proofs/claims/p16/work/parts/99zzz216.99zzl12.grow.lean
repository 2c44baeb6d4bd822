/-! The class's Solver: small steps and growth keep it. -/
section NBY
variable {G : mG} {d s g a R R' cn cc bc i k k' n c un x y B : Nat} {M M0 M' M1 M2 M3 : mM} {L L' : List Nat} {W : Nat → Nat} {S : Nat → Prop}
theorem Oc.fi (h : Oc L M x) (f : FI S M M') : Oc L M' x := ⟨by rw [f.2.2.2.2.1]; exact h.1, h.2.1, fun a ha u => h.2.2 a ha (by rw [← f.2.2.1]; exact u)⟩
theorem FrL.fi (h : FrL L M x) (f : FI S M M') : FrL L M' x := by
  obtain ⟨⟨h1, h2, h3⟩, h4⟩ := h
  exact ⟨⟨by rw [f.1]; exact h1, by rw [f.2.2.1]; exact h2, by rw [f.2.2.2.2.1]; exact h3⟩, h4⟩
/-- tables and the mark of a table of fractions -/
def Sta (s a x : Nat) : Prop := x = a ∨ Stb s x
theorem Sva.sta (h : Sva L W s g a R k cn cc bc M) : ∀ x, Sta s a x → Oc L M x := fun x u => u.elim (fun u => by rw [u]; exact h.2.2.2.2.1.2.2.2.2.1.1) (h.2.2.1 x)
theorem Sva.gst (h : Sva L W s g a R k cn cc bc M) (hi : i ≤ 9) : ¬ Sta s a (g + i) := by
  have gs := h.1.2.1.1.2
  have ka := h.2.2.2.2.1.1
  intro u
  rcases u with u | u
  · have := h.1.2.2.1.kd hi
    by_cases e : i = 0
    · have g0 := h.1.2.2.1.1
      rw [e, Nat.add_zero] at u
      rw [u, ka] at g0
      omega
    · have g0 := h.1.2.2.1.2.2.1 i (by omega) hi
      rw [u, ka] at g0
      omega
  · unfold Stb at u
    omega
/-- ints of the Solver's own tables change -/
theorem Sva.fi (h : Sva L W s g a R k cn cc bc M) (f : FI (Sta s a) M M') (o : mOk M') : Sva L W s g a R k cn cc bc M' ∧ (∀ b, b ∈ L → nv M' b = nv M b) ∧ ∀ i, i < k → mI M' (mR M R i) = mI M (mR M R i) := by
  have gst : ∀ i, i ≤ 9 → ¬ Sta s a (g + i) := fun i hi => h.gst hi
  have sta := h.sta
  obtain ⟨hg, ⟨hF, hSK, hRs, hfw⟩, hSt, hgo, ⟨t1, t2, t3, t4, ⟨t5, t6⟩, t7⟩, hrow, hD⟩ := id h
  obtain ⟨xx, v⟩ := f.nx (T := Tat s) (r := False) (z := s + 1) o hF h.tat sta h.z9
  refine ⟨⟨hg.fi f o gst, ⟨xx.nf, xx.sk hF hSK, ?_, hfw.fi f⟩, fun x hx => (hSt x hx).fi f, fun i hi => (hgo i hi).fi f, ⟨by rw [f.1]; exact t1, by rw [f.2.2.1]; exact t2, by rw [f.1]; exact t3, by rw [f.2.1]; exact t4, ⟨t5.fi f, t6.fi f⟩, fun i hi => by rw [f.2.2.1]; exact (t7 i hi).fi f⟩, fun i hi => by rw [f.2.2.1]; exact hrow i hi, fun i j hi hj ij => by rw [f.2.2.1]; exact hD i j hi hj ij⟩, v, fun i hi => ?_⟩
  · obtain ⟨r1, r2, r3, r4⟩ := hRs
    exact ⟨r1.fi f, fun i hi => (r2 i hi).fi f, fun i hi => by rw [f.2.2.1]; exact r3 i hi, r4⟩
  · refine f.2.2.2.2.2.2 _ (fun u => ?_)
    have k11 := (t7 i hi).1.1
    have hb := hrow i hi
    rcases u with u | u
    · rw [u, t1] at k11; omega
    · unfold Stb at u; omega
/-- the table grows -/
theorem Sva.gw (h : Sva L W s g a R k cn cc bc M) (hg : Gw L W a M L' M') (hT : Te L' W (s + 1) g a R' k' M') (hrow : ∀ i, i < k' → s + 134 < mR M' R' i) : Sva L' W s g a R' k' cn cc bc M' ∧ (∀ x, Stb s x → mI M' x = mI M x) ∧ ∀ i, i ≤ 9 → mI M' (g + i) = mI M (g + i) := by
  obtain ⟨⟨o, ⟨s0, sr, sk, sn⟩, hG, ⟨g3, n3⟩, hGT⟩, ⟨hF, hSK, hRs, hfw⟩, hSt, hgo, ⟨t1, -⟩, -, -⟩ := id h
  have gg := hg
  obtain ⟨o', ⟨-, hF'⟩, l1, l2, f, na, ka⟩ := hg
  obtain ⟨-, ⟨hG', hgo'⟩, hRT, -, hD'⟩ := id hT
  have gi := (gg.gk ⟨hG, hgo⟩).2
  have ns : ∀ x, mK M x ≠ 13 → x ≠ a := fun x hx e => hx (by rw [e]; exact ka)
  obtain ⟨k1, k2, k3, k4, k5, k6, k7, k8, k9⟩ := id sk
  have os : ∀ x, Stb s x → mK M' x = mK M x ∧ mN M' x = mN M x ∧ (x ≠ a → mR M' x = mR M x) ∧ mI M' x = mI M x := fun x hx => by
    obtain ⟨a1, a2, a3, a4, a5⟩ := f.2 x (hSt x hx).1
    exact ⟨a1, a2, a4, a5 (fun u => u)⟩
  have e0 := os s (Or.inl rfl)
  have e29 := os (s + 29) (Or.inr (Or.inl rfl))
  have e30 := os (s + 30) (Or.inr (Or.inr (Or.inl rfl)))
  have e122 := os (s + 122) (Or.inr (Or.inr (Or.inr (Or.inl rfl))))
  have e123 := os (s + 123) (Or.inr (Or.inr (Or.inr (Or.inr (Or.inl rfl)))))
  have e124 := os (s + 124) (Or.inr (Or.inr (Or.inr (Or.inr (Or.inr (Or.inl rfl))))))
  have e125 := os (s + 125) (Or.inr (Or.inr (Or.inr (Or.inr (Or.inr (Or.inr (Or.inl rfl)))))))
  have e126 := os (s + 126) (Or.inr (Or.inr (Or.inr (Or.inr (Or.inr (Or.inr (Or.inr (Or.inl rfl))))))))
  have e128 := os (s + 128) (Or.inr (Or.inr (Or.inr (Or.inr (Or.inr (Or.inr (Or.inr (Or.inr (Or.inl rfl)))))))))
  have e129 := os (s + 129) (Or.inr (Or.inr (Or.inr (Or.inr (Or.inr (Or.inr (Or.inr (Or.inr (Or.inr rfl)))))))))
  have sa : s ≠ a := ns s (by rw [s0.1]; decide)
  have ga : g ≠ a := ns g (by rw [hG.1]; decide)
  have g0z := (hgo 0 (by decide)).1
  rw [Nat.add_zero] at g0z
  have gR : mR M' g = mR M g := (f.2 g g0z).2.2.2.1 ga
  have n3' : mN M' (g + 3) = mN M (g + 3) := (f.2 _ (hgo 3 (by decide)).1).2.1
  refine ⟨⟨⟨o', ⟨⟨by rw [e0.1]; exact s0.1, s0.2⟩, by rw [e0.2.2.1 sa]; exact sr, by rw [e29.1, e30.1, e122.1, e123.1, e124.1, e125.1, e126.1, e128.1, e129.1]; exact sk, by rw [e29.2.1, e30.2.1, e122.2.1, e123.2.1, e124.2.1, e125.2.1, e126.2.1, e128.2.1, e129.2.1]; exact sn⟩, hG', ⟨by rw [gR]; exact g3, by rw [n3']; exact n3⟩, hGT.same gi⟩, ⟨hF', gg.sk hSK, ?_, (gg.frl hfw).1⟩, fun x hx => gg.oc (hSt x hx), hgo', hRT, hrow, hD'⟩, fun x hx => (os x hx).2.2.2, gi⟩
  obtain ⟨⟨c0, c1, c2, c3⟩, c4, c5, c6⟩ := hRs
  have oe : ∀ i, i ≤ 6 → mK M' (s + 31 + i) = mK M (s + 31 + i) ∧ mN M' (s + 31 + i) = mN M (s + 31 + i) ∧ (s + 31 + i ≠ a → mR M' (s + 31 + i) = mR M (s + 31 + i)) := fun i hi => by
    obtain ⟨a1, a2, a3, a4, a5⟩ := f.2 _ (c4 i hi).1
    exact ⟨a1, a2, a4⟩
  have r0 := oe 0 (by decide)
  rw [Nat.add_zero] at r0
  exact ⟨⟨by rw [r0.1]; exact c0, by rw [r0.2.2 (ns _ (by rw [c0]; decide))]; exact c1, by rw [(oe 1 (by decide)).1, (oe 2 (by decide)).1, (oe 3 (by decide)).1, (oe 4 (by decide)).1, (oe 5 (by decide)).1, (oe 6 (by decide)).1]; exact c2, by rw [(oe 1 (by decide)).2.1, (oe 2 (by decide)).2.1, (oe 3 (by decide)).2.1, (oe 4 (by decide)).2.1, (oe 5 (by decide)).2.1, (oe 6 (by decide)).2.1]; exact c3⟩, fun i hi => gg.oc (c4 i hi), fun i hi => by rw [(oe 2 (by decide)).2.2 (ns _ (by rw [c2.2.1]; decide))]; exact ⟨(c5 i hi).1, l1 _ (c5 i hi).2⟩, l1 _ c6⟩
end NBY
