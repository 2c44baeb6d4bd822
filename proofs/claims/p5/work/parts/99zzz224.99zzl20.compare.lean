section
/-! The class's top: rows of a table that is known; compare. -/
section NCG
variable {G : mG} {d t g s z b f f' v v0 v1 v2 R R0 R1 R2 k k0 k1 k2 cn cc bc : Nat} {M M' : mM} {L : List Nat} {W : Nat → Nat}
/-- a table of k rows, all from the cell b on (what the constructor made lies below); once it is known its first cn rows are small, their sharers 1 -/
def Tv (L : List Nat) (M : mM) (b v R k cn : Nat) : Prop := RwT L M v R k ∧ (∀ i, i < k → b ≤ mR M R i) ∧ (mI M v 1 ≠ 0 → cn ≤ k ∧ Rsm M R cn 17 ∧ Rt1 M R cn)
theorem Tv.tb (h : Tv L M b v R k cn) : Tbl3 M v cn := by
  obtain ⟨⟨h1, h2, h3, h4, -⟩, -, h5⟩ := h
  exact ⟨h1, by rw [h2]; exact h3, fun u => by rw [h2, h4]; exact (h5 u).1⟩
/-- what a row of a known table is -/
def Rw1 (L : List Nat) (M : mM) (b f : Nat) : Prop := FrL L M f ∧ b ≤ f ∧ Osz M f 17 ∧ (nv M (f + 1) < 2 ^ (30 * 17) ∧ nv M (f + 3) < 2 ^ (30 * 17)) ∧ mI M f 2 = 1
theorem Tv.row (hF : NF L W M) (h : Tv L M b v R k cn) (r : RowK M v cn f) : Rw1 L M b f := by
  obtain ⟨⟨h1, h2, h3, h4, h5, h6⟩, h7, h8⟩ := h
  obtain ⟨kn, i, hi, e⟩ := r
  obtain ⟨ck, rs, rt⟩ := h8 kn
  rw [h2] at e
  have fl := h6 i (by omega)
  have ap := h7 i (by omega)
  have sm := rs i hi
  have t1 := rt i hi
  rw [← e] at fl ap sm t1
  exact ⟨fl, ap, ⟨hF.szv fl.2.1 sm.2.2, hF.szv fl.2.2 sm.2.1, by omega⟩, ⟨sm.2.2, sm.2.1⟩, t1⟩
/-- the top's three tables at rest -/
def Tv3 (L : List Nat) (M : mM) (t b v0 v1 v2 R0 R1 R2 k0 k1 k2 cn : Nat) : Prop := (mR M t 11 = v0 ∧ mR M t 12 = v1 ∧ mR M t 14 = v2) ∧ Tv L M b v0 R0 k0 cn ∧ Tv L M b v1 R1 k1 cn ∧ Tv L M b v2 R2 k2 cn
theorem s_fo1 {l1 l2 : Int} (i1 : i32 l1) (i2 : i32 l2) (hF : NF L W M) (h : Tg M t g cn cc bc) (h3 : Tv3 L M t b v0 v1 v2 R0 R1 R2 k0 k1 k2 cn) : Cr G y_CA_fractionOf (d + 1) [vr t, vi l1, vi l2] M (fun f M' => M' = M ∧ (f ≠ 0 → Rw1 L M b f)) := by
  obtain ⟨e, a0, a1, a2⟩ := h3
  refine (s_CA_fractionOf (d := d) i1 i2 h ⟨e, a0.tb, a1.tb, a2.tb⟩).mono (fun f M' q => ⟨q.1, fun u => ?_⟩)
  rcases q.2 with w | w | w | w
  · exact absurd w u
  · exact a0.row hF w
  · exact a1.row hF w
  · exact a2.row hF w
theorem s_CA_compare {l1 l2 l3 l4 : Int} (i1 : i32 l1) (i2 : i32 l2) (i3 : i32 l3) (i4 : i32 l4) (hF : NF L W M) (hS : SK L M (s + 1)) (h : Tg M t g cn cc bc) (hs : mR M t 10 = s ∧ mK M s = 8 ∧ mR M s 0 = s + 1) (h3 : Tv3 L M t b v0 v1 v2 R0 R1 R2 k0 k1 k2 cn) (hb : s + 133 < b) (w9 : 35 ≤ W (s + 1 + 9)) (w11 : 35 ≤ W (s + 1 + 11)) : Ci G y_CA_compare (d + 6) [vr t, vi l1, vi l2, vi l3, vi l4] M (fun x M' => i32 x ∧ (M' = M ∨ NL L W (Tor (s + 1)) (fun _ => False) False (s + 1) M M')) := by
  have h1 := h.1
  have t1 := h.2.1.1
  refine k_CA_compare h1 i1 i2 i3 i4 ⟨t1, (s_fo1 (d := d + 4) i1 i2 hF h h3).mono (fun f M2 q => ?_)⟩
  obtain ⟨e, r1⟩ := q
  subst e
  refine ⟨h1, t1, (s_fo1 (d := d + 4) i3 i4 hF h h3).mono (fun f' M2' q => ?_)⟩
  obtain ⟨e, r2⟩ := q
  subst e
  refine ⟨h1, fun _ => ⟨⟨by decide, by decide⟩, Or.inl rfl⟩, fun u => ?_⟩
  obtain ⟨a1, a2, a3, -⟩ := r1 (fun w => u (Or.inl w))
  obtain ⟨b1, b2, b3, -⟩ := r2 (fun w => u (Or.inr w))
  have na : ∀ {x : Nat}, b < x → ¬ Tor (s + 1) x := fun n w => by unfold Tor at w; omega
  rw [hs.1, hs.2.2]
  refine ⟨t1, hs.2.1, hS.1.1, (f_Sc_order (d := d) ⟨h1, hF, hS, a1, b1⟩ a3 b3 ⟨na (by omega), na (by omega)⟩ ⟨na (by omega), na (by omega)⟩ w9 w11).mono (fun x M' q => ?_)⟩
  have ix : i32 x := by rcases q.2 with w | w | w <;> (rw [w]; exact ⟨by decide, by decide⟩)
  exact ⟨ix, q.1.ok, ix, Or.inr q.1⟩
end NCG
end
section
/-! The class's top: billionths. -/
section NCH
variable {G : mG} {d t g s b f n h v0 v1 v2 R0 R1 R2 k0 k1 k2 cn cc bc : Nat} {M M' M1 : mM} {L : List Nat} {W : Nat → Nat}
/-- the top's own numbers: n the number, h the fraction that is shown; all below b -/
def Shn (L : List Nat) (M : mM) (t s n h b : Nat) : Prop := (mK M t = 1 ∧ mR M t 10 = s ∧ mR M t 15 = n ∧ mR M t 16 = h) ∧ (mK M s = 8 ∧ mR M s 0 = s + 1) ∧ (n ∈ L ∧ FrL L M h) ∧ (Oc L M t ∧ Oc L M s ∧ t ≠ s + 1) ∧ (s + 133 < n ∧ n < h ∧ h + 4 < b)
/-- the numbers that showing may change -/
def Tsh (s n h x : Nat) : Prop := T4 (s + 1) x ∨ x = n ∨ x = h + 1 ∨ x = h + 3
theorem Shn.nx {T C : Nat → Prop} (hh : Shn L M t s n h b) (q : NX L W T C False (s + 1) M M') (hF : NF L W M) : Shn L M' t s n h b := by
  obtain ⟨⟨a1, a2, a3, a4⟩, ⟨b1, b2⟩, ⟨c1, c2⟩, ⟨d1, d2, d3⟩, e⟩ := hh
  have ot := q.oth d1 d3
  have os := q.oth d2 (by omega)
  exact ⟨⟨by rw [ot.1]; exact a1, by rw [ot.2.2.1]; exact a2, by rw [ot.2.2.1]; exact a3, by rw [ot.2.2.1]; exact a4⟩, ⟨by rw [os.1]; exact b1, by rw [os.2.2.1]; exact b2⟩, ⟨c1, (q.frl hF c2).1⟩, ⟨q.oc hF d1, q.oc hF d2, d3⟩, e⟩
theorem bl_18 (x : Int) (h : x < 2 ^ (30 * 17)) : 1000000000 * x < 2 ^ (30 * 18) := by
  have e : (2 : Int) ^ (30 * 18) = 1073741824 * 2 ^ (30 * 17) := by decide +kernel
  have p : (0 : Int) < 2 ^ (30 * 17) := by decide +kernel
  rw [e]
  generalize (2 : Int) ^ (30 * 17) = Y at h p
  omega
theorem s_CA_billionths {l1 l2 : Int} (i1 : i32 l1) (i2 : i32 l2) (hF : NF L W M) (hS : SK L M (s + 1)) (h0 : Tg M t g cn cc bc) (hh : Shn L M t s n h b) (h3 : Tv3 L M t b v0 v1 v2 R0 R1 R2 k0 k1 k2 cn) (hW : 20 ≤ W n ∧ 17 ≤ W (h + 1) ∧ 17 ≤ W (h + 3) ∧ 19 ≤ W (s + 1 + 5) ∧ 18 ≤ W (s + 1 + 7)) : Ci G y_CA_billionths (d + 5) [vr t, vi l1, vi l2] M (fun x M' => i32 x ∧ (M' = M ∨ NX L W (Tsh s n h) (fun x => x = h) False (s + 1) M M')) := by
  have h1 := h0.1
  obtain ⟨⟨a1, a2, a3, a4⟩, ⟨b1, b2⟩, ⟨c1, c2⟩, -, ⟨e1, e2, e3⟩⟩ := id hh
  obtain ⟨w1, w2, w3, w4, w5⟩ := hW
  refine k_CA_billionths h1 i1 i2 ⟨a1, (s_fo1 (d := d + 3) i1 i2 hF h0 h3).mono (fun f M2 q => ?_)⟩
  obtain ⟨e, r1⟩ := q
  subst e
  refine ⟨h1, fun _ => ⟨⟨by decide, by decide⟩, Or.inl rfl⟩, fun u => ?_⟩
  obtain ⟨x1, x2, x3, x4, x5⟩ := r1 u
  rw [a4]
  have y1 := x3.1
  have y2 := x3.2.1
  refine ⟨a1, c2.1.1, (f_Fr_put1 (d := d + 2) (z := s + 1) h1 hF c2 x1 (by omega) (by omega) (by omega) ⟨hS.1.2, hS.1.1⟩ (by omega) (by omega)).mono (fun M9 q => ?_)⟩
  obtain ⟨q1, q2, q3, q4⟩ := q
  have X9 := q1.nx hF
  have S9 := hh.nx X9 hF
  have F9 := X9.nf
  have K9 := X9.sk hF hS
  obtain ⟨⟨a1', a2', a3', a4'⟩, -, ⟨c1', c2'⟩, -⟩ := id S9
  have oc9 : ∀ x, x = h → Oc L M9 x := fun x hx => X9.oc hF (X9.2.1.2.1 x hx)
  rw [a4', a3', c2'.1.2.1.1]
  have z1 : sz M9 (h + 1) ≤ 17 := F9.szv c2'.2.1 (by rw [q2]; exact x4.1)
  refine ⟨q1.ok, a1', c2'.1.1, F9.kd c1', (f_put1 (d := d + 3) q1.ok F9 c1' c2'.2.1 (by omega) (by omega)).mono (fun M15 q => ?_)⟩
  obtain ⟨p1, p2⟩ := q
  have X15 : NX L W (fun x => x = n) (fun x => x = h) False (s + 1) M9 M15 := p1.nx oc9 ⟨K9.1.2, K9.1.1⟩
  have S15 := S9.nx X15 F9
  have F15 := X15.nf
  have K15 := X15.sk F9 K9
  obtain ⟨⟨a1', a2', a3', a4'⟩, -, ⟨c1', c2'⟩, -⟩ := id S15
  rw [a3']
  have n15 : nv M15 n < 2 ^ (30 * 17) := by rw [p2, q2]; exact x4.1
  have z2 : sz M15 n ≤ 17 := F15.szv c1' n15
  refine ⟨p1.ok, a1', F15.kd c1', (f_multiply (d := d + 2) ⟨by decide, by decide⟩ p1.ok F15 c1' (by omega)).mono (fun M20 q => ?_)⟩
  obtain ⟨m1, m2⟩ := q
  have X20 : NX L W (fun x => x = n) (fun x => x = h) False (s + 1) M15 M20 := m1.nx (fun x hx => X15.oc F9 (oc9 x hx)) ⟨K15.1.2, K15.1.1⟩
  have S20 := S15.nx X20 F15
  have F20 := X20.nf
  have K20 := X20.sk F15 K15
  obtain ⟨⟨a1', a2', a3', a4'⟩, ⟨b1', b2'⟩, ⟨c1', c2'⟩, -⟩ := id S20
  have z3 : sz M20 n ≤ 18 := F20.szv c1' (by rw [m2]; exact bl_18 _ n15)
  have h15 := X15.num F9 c2'.2.2 (fun w => by have w' : h + 3 = n := w; omega)
  have h20 := X20.num F15 c2'.2.2 (fun w => by have w' : h + 3 = n := w; omega)
  have z4 : sz M20 (h + 3) ≤ 17 := F20.szv c2'.2.2 (by rw [h20.2.2, h15.2.2, q3]; exact x4.2)
  have t4 : ∀ x, s + 133 < x → ¬ T4 (s + 1) x := fun x hx w => by unfold T4 at w; omega
  rw [a2', a3', a4', b2', c2'.1.2.1.2]
  refine ⟨m1.ok, a1', b1', c2'.1.1, K20.1.1, (f_wholePartZ (d := d) m1.ok F20 K20 c1' c2'.2.2 (by omega) (t4 _ e1) (t4 _ (by omega)) (by omega) (by omega) (by omega)).mono (fun x M27 q => ?_)⟩
  obtain ⟨o1, o2, o3⟩ := q
  have ix : i32 x := ⟨by omega, by omega⟩
  have X27 : NX L W (fun x => x = n ∨ x = s + 1 + 5 ∨ x = s + 1 + 7) (fun x => x = h) False (s + 1) M20 M27 := o1.nx (fun x hx => X20.oc F15 (X15.oc F9 (oc9 x hx))) ⟨K20.1.2, K20.1.1⟩
  obtain ⟨-, -, -, -, -, ⟨j1, j3, j5, j7, -⟩, -⟩ := id hS
  have TL : ∀ x, Tsh s n h x → x ∈ L := fun x hx => by
    rcases hx with (w | w | w | w) | w | w | w
    · rw [w]; exact j1
    · rw [w]; exact j3
    · rw [w]; exact j5
    · rw [w]; exact j7
    · rw [w]; exact c1
    · rw [w]; exact c2.2.1
    · rw [w]; exact c2.2.2
  have O9 := oc9
  have O15 : ∀ x, x = h → Oc L M15 x := fun x hx => X15.oc F9 (oc9 x hx)
  have O20 : ∀ x, x = h → Oc L M20 x := fun x hx => X20.oc F15 (O15 x hx)
  have Y1 : NX L W (Tsh s n h) (fun x => x = h) False (s + 1) M2 M9 := X9.mono hF (fun x w => Or.inr (Or.inr w)) TL (fun x w => w) (fun x w => X9.2.1.2.1 x w) id
  have Y2 : NX L W (Tsh s n h) (fun x => x = h) False (s + 1) M9 M15 := X15.mono F9 (fun x w => Or.inr (Or.inl w)) TL (fun x w => w) O9 id
  have Y3 : NX L W (Tsh s n h) (fun x => x = h) False (s + 1) M15 M20 := X20.mono F15 (fun x w => Or.inr (Or.inl w)) TL (fun x w => w) O15 id
  have Y4 : NX L W (Tsh s n h) (fun x => x = h) False (s + 1) M20 M27 := X27.mono F20 (fun x w => w.elim (fun w => Or.inr (Or.inl w)) (fun w => Or.inl (Or.inr (Or.inr w)))) TL (fun x w => w) O20 id
  exact ⟨ix, o1.ok, ix, Or.inr (((Y1.trans Y2).trans Y3).trans Y4)⟩
end NCH
end
section
/-! The class's top: a fraction brought to least terms, also with 0 below. -/
section NCI
variable {G : mG} {d b c z n m w S x y B u g a R cn f s : Nat} {M M0 M' M1 M2 M3 : mM} {L : List Nat} {W : Nat → Nat} {T T' I I' : Nat → Prop} {sh t : Int}
/-- as rdQ2, and a bound below for every fraction -/
def rdQ3 (L : List Nat) (W : Nat → Nat) (z f : Nat) (t A V : Int) (M M' : mM) : Prop := NL L W (Tre z f) (fun x => x = f) False z M M' ∧ mI M' f 2 = 1 ∧ (0 < V → 0 < nv M' (f + 3)) ∧ nv M' (f + 1) ≤ A ∧ (0 < V → nv M' (f + 3) ≤ t * V) ∧ (A ≤ t * V → nv M' (f + 1) ≤ nv M' (f + 3)) ∧ (nv M' (f + 3) ≤ 1 ∨ nv M' (f + 3) ≤ t * V)
theorem f_reduce3 (h : Rds L W z f M) (nf : ¬ T4 z (f + 1) ∧ ¬ T4 z (f + 3)) (ht : mI M f 2 = t) (t1 : 1 ≤ t ∧ t < 1073741824) (s1 : sz M (f + 1) ≤ s) (s3 : sz M (f + 3) ≤ s) (hs : s ≤ 15000) (hW : ∀ x, Tre z f x → s + 3 ≤ W x) : Cv G y_Sc_reduce (d + 5) [vr z, vr f] M (rdQ3 L W z f t (nv M (f + 1)) (nv M (f + 3)) M) := by
  obtain ⟨⟨k1, k2⟩, ⟨r2, r3⟩, ⟨f0, f1⟩, m5, m7, mf1, mf3⟩ := h.pl
  have hF := h.2.1
  have w1 := hW _ (Or.inr (Or.inl rfl))
  have w3 := hW _ (Or.inr (Or.inr rfl))
  have f13 : f + 3 ≠ f + 1 := nez (by decide)
  have A0 := hF.nn0 mf1
  refine k_Sc_reduce h.1 ?_
  rw [f1, ht]
  refine ⟨k2, hF.kd mf3, (f_multiply (d := d + 2) t1 h.1 hF mf3 (by omega)).mono (fun M3 k => ?_)⟩
  obtain ⟨c1, v1⟩ := k
  obtain ⟨n1, H1⟩ := h.st (Or.inr (Or.inr rfl)) c1
  have a1 := (c1.num hF mf1 (fun e => f13 e.symm)).2.2.2
  refine ⟨c1.ok, H1.2.2.2.1.1, fun M7 e7 => ?_⟩
  obtain ⟨n2, t2, vv⟩ := nl_times (T := Tre z f) (I := fun x => x = f) (r := False) (z := z) c1.ok H1.2.1 H1.2.2.2 H1.2.2.1.z9 ⟨by decide, by decide⟩ e7 h.tre rfl H1.iw
  have H2 := H1.nl n2
  have N2 := n1.trans n2
  have F2 := H2.2.1
  have A2 : nv M7 (f + 1) = nv M (f + 1) := by rw [vv _ mf1, a1.2.1]
  have V2 : nv M7 (f + 3) = t * nv M (f + 3) := by rw [vv _ mf3, v1]
  have Vn := hF.nn0 mf3
  have Vp : 0 < nv M (f + 3) → 0 < t * nv M (f + 3) := fun V0 => Int.mul_pos (by omega) V0
  obtain ⟨⟨k1, k2⟩, ⟨r2, r3⟩, ⟨f0, f1⟩, -⟩ := H2.pl
  rw [f0, f1, (F2.nt mf1).2.1]
  refine ⟨F2.kd mf1, fun y => ⟨F2.kd mf3, (f_put0 (d := d + 4) ⟨by decide, by decide⟩ H2.1 F2 mf3).mono (fun M13 k => ?_)⟩, fun y => ⟨k1, ?_⟩⟩
  · obtain ⟨c3, v3⟩ := k
    obtain ⟨n3, H3⟩ := H2.st (Or.inr (Or.inr rfl)) c3
    have z0 : nv M7 (f + 1) = 0 := (F2.sz0 mf1).1 (by omega)
    have z1 := (c3.v F2 mf1 (fun e => f13 e.symm)).trans z0
    have ti : mI M13 f = mI M7 f := ((c3.nl (I := fun _ => False) (r := False) noI H2.2.2.1.z9).frp F2 H2.2.2.2.1).2 (fun e => e)
    exact ⟨c3.ok, N2.trans n3, by rw [ti]; exact t2, fun _ => by rw [v3]; decide, by rw [z1]; exact A0, fun V0 => by rw [v3]; exact Vp V0, fun _ => by rw [z1, v3]; decide, Or.inl (by rw [v3]; decide)⟩
  · have Ap : 0 < nv M (f + 1) := Classical.byContradiction (fun u => y (by
      have := (F2.sz0 mf1).2 (by rw [A2]; omega)
      omega))
    have sv : sz M7 (f + 3) ≤ s + 1 := F2.szv mf3 (by rw [V2]; exact (mul_sz ⟨Vn, Int.lt_of_lt_of_le (hF.vlt mf3) (p30m s3)⟩ t1).2)
    have sa : sz M7 (f + 1) ≤ s := F2.szv mf1 (by rw [A2]; exact Int.lt_of_lt_of_le (hF.vlt mf1) (p30m s1))
    have h1 := hW (z + 1) (Or.inl (Or.inl rfl))
    have h3 := hW (z + 3) (Or.inl (Or.inr (Or.inl rfl)))
    have h5 := hW (z + 5) (Or.inl (Or.inr (Or.inr (Or.inl rfl))))
    have h7 := hW (z + 7) (Or.inl (Or.inr (Or.inr (Or.inr rfl))))
    refine (f_common (d := d) (S := s + 1) H2.1 F2 H2.2.2.1 mf1 mf3 nf.1 nf.2 (Or.inl (by rw [A2]; exact Ap)) (by omega) sv (by omega) ⟨h1, h3, h5, h7⟩).mono (fun r M17 k => ?_)
    obtain ⟨er, N17, q0, d1, d2⟩ := k
    have n3 : NL L W (Tre z f) (fun x => x = f) False z M7 M17 := N17.mono F2 (fun t ht => Or.inl ht) h.tre (fun _ e => e.elim) H2.iw (fun e => e)
    have H3 := H2.nl n3
    have A3 := (N17.num F2 mf1 nf.1).2
    have V3 := (N17.num F2 mf3 nf.2).2
    have t3 : mI M17 f 2 = 1 := by rw [(N17.frp F2 H2.2.2.2.1).2 (fun e => e)]; exact t2
    have mr : r ∈ L := h.2.2.1.t4 r (er.elim Or.inl (fun e => Or.inr (Or.inl e)))
    rw [A2] at A3 d1
    rw [V2] at V3 d2
    refine ⟨H3.1, H3.2.1.kd mr, (s_Na_isOne (d := d + 4) H3.1 (H3.2.1.nt mr)).mono (fun x22 M21 k => ?_)⟩
    obtain ⟨e21, x01⟩ := k
    rw [e21]
    refine ⟨m_b32 x01, H3.1, fun _ => ?_, fun _ => ?_⟩
    · exact s_rdDiv (d := d) (s := s + 3) H3 er nf A3.2 V3.2 rfl q0 d1 d2 Ap (by omega) (by omega) w1 w3 h5 h7 (fun M' Q1 Q2 g1 g2 g3 g4 g5 g6 g7 g8 => by
        have hq : 1 ≤ nv M17 r := q0
        have m1 := Int.mul_le_mul_of_nonneg_right hq g7
        have m2 := Int.mul_le_mul_of_nonneg_right hq g8
        have Q2p : 0 < nv M (f + 3) → 0 < Q2 := fun V0 => Classical.byContradiction (fun u => by
          have V1 := Vp V0
          have : Q2 = 0 := by omega
          rw [this, Int.mul_zero] at g6
          omega)
        refine ⟨(N2.trans n3).trans g1, by rw [g2]; exact t3, fun V0 => by rw [g4]; exact Q2p V0, by rw [g3]; omega, fun _ => by rw [g4]; omega, fun le => ?_, Or.inr (by rw [g4]; omega)⟩
        rw [g3, g4]
        rw [g5, g6] at le
        exact Int.le_of_mul_le_mul_left le q0)
    · exact ⟨N2.trans n3, t3, fun V0 => by rw [V3.2]; exact Vp V0, by rw [A3.2]; exact Int.le_refl _, fun _ => by rw [V3.2]; exact Int.le_refl _, fun le => by rw [A3.2, V3.2]; exact le, Or.inr (by rw [V3.2]; exact Int.le_refl _)⟩
end NCI
end
