/-! The class's top: billionths. -/
section NCH
variable {G : mG} {d t g s b f n h v0 v1 v2 R0 R1 R2 k0 k1 k2 cn cc bc : Nat} {M M' M1 : mM} {L : List Nat} {W : Nat → Nat}
/-- the top's own numbers: n the number, h the fraction that is shown; all below b -/
def Shn (L : List Nat) (M : mM) (t s n h b : Nat) : Prop := (mK M t = 1 ∧ mR M t 10 = s ∧ mR M t 15 = n ∧ mR M t 16 = h) ∧ (mK M s = 8 ∧ mR M s 0 = s + 1) ∧ (n ∈ L ∧ FrL L M h) ∧ (Oc L M t ∧ Oc L M s ∧ t ≠ s + 1) ∧ (s + 134 < n ∧ n < h ∧ h + 4 < b)
/-- the numbers that showing may change -/
def Tsh (s n h x : Nat) : Prop := T4 (s + 1) x ∨ x = n ∨ x = h + 1 ∨ x = h + 3
theorem Shn.nx {T C : Nat → Prop} (hh : Shn L M t s n h b) (q : NX L W T C False (s + 1) M M') (hF : NF L W M) : Shn L M' t s n h b := by
  obtain ⟨⟨a1, a2, a3, a4⟩, ⟨b1, b2⟩, ⟨c1, c2⟩, ⟨d1, d2, d3⟩, e⟩ := hh
  have ot := q.oth d1 d3
  have os := q.oth d2 (by omega)
  exact ⟨⟨by rw [ot.1]; exact a1, by rw [ot.2.2.1]; exact a2, by rw [ot.2.2.1]; exact a3, by rw [ot.2.2.1]; exact a4⟩, ⟨by rw [os.1]; exact b1, by rw [os.2.2.1]; exact b2⟩, ⟨c1, (q.frl hF c2).1⟩, ⟨q.oc hF d1, q.oc hF d2, d3⟩, e⟩
theorem bl_18 (x : Int) (h : x < 2 ^ (30 * 17)) : 1000000000 * x < 2 ^ (30 * 18) := by
  have e : (2 : Int) ^ (30 * 18) = 1073741824 * 2 ^ (30 * 17) := by decide +kernel
  have p : (0 : Int) < 2 ^ (30 * 17) := by decide +kernel
  rw [e]
  generalize (2 : Int) ^ (30 * 17) = Y at h p
  omega
theorem s_CA_billionths {l1 l2 : Int} (i1 : i32 l1) (i2 : i32 l2) (hF : NF L W M) (hS : SK L M (s + 1)) (h0 : Tg M t g cn cc bc) (hh : Shn L M t s n h b) (h3 : Tv3 L M t b v0 v1 v2 R0 R1 R2 k0 k1 k2 cn) (hW : 20 ≤ W n ∧ 17 ≤ W (h + 1) ∧ 17 ≤ W (h + 3) ∧ 19 ≤ W (s + 1 + 5) ∧ 18 ≤ W (s + 1 + 7)) : Ci G y_CA_billionths (d + 5) [vr t, vi l1, vi l2] M (fun x M' => i32 x ∧ (M' = M ∨ NX L W (Tsh s n h) (fun x => x = h) False (s + 1) M M')) := by
  have h1 := h0.1
  obtain ⟨⟨a1, a2, a3, a4⟩, ⟨b1, b2⟩, ⟨c1, c2⟩, -, ⟨e1, e2, e3⟩⟩ := id hh
  obtain ⟨w1, w2, w3, w4, w5⟩ := hW
  refine k_CA_billionths h1 i1 i2 ⟨a1, (s_fo1 (d := d + 3) i1 i2 hF h0 h3).mono (fun f M2 q => ?_)⟩
  obtain ⟨e, r1⟩ := q
  subst e
  refine ⟨h1, fun _ => ⟨⟨by decide, by decide⟩, Or.inl rfl⟩, fun u => ?_⟩
  obtain ⟨x1, x2, x3, x4, x5⟩ := r1 u
  rw [a4]
  have y1 := x3.1
  have y2 := x3.2.1
  refine ⟨a1, c2.1.1, (f_Fr_put1 (d := d + 2) (z := s + 1) h1 hF c2 x1 (by omega) (by omega) (by omega) ⟨hS.1.2, hS.1.1⟩ (by omega) (by omega)).mono (fun M9 q => ?_)⟩
  obtain ⟨q1, q2, q3, q4⟩ := q
  have X9 := q1.nx hF
  have S9 := hh.nx X9 hF
  have F9 := X9.nf
  have K9 := X9.sk hF hS
  obtain ⟨⟨a1', a2', a3', a4'⟩, -, ⟨c1', c2'⟩, -⟩ := id S9
  have oc9 : ∀ x, x = h → Oc L M9 x := fun x hx => X9.oc hF (X9.2.1.2.1 x hx)
  rw [a4', a3', c2'.1.2.1.1]
  have z1 : sz M9 (h + 1) ≤ 17 := F9.szv c2'.2.1 (by rw [q2]; exact x4.1)
  refine ⟨q1.ok, a1', c2'.1.1, F9.kd c1', (f_put1 (d := d + 3) q1.ok F9 c1' c2'.2.1 (by omega) (by omega)).mono (fun M15 q => ?_)⟩
  obtain ⟨p1, p2⟩ := q
  have X15 : NX L W (fun x => x = n) (fun x => x = h) False (s + 1) M9 M15 := p1.nx oc9 ⟨K9.1.2, K9.1.1⟩
  have S15 := S9.nx X15 F9
  have F15 := X15.nf
  have K15 := X15.sk F9 K9
  obtain ⟨⟨a1', a2', a3', a4'⟩, -, ⟨c1', c2'⟩, -⟩ := id S15
  rw [a3']
  have n15 : nv M15 n < 2 ^ (30 * 17) := by rw [p2, q2]; exact x4.1
  have z2 : sz M15 n ≤ 17 := F15.szv c1' n15
  refine ⟨p1.ok, a1', F15.kd c1', (f_multiply (d := d + 2) ⟨by decide, by decide⟩ p1.ok F15 c1' (by omega)).mono (fun M20 q => ?_)⟩
  obtain ⟨m1, m2⟩ := q
  have X20 : NX L W (fun x => x = n) (fun x => x = h) False (s + 1) M15 M20 := m1.nx (fun x hx => X15.oc F9 (oc9 x hx)) ⟨K15.1.2, K15.1.1⟩
  have S20 := S15.nx X20 F15
  have F20 := X20.nf
  have K20 := X20.sk F15 K15
  obtain ⟨⟨a1', a2', a3', a4'⟩, ⟨b1', b2'⟩, ⟨c1', c2'⟩, -⟩ := id S20
  have z3 : sz M20 n ≤ 18 := F20.szv c1' (by rw [m2]; exact bl_18 _ n15)
  have h15 := X15.num F9 c2'.2.2 (fun w => by have w' : h + 3 = n := w; omega)
  have h20 := X20.num F15 c2'.2.2 (fun w => by have w' : h + 3 = n := w; omega)
  have z4 : sz M20 (h + 3) ≤ 17 := F20.szv c2'.2.2 (by rw [h20.2.2, h15.2.2, q3]; exact x4.2)
  have t4 : ∀ x, s + 134 < x → ¬ T4 (s + 1) x := fun x hx w => by unfold T4 at w; omega
  rw [a2', a3', a4', b2', c2'.1.2.1.2]
  refine ⟨m1.ok, a1', b1', c2'.1.1, K20.1.1, (f_wholePartZ (d := d) m1.ok F20 K20 c1' c2'.2.2 (by omega) (t4 _ e1) (t4 _ (by omega)) (by omega) (by omega) (by omega)).mono (fun x M27 q => ?_)⟩
  obtain ⟨o1, o2, o3⟩ := q
  have ix : i32 x := ⟨by omega, by omega⟩
  have X27 : NX L W (fun x => x = n ∨ x = s + 1 + 5 ∨ x = s + 1 + 7) (fun x => x = h) False (s + 1) M20 M27 := o1.nx (fun x hx => X20.oc F15 (X15.oc F9 (oc9 x hx))) ⟨K20.1.2, K20.1.1⟩
  obtain ⟨-, -, -, -, -, ⟨j1, j3, j5, j7, -⟩, -⟩ := id hS
  have TL : ∀ x, Tsh s n h x → x ∈ L := fun x hx => by
    rcases hx with (w | w | w | w) | w | w | w
    · rw [w]; exact j1
    · rw [w]; exact j3
    · rw [w]; exact j5
    · rw [w]; exact j7
    · rw [w]; exact c1
    · rw [w]; exact c2.2.1
    · rw [w]; exact c2.2.2
  have O9 := oc9
  have O15 : ∀ x, x = h → Oc L M15 x := fun x hx => X15.oc F9 (oc9 x hx)
  have O20 : ∀ x, x = h → Oc L M20 x := fun x hx => X20.oc F15 (O15 x hx)
  have Y1 : NX L W (Tsh s n h) (fun x => x = h) False (s + 1) M2 M9 := X9.mono hF (fun x w => Or.inr (Or.inr w)) TL (fun x w => w) (fun x w => X9.2.1.2.1 x w) id
  have Y2 : NX L W (Tsh s n h) (fun x => x = h) False (s + 1) M9 M15 := X15.mono F9 (fun x w => Or.inr (Or.inl w)) TL (fun x w => w) O9 id
  have Y3 : NX L W (Tsh s n h) (fun x => x = h) False (s + 1) M15 M20 := X20.mono F15 (fun x w => Or.inr (Or.inl w)) TL (fun x w => w) O15 id
  have Y4 : NX L W (Tsh s n h) (fun x => x = h) False (s + 1) M20 M27 := X27.mono F20 (fun x w => w.elim (fun w => Or.inr (Or.inl w)) (fun w => Or.inl (Or.inr (Or.inr w)))) TL (fun x w => w) O20 id
  exact ⟨ix, o1.ok, ix, Or.inr (((Y1.trans Y2).trans Y3).trans Y4)⟩
end NCH
