/-! The class's top: rows of a table that is known; compare. -/
section NCG
variable {G : mG} {d t g s z b f f' v v0 v1 v2 R R0 R1 R2 k k0 k1 k2 cn cc bc : Nat} {M M' : mM} {L : List Nat} {W : Nat → Nat}
/-- a table of k rows, all from the cell b on (what the constructor made lies below); once it is known its first cn rows are small, their sharers 1 -/
def Tv (L : List Nat) (M : mM) (b v R k cn : Nat) : Prop := RwT L M v R k ∧ (∀ i, i < k → b ≤ mR M R i) ∧ (mI M v 1 ≠ 0 → cn ≤ k ∧ Rsm M R cn 17 ∧ Rt1 M R cn)
theorem Tv.tb (h : Tv L M b v R k cn) : Tbl3 M v cn := by
  obtain ⟨⟨h1, h2, h3, h4, -⟩, -, h5⟩ := h
  exact ⟨h1, by rw [h2]; exact h3, fun u => by rw [h2, h4]; exact (h5 u).1⟩
/-- what a row of a known table is -/
def Rw1 (L : List Nat) (M : mM) (b f : Nat) : Prop := FrL L M f ∧ b ≤ f ∧ Osz M f 17 ∧ (nv M (f + 1) < 2 ^ (30 * 17) ∧ nv M (f + 3) < 2 ^ (30 * 17)) ∧ mI M f 2 = 1
theorem Tv.row (hF : NF L W M) (h : Tv L M b v R k cn) (r : RowK M v cn f) : Rw1 L M b f := by
  obtain ⟨⟨h1, h2, h3, h4, h5, h6⟩, h7, h8⟩ := h
  obtain ⟨kn, i, hi, e⟩ := r
  obtain ⟨ck, rs, rt⟩ := h8 kn
  rw [h2] at e
  have fl := h6 i (by omega)
  have ap := h7 i (by omega)
  have sm := rs i hi
  have t1 := rt i hi
  rw [← e] at fl ap sm t1
  exact ⟨fl, ap, ⟨hF.szv fl.2.1 sm.2.2, hF.szv fl.2.2 sm.2.1, by omega⟩, ⟨sm.2.2, sm.2.1⟩, t1⟩
/-- the top's three tables at rest -/
def Tv3 (L : List Nat) (M : mM) (t b v0 v1 v2 R0 R1 R2 k0 k1 k2 cn : Nat) : Prop := (mR M t 11 = v0 ∧ mR M t 12 = v1 ∧ mR M t 14 = v2) ∧ Tv L M b v0 R0 k0 cn ∧ Tv L M b v1 R1 k1 cn ∧ Tv L M b v2 R2 k2 cn
theorem s_fo1 {l1 l2 : Int} (i1 : i32 l1) (i2 : i32 l2) (hF : NF L W M) (h : Tg M t g cn cc bc) (h3 : Tv3 L M t b v0 v1 v2 R0 R1 R2 k0 k1 k2 cn) : Cr G y_CA_fractionOf (d + 1) [vr t, vi l1, vi l2] M (fun f M' => M' = M ∧ (f ≠ 0 → Rw1 L M b f)) := by
  obtain ⟨e, a0, a1, a2⟩ := h3
  refine (s_CA_fractionOf (d := d) i1 i2 h ⟨e, a0.tb, a1.tb, a2.tb⟩).mono (fun f M' q => ⟨q.1, fun u => ?_⟩)
  rcases q.2 with w | w | w | w
  · exact absurd w u
  · exact a0.row hF w
  · exact a1.row hF w
  · exact a2.row hF w
theorem s_CA_compare {l1 l2 l3 l4 : Int} (i1 : i32 l1) (i2 : i32 l2) (i3 : i32 l3) (i4 : i32 l4) (hF : NF L W M) (hS : SK L M (s + 1)) (h : Tg M t g cn cc bc) (hs : mR M t 10 = s ∧ mK M s = 8 ∧ mR M s 0 = s + 1) (h3 : Tv3 L M t b v0 v1 v2 R0 R1 R2 k0 k1 k2 cn) (hb : s + 134 < b) (w9 : 35 ≤ W (s + 1 + 9)) (w11 : 35 ≤ W (s + 1 + 11)) : Ci G y_CA_compare (d + 6) [vr t, vi l1, vi l2, vi l3, vi l4] M (fun x M' => i32 x ∧ (M' = M ∨ NL L W (Tor (s + 1)) (fun _ => False) False (s + 1) M M')) := by
  have h1 := h.1
  have t1 := h.2.1.1
  refine k_CA_compare h1 i1 i2 i3 i4 ⟨t1, (s_fo1 (d := d + 4) i1 i2 hF h h3).mono (fun f M2 q => ?_)⟩
  obtain ⟨e, r1⟩ := q
  subst e
  refine ⟨h1, t1, (s_fo1 (d := d + 4) i3 i4 hF h h3).mono (fun f' M2' q => ?_)⟩
  obtain ⟨e, r2⟩ := q
  subst e
  refine ⟨h1, fun _ => ⟨⟨by decide, by decide⟩, Or.inl rfl⟩, fun u => ?_⟩
  obtain ⟨a1, a2, a3, -⟩ := r1 (fun w => u (Or.inl w))
  obtain ⟨b1, b2, b3, -⟩ := r2 (fun w => u (Or.inr w))
  have na : ∀ {x : Nat}, b < x → ¬ Tor (s + 1) x := fun n w => by unfold Tor at w; omega
  rw [hs.1, hs.2.2]
  refine ⟨t1, hs.2.1, hS.1.1, (f_Sc_order (d := d) ⟨h1, hF, hS, a1, b1⟩ a3 b3 ⟨na (by omega), na (by omega)⟩ ⟨na (by omega), na (by omega)⟩ w9 w11).mono (fun x M' q => ?_)⟩
  have ix : i32 x := by rcases q.2 with w | w | w <;> (rw [w]; exact ⟨by decide, by decide⟩)
  exact ⟨ix, q.1.ok, ix, Or.inr q.1⟩
end NCG
