section
/-! The class's top: print as a whole. -/
section NCK
variable {G : mG} {d t g s b f n h pr v0 v1 v2 R0 R1 R2 k0 k1 k2 cn cc bc : Nat} {M M0 M' M1 : mM} {L : List Nat} {W : Nat → Nat}
theorem s_CA_print {l1 l2 : Int} (i1 : i32 l1) (i2 : i32 l2) (hF : NF L W M) (hS : SK L M (s + 1)) (h0 : Tg M t g cn cc bc) (hh : Shn L M t s n h b) (hp : Prt L M t pr n) (h3 : Tv3 L M t b v0 v1 v2 R0 R1 R2 k0 k1 k2 cn) (hW : ∀ x, Tre (s + 1) h x → 20 ≤ W x) (wn : 17 ≤ W n) : Ci G y_CA_print (d + 6) [vr t, vi l1, vi l2] M (prQ L W s t pr n h M) := by
  have h1 := h0.1
  obtain ⟨⟨a1, a2, a3, a4⟩, ⟨b1, b2⟩, ⟨c1, c2⟩, -, ⟨e1, e2, e3⟩⟩ := id hh
  have w1 := hW (h + 1) (Or.inr (Or.inl rfl))
  have w3 := hW (h + 3) (Or.inr (Or.inr rfl))
  have pz : pr ≠ s + 1 := fun e => by
    have u1 := hp.2.1.1
    have u2 := hS.1.1
    rw [e, u2] at u1
    exact absurd u1 (by decide)
  have ph : pr ≠ h := fun e => by
    have u1 := hp.2.1.1
    have u2 := c2.1.1
    rw [e, u2] at u1
    exact absurd u1 (by decide)
  have th : t ≠ h := fun e => by
    have u2 := c2.1.1
    rw [e, u2] at a1
    exact absurd a1 (by decide)
  have nz : t ≠ s + 1 ∧ pr ≠ s + 1 := ⟨hh.2.2.2.1.2.2, pz⟩
  refine k_CA_print h1 i1 i2 ⟨a1, (s_fo1 (d := d + 4) i1 i2 hF h0 h3).mono (fun f M2 q => ?_)⟩
  obtain ⟨e, r1⟩ := q
  subst e
  refine ⟨h1, fun _ => ⟨⟨by decide, by decide⟩, Or.inl rfl⟩, fun u => ?_⟩
  obtain ⟨x1, x2, x3, x4, x5⟩ := r1 u
  rw [a4]
  have y1 := x3.1
  have y2 := x3.2.1
  refine ⟨a1, c2.1.1, (f_Fr_put1 (d := d + 3) (z := s + 1) h1 hF c2 x1 (by omega) (by omega) (by omega) ⟨hS.1.2, hS.1.1⟩ (by omega) (by omega)).mono (fun M9 q => ?_)⟩
  obtain ⟨q1, q2, q3, q4⟩ := q
  have X9 := q1.nx hF
  have S9 := hh.nx X9 hF
  have F9 := X9.nf
  have K9 := X9.sk hF hS
  have P9 := hp.nx2 X9 hF nz ph
  obtain ⟨⟨a1', a2', a3', a4'⟩, ⟨b1', b2'⟩, ⟨c1', c2'⟩, -⟩ := id S9
  have t4 : ∀ x, s + 134 < x → ¬ T4 (s + 1) x := fun x hx w => by unfold T4 at w; omega
  have z1 : sz M9 (h + 1) ≤ 17 := F9.szv c2'.2.1 (by rw [q2]; exact x4.1)
  have z3 : sz M9 (h + 3) ≤ 17 := F9.szv c2'.2.2 (by rw [q3]; exact x4.2)
  rw [a2', a4', b2']
  refine ⟨q1.ok, a1', b1', K9.1.1, (f_reduce3 (d := d) (t := 1) (s := 17) ⟨q1.ok, F9, K9, c2'⟩ ⟨t4 _ (by omega), t4 _ (by omega)⟩ (by rw [q4]; exact x5) ⟨by decide, by decide⟩ z1 z3 (by decide) hW).mono (fun M15 q => ?_)⟩
  obtain ⟨r1, -, -, r4, -, -, r7⟩ := q
  have X15 := r1.nx F9
  have S15 := S9.nx X15 F9
  have P15 := P9.nx2 X15 F9 nz ph
  have K15 := X15.sk F9 K9
  have hA : nv M15 (h + 1) < 2 ^ (30 * 17) := by
    rw [q2] at r4
    exact Int.lt_of_le_of_lt r4 x4.1
  have hB : nv M15 (h + 3) < 2 ^ (30 * 17) := by
    rcases r7 with w | w
    · exact Int.lt_of_le_of_lt w (by decide +kernel)
    · rw [q3, Int.one_mul] at w
      exact Int.lt_of_le_of_lt w x4.2
  obtain ⟨-, -, -, -, -, ⟨j1, j3, j5, j7, -⟩, -⟩ := id hS
  have TL : ∀ x, Tsh s n h x → x ∈ L := fun x hx => by
    rcases hx with (w | w | w | w) | w | w | w
    · rw [w]; exact j1
    · rw [w]; exact j3
    · rw [w]; exact j5
    · rw [w]; exact j7
    · rw [w]; exact c1
    · rw [w]; exact c2.2.1
    · rw [w]; exact c2.2.2
  have O0 : ∀ x, Csh t pr h x → Oc L M2 x := fun x hx => by
    rcases hx with w | w | w
    · rw [w]; exact hp.2.2.1.1
    · rw [w]; exact hp.2.2.1.2.1
    · exact X9.2.1.2.1 x w
  have O9 : ∀ x, Csh t pr h x → Oc L M9 x := fun x hx => X9.oc hF (O0 x hx)
  have O15 : ∀ x, Csh t pr h x → Oc L M15 x := fun x hx => X15.oc F9 (O9 x hx)
  have Y1 : NX L W (Tsh s n h) (Csh t pr h) False (s + 1) M2 M9 := X9.mono hF (fun x w => Or.inr (Or.inr w)) TL (fun x w => Or.inr (Or.inr w)) O0 id
  have Y2 : NX L W (Tsh s n h) (Csh t pr h) False (s + 1) M9 M15 := X15.mono F9 (fun x w => w.elim Or.inl (fun w => Or.inr (Or.inr w))) TL (fun x w => Or.inr (Or.inr w)) O9 id
  have ot9 := X9.oth hp.2.2.1.1 nz.1
  have ot15 := X15.oth P9.2.2.1.1 nz.1
  refine ⟨X15.ok, s_pr15 (d := d + 3) X15.ok X15.nf K15 S15 P15 pz hA hB wn (fun x M' ix XM PM hc oi => ⟨ix, Or.inr ⟨(Y1.trans Y2).trans (XM.mono X15.nf (fun x w => Or.inr (Or.inl w)) TL (fun x w => w.elim Or.inl (fun w => Or.inr (Or.inl w))) O15 id), PM, hc, fun i hi => ?_⟩⟩)⟩
  rw [oi i hi, ot15.2.2.2 th, ot9.2.2.2 th]
end NCK
end
section
/-! The class's top: its four tables (0 values, 1 withins, 2 earlier, 3 judged). -/
section NCL
variable {G : mG} {d t g s b i j a Ra n cn cc bc z w : Nat} {v R k : Nat → Nat} {M M0 M' M1 : mM} {L L' : List Nat} {W : Nat → Nat} {T C S : Nat → Prop} {r : Prop}
/-- where a table lies -/
def Tb1 (L : List Nat) (M : mM) (s b a Ra n : Nat) : Prop := RwT L M a Ra n ∧ (∀ i, i < n → b ≤ mR M Ra i) ∧ RwD M Ra n ∧ n ≤ 512 ∧ (s + 134 < a ∧ s + 134 < Ra)
/-- where the four tables lie -/
def Tb0 (L : List Nat) (M : mM) (s b : Nat) (v R k : Nat → Nat) : Prop := (∀ i, i < 4 → Tb1 L M s b (v i) (R i) (k i)) ∧ (∀ i j, i < 4 → j < 4 → i ≠ j → Rsp M (R i) (k i) (R j) (k j) ∧ v i ≠ v j ∧ R i ≠ R j)
/-- what a known table holds -/
def Tk (M : mM) (cn a Ra n : Nat) : Prop := mI M a 1 ≠ 0 → cn ≤ n ∧ Rsm M Ra cn 17 ∧ Rt1 M Ra cn
theorem NX.rwt (q : NX L W T C r z M M') (hF : NF L W M) (h : RwT L M a Ra n) (ha : a ≠ z) (hR : Ra ≠ z) : RwT L M' a Ra n ∧ mR M' Ra = mR M Ra := by
  obtain ⟨h1, h2, h3, h4, ⟨h5, h6⟩, h7⟩ := h
  have oa := q.oth h5 ha
  have oR := q.oth h6 hR
  exact ⟨⟨by rw [oa.1]; exact h1, by rw [oa.2.2.1]; exact h2, by rw [oR.1]; exact h3, by rw [oR.2.1]; exact h4, ⟨q.oc hF h5, q.oc hF h6⟩, fun i hi => by rw [oR.2.2.1]; exact (q.frl hF (h7 i hi)).1⟩, oR.2.2.1⟩
theorem Tb1.nx (h : Tb1 L M s b a Ra n) (q : NX L W T C r (s + 1) M M') (hF : NF L W M) : Tb1 L M' s b a Ra n ∧ mR M' Ra = mR M Ra := by
  obtain ⟨h1, h2, h3, h4, h5, h6⟩ := h
  obtain ⟨k1, k2⟩ := q.rwt hF h1 (by omega) (by omega)
  exact ⟨⟨k1, by rw [k2]; exact h2, by unfold RwD; rw [k2]; exact h3, h4, h5, h6⟩, k2⟩
theorem Tb0.nx (h : Tb0 L M s b v R k) (q : NX L W T C r (s + 1) M M') (hF : NF L W M) : Tb0 L M' s b v R k := by
  refine ⟨fun i hi => ((h.1 i hi).nx q hF).1, fun i j hi hj ij => ?_⟩
  obtain ⟨a1, a2⟩ := h.2 i j hi hj ij
  refine ⟨?_, a2⟩
  unfold Rsp
  rw [((h.1 i hi).nx q hF).2, ((h.1 j hj).nx q hF).2]
  exact a1
/-- the rows are the same -/
theorem Tk.keep (h : Tk M cn a Ra n) (e1 : mI M' a 1 = mI M a 1 ∨ mI M' a 1 = 0) (eR : mR M' Ra = mR M Ra) (e : ∀ i, i < n → nv M' (mR M Ra i + 1) = nv M (mR M Ra i + 1) ∧ nv M' (mR M Ra i + 3) = nv M (mR M Ra i + 3) ∧ mI M' (mR M Ra i) = mI M (mR M Ra i)) : Tk M' cn a Ra n := by
  intro kn
  rcases e1 with e1 | e1
  · rw [e1] at kn
    obtain ⟨k1, k2, k3⟩ := h kn
    refine ⟨k1, fun i hi => ?_, fun i hi => ?_⟩
    · rw [eR, (e i (by omega)).1, (e i (by omega)).2.1]; exact k2 i hi
    · rw [eR, (e i (by omega)).2.2]; exact k3 i hi
  · exact absurd e1 kn
/-- a table of which nothing is touched holds what it held -/
theorem Tk.nx (h : Tk M cn a Ra n) (h1 : Tb1 L M s b a Ra n) (q : NX L W T C r (s + 1) M M') (hF : NF L W M) (ha : ¬ C a) (hT : ∀ i, i < n → ¬ T (mR M Ra i + 1) ∧ ¬ T (mR M Ra i + 3) ∧ ¬ C (mR M Ra i)) : Tk M' cn a Ra n := by
  have oa := q.oth h1.1.2.2.2.2.1.1 (show a ≠ s + 1 by have := h1.2.2.2.2; omega)
  refine h.keep (Or.inl (by rw [oa.2.2.2 ha])) (h1.nx q hF).2 (fun i hi => ?_)
  obtain ⟨t1, t3, c⟩ := hT i hi
  have fl := h1.1.2.2.2.2.2 i hi
  exact ⟨(q.num hF fl.2.1 t1).2.2, (q.num hF fl.2.2 t3).2.2, (q.frl hF fl).2 c⟩
theorem Tb1.fi (h : Tb1 L M s b a Ra n) (f : FI S M M') : Tb1 L M' s b a Ra n := by
  obtain ⟨⟨h1, h2, h3, h4, ⟨h5, h6⟩, h7⟩, h8, h9, h10, h11⟩ := h
  exact ⟨⟨by rw [f.1]; exact h1, by rw [f.2.2.1]; exact h2, by rw [f.1]; exact h3, by rw [f.2.1]; exact h4, ⟨h5.fi f, h6.fi f⟩, fun i hi => by rw [f.2.2.1]; exact (h7 i hi).fi f⟩, by rw [f.2.2.1]; exact h8, by unfold RwD; rw [f.2.2.1]; exact h9, h10, h11⟩
theorem Tb0.fi (h : Tb0 L M s b v R k) (f : FI S M M') : Tb0 L M' s b v R k := ⟨fun i hi => (h.1 i hi).fi f, fun i j hi hj ij => ⟨by unfold Rsp; rw [f.2.2.1]; exact (h.2 i j hi hj ij).1, (h.2 i j hi hj ij).2⟩⟩
theorem Tk.fi (h : Tk M cn a Ra n) (h1 : Tb1 L M s b a Ra n) (hF : NF L W M) (f : FI S M M') (o : mOk M') (hz : s + 1 < mZ M ∧ mK M (s + 1) = 9) (hS : ∀ x, S x → Oc L M x ∧ mK M x ≠ 11) (e1 : mI M' a 1 = mI M a 1 ∨ mI M' a 1 = 0) : Tk M' cn a Ra n := by
  have nvs := (f.nx (T := fun _ => False) (r := False) (z := s + 1) o hF (fun _ u => u.elim) (fun x u => (hS x u).1) hz).2
  refine h.keep e1 (by rw [f.2.2.1]) (fun i hi => ?_)
  have fl := h1.1.2.2.2.2.2 i hi
  exact ⟨nvs _ fl.2.1, nvs _ fl.2.2, f.2.2.2.2.2.2 _ (fun u => (hS _ u).2 fl.1.1)⟩
theorem Tb1.gw (h : Tb1 L M s b a Ra n) (q : Gw L W w M L' M') (ne : a ≠ w) : Tb1 L' M' s b a Ra n ∧ mR M' Ra = mR M Ra := by
  obtain ⟨⟨h1, h2, h3, h4, ⟨h5, h6⟩, h7⟩, h8, h9, h10, h11⟩ := h
  have gg := q
  obtain ⟨o', -, l1, l2, f, na, ka⟩ := q
  have nR : Ra ≠ w := fun e => by rw [e, ka] at h3; omega
  have fa := f.2 a h5.1
  have fR := f.2 Ra h6.1
  have eR := fR.2.2.2.1 nR
  exact ⟨⟨⟨by rw [fa.1]; exact h1, by rw [fa.2.2.2.1 ne]; exact h2, by rw [fR.1]; exact h3, by rw [fR.2.1]; exact h4, ⟨gg.oc h5, gg.oc h6⟩, fun i hi => by rw [eR]; exact (gg.frl (h7 i hi)).1⟩, by rw [eR]; exact h8, by unfold RwD; rw [eR]; exact h9, h10, h11⟩, eR⟩
theorem Tk.gw (h : Tk M cn a Ra n) (h1 : Tb1 L M s b a Ra n) (q : Gw L W w M L' M') (ne : a ≠ w) : Tk M' cn a Ra n := by
  have eR := (h1.gw q ne).2
  have ea : mI M' a = mI M a := (q.2.2.2.2.1.2 a h1.1.2.2.2.2.1.1.1).2.2.2.2 (fun u => u)
  refine h.keep (Or.inl (by rw [ea])) eR (fun i hi => ?_)
  have fl := h1.1.2.2.2.2.2 i hi
  exact ⟨(q.rf fl.2.1).2.1, (q.rf fl.2.2).2.1, (q.frl fl).2⟩
/-- one place of a list of places is another -/
def up1 (f : Nat → Nat) (i x : Nat) : Nat → Nat := fun j => if j = i then x else f j
theorem up1_s {f : Nat → Nat} {x : Nat} : up1 f i x i = x := if_pos rfl
theorem up1_n {f : Nat → Nat} {x : Nat} (h : j ≠ i) : up1 f i x j = f j := if_neg h
/-- one table grows -/
theorem Tb0.gw {R' k' : Nat} (h : Tb0 L M s b v R k) (hb : b ≤ mZ M) (i4 : i < 4) (q : Gw L W (v i) M L' M') (te : RwT L' M' (v i) R' k') (hD : RwD M' R' k') (k5 : k' ≤ 512) (gr : R' = R i ∨ R' = mZ M) (p1 : ∀ j, j < k i → mR M' R' j = mR M (R i) j) (p2 : ∀ j, k i ≤ j → j < k' → mR M' R' j = mZ M + 1 + 5 * (j - k i)) : Tb0 L' M' s b v (up1 R i R') (up1 k i k') := by
  obtain ⟨h1, h2⟩ := h
  have ti := h1 i i4
  have lz : ∀ j, j < 4 → R j < mZ M := fun j hj => (h1 j hj).1.2.2.2.2.1.2.1
  have R5 : s + 134 < R' := by
    have a1 := ti.2.2.2.2.2
    have a2 := lz i i4
    rcases gr with e | e <;> omega
  have one : ∀ j, j < 4 → Tb1 L' M' s b (v j) (up1 R i R' j) (up1 k i k' j) := fun j hj => by
    by_cases c : j = i
    · subst c
      rw [up1_s, up1_s]
      refine ⟨te, fun l hl => ?_, hD, k5, ti.2.2.2.2.1, R5⟩
      by_cases c : l < k j
      · rw [p1 l c]; exact ti.2.1 l c
      · rw [p2 l (by omega) hl]; omega
    · rw [up1_n c, up1_n c]
      exact ((h1 j hj).gw q (h2 j i hj i4 c).2.1).1
  have two : ∀ l, l < 4 → l ≠ i → Rsp M' R' k' (R l) (k l) ∧ R' ≠ R l := fun l hl c => by
    have el := ((h1 l hl).gw q (h2 l i hl i4 c).2.1).2
    obtain ⟨o1, o2, o3⟩ := h2 i l i4 hl (fun e => c e.symm)
    refine ⟨fun x y hx hy => ?_, ?_⟩
    · rw [el]
      by_cases cx : x < k i
      · rw [p1 x cx]; exact o1 x y cx hy
      · rw [p2 x (by omega) hx]
        have fl := (h1 l hl).1.2.2.2.2.2 y hy
        have z3 := (q.2.1.1.lt fl.2.2).1
        exact ⟨by omega, by omega, by omega⟩
    · have := lz l hl
      rcases gr with e | e
      · rw [e]; exact o3
      · omega
  refine ⟨one, fun j l hj hl jl => ?_⟩
  have vv := (h2 j l hj hl jl).2.1
  by_cases c : j = i
  · subst c
    rw [up1_s, up1_s, up1_n (fun e => jl e.symm), up1_n (fun e => jl e.symm)]
    exact ⟨(two l hl (fun e => jl e.symm)).1, vv, (two l hl (fun e => jl e.symm)).2⟩
  · rw [up1_n c, up1_n c]
    by_cases c2 : l = i
    · subst c2
      rw [up1_s, up1_s]
      exact ⟨fun x y hx hy => ((two j hj c).1 y x hy hx).sym, vv, fun e => (two j hj c).2 e.symm⟩
    · rw [up1_n c2, up1_n c2]
      have ej := ((h1 j hj).gw q (h2 j i hj i4 c).2.1).2
      have el := ((h1 l hl).gw q (h2 l i hl i4 c2).2.1).2
      refine ⟨?_, vv, (h2 j l hj hl jl).2.2⟩
      unfold Rsp
      rw [ej, el]
      exact (h2 j l hj hl jl).1
end NCL
end
section
/-! The class's top: its numbers at rest. -/
section NCM
variable {G : mG} {d t g s b i j a Ra n cn cc bc z w : Nat} {v R k : Nat → Nat} {M M0 M' M1 : mM} {L L' : List Nat} {W : Nat → Nat} {T C S Z : Nat → Prop} {r : Prop}
/-- the Solver without a table -/
def Sb (L : List Nat) (W : Nat → Nat) (s g cn cc bc : Nat) (M : mM) : Prop := SG M s g cn cc bc ∧ (NF L W M ∧ SK L M (s + 1) ∧ RsK L M (s + 31) ∧ FrL L M (s + 130)) ∧ (∀ x, Stb s x → Oc L M x) ∧ (∀ i, i ≤ 9 → Oc L M (g + i))
theorem Sb.sva (h : Sb L W s g cn cc bc M) (hb : s + 134 < b) (ht : Tb1 L M s b a Ra n) : Sva L W s g a Ra n cn cc bc M := ⟨h.1, h.2.1, h.2.2.1, h.2.2.2, ht.1, fun i hi => by have := ht.2.1 i hi; omega, ht.2.2.1⟩
theorem Sva.sb (h : Sva L W s g a Ra n cn cc bc M) : Sb L W s g cn cc bc M := ⟨h.1, h.2.1, h.2.2.1, h.2.2.2.1⟩
/-- the numbers at rest: b is where the rows may begin -/
def Nms (L : List Nat) (W : Nat → Nat) (s g b cn cc bc : Nat) (v R k : Nat → Nat) (M : mM) : Prop := Sb L W s g cn cc bc M ∧ Tb0 L M s b v R k ∧ (s + 134 < b ∧ b ≤ mZ M) ∧ (∀ i, i < 4 → i ≠ 2 → Tk M cn (v i) (R i) (k i))
theorem chs_same (h : Chs M s g cn) (e3 : mI M' (s + 30) = mI M (s + 30)) (e4 : mI M' (g + 4) = mI M (g + 4)) : Chs M' s g cn := by
  unfold Chs at h ⊢
  rw [e3, e4]
  exact h
theorem tso_lo {x : Nat} (h : Tso s M Ra n x) : (s ≤ x ∧ x ≤ s + 134) ∨ Trw M Ra n x := by
  rcases h with u | ⟨u | ⟨i, hi, u⟩⟩ | u | u
  · left; unfold Tpk T4 Tor T2 at u; omega
  · left; omega
  · left; omega
  · left; unfold T2 at u; omega
  · exact Or.inr u
theorem cso_lo {x : Nat} (h : Cso s M Ra n x) : (s ≤ x ∧ x ≤ s + 134) ∨ Irw M Ra n x := by
  rcases h with u | u | u | u | u | u
  · left; unfold Ipk at u; omega
  · left; unfold Stb at u; omega
  · left; unfold S36 at u; omega
  · left; omega
  · left; omega
  · exact Or.inr u
/-- rows of two tables: what touches one leaves the other -/
theorem rsp_no {R1 k1 R2 k2 l : Nat} (h : Rsp M R1 k1 R2 k2) (hn : n ≤ k1) (hl : l < k2) : ¬ Trw M R1 n (mR M R2 l + 1) ∧ ¬ Trw M R1 n (mR M R2 l + 3) ∧ ¬ Irw M R1 n (mR M R2 l) := by
  refine ⟨?_, ?_, ?_⟩
  · rintro ⟨i, hi, u⟩
    obtain ⟨f1, f2, f3⟩ := h i l (by omega) hl
    unfold T2 at u
    omega
  · rintro ⟨i, hi, u⟩
    obtain ⟨f1, f2, f3⟩ := h i l (by omega) hl
    unfold T2 at u
    omega
  · rintro ⟨i, hi, u⟩
    obtain ⟨f1, f2, f3⟩ := h i l (by omega) hl
    omega
/-- a step of numbers that touches table i alone -/
theorem Nms.nx3 (h : Nms L W s g b cn cc bc v R k M) (i4 : i < 4) (q : NX L W T C r (s + 1) M M') (hn : n ≤ k i) (hT : ∀ x, T x → (s ≤ x ∧ x ≤ s + 134) ∨ Trw M (R i) n x) (hC : ∀ x, C x → (s ≤ x ∧ x ≤ s + 134) ∨ Irw M (R i) n x ∨ mK M x = 30) : Tb0 L M' s b v R k ∧ (∀ j, j < 4 → mR M' (R j) = mR M (R j) ∧ mI M' (v j) = mI M (v j)) ∧ (∀ j, j < 4 → j ≠ 2 → j ≠ i → Tk M' cn (v j) (R j) (k j)) := by
  obtain ⟨sb, tb, ⟨b1, b2⟩, tk⟩ := h
  have hF := sb.2.1.1
  have nC : ∀ j, j < 4 → ¬ C (v j) := fun j hj u => by
    have kv := (tb.1 j hj).1.1
    have lv := (tb.1 j hj).2.2.2.2.1
    rcases hC _ u with w | ⟨l, hl, w⟩ | w
    · omega
    · have := ((tb.1 i i4).1.2.2.2.2.2 l (by omega)).1.1
      rw [← w, kv] at this
      omega
    · rw [kv] at w
      exact absurd w (by decide)
  refine ⟨tb.nx q hF, fun j hj => ⟨((tb.1 j hj).nx q hF).2, ?_⟩, fun j hj j2 ji => ?_⟩
  · exact (q.oth (tb.1 j hj).1.2.2.2.2.1.1 (by have := (tb.1 j hj).2.2.2.2.1; omega)).2.2.2 (nC j hj)
  · refine (tk j hj j2).nx (tb.1 j hj) q hF (nC j hj) (fun l hl => ?_)
    have bl := (tb.1 j hj).2.1 l hl
    obtain ⟨n1, n2, n3⟩ := rsp_no (tb.2 i j i4 hj (fun e => ji e.symm)).1 hn hl
    refine ⟨fun u => ?_, fun u => ?_, fun u => ?_⟩
    · rcases hT _ u with w | w
      · omega
      · exact n1 w
    · rcases hT _ u with w | w
      · omega
      · exact n2 w
    · rcases hC _ u with w | w | w
      · omega
      · exact n3 w
      · rw [((tb.1 j hj).1.2.2.2.2.2 l hl).1.1] at w
        exact absurd w (by decide)
theorem Nms.nx (h : Nms L W s g b cn cc bc v R k M) (i4 : i < 4) (q : NX L W T C r (s + 1) M M') (hn : n ≤ k i) (hT : ∀ x, T x → (s ≤ x ∧ x ≤ s + 134) ∨ Trw M (R i) n x) (hC : ∀ x, C x → (s ≤ x ∧ x ≤ s + 134) ∨ Irw M (R i) n x) : Tb0 L M' s b v R k ∧ (∀ j, j < 4 → mR M' (R j) = mR M (R j) ∧ mI M' (v j) = mI M (v j)) ∧ (∀ j, j < 4 → j ≠ 2 → j ≠ i → Tk M' cn (v j) (R j) (k j)) := h.nx3 i4 q hn hT (fun x u => (hC x u).imp id Or.inl)
/-- the cells of the numbers -/
def Cnu (Z : Nat → Prop) (L : List Nat) (s : Nat) (v R k : Nat → Nat) (M : mM) : Prop := (∀ x, s ≤ x → x ≤ s + 134 → Z x) ∧ (∀ a, a ∈ L → Z a ∧ Z (mR M a 0)) ∧ (∀ i, i < 4 → Z (v i) ∧ Z (R i) ∧ ∀ j, j < k i → Z (mR M (R i) j)) ∧ (Z (R 4) ∧ Ot L M s (R 4) (k 4) ∧ Oc L M s)
/-- only cells of Z have changed -/
def FC (Z : Nat → Prop) (M M' : mM) : Prop := (mZ M ≤ mZ M' ∧ mS M ≤ mS M') ∧ ∀ x, x < mZ M → mK M' x = mK M x ∧ mN M' x = mN M x ∧ (¬ Z x → mL M' x = mL M x ∧ mR M' x = mR M x ∧ mI M' x = mI M x)
/-- with the cells that were made since -/
def Zn (Z : Nat → Prop) (M M' : mM) (x : Nat) : Prop := Z x ∨ (mZ M ≤ x ∧ x < mZ M')
theorem FC.refl : FC Z M M := ⟨⟨Nat.le_refl _, Nat.le_refl _⟩, fun _ _ => ⟨rfl, rfl, fun _ => ⟨rfl, rfl, rfl⟩⟩⟩
theorem FC.trans (h : FC Z M M1) (q : FC (Zn Z M M1) M1 M') : FC Z M M' := by
  obtain ⟨⟨h1, h2⟩, h3⟩ := h
  obtain ⟨⟨q1, q2⟩, q3⟩ := q
  refine ⟨⟨by omega, by omega⟩, fun x hx => ?_⟩
  obtain ⟨a1, a2, a3⟩ := h3 x hx
  obtain ⟨b1, b2, b3⟩ := q3 x (by omega)
  refine ⟨b1.trans a1, b2.trans a2, fun nz => ?_⟩
  have a := a3 nz
  have b := b3 (fun u => u.elim nz (fun u => by omega))
  exact ⟨b.1.trans a.1, b.2.1.trans a.2.1, b.2.2.trans a.2.2⟩
theorem FC.mono {Z' : Nat → Prop} (h : FC Z M M') (hz : ∀ x, x < mZ M → Z x → Z' x) : FC Z' M M' := ⟨h.1, fun x hx => ⟨(h.2 x hx).1, (h.2 x hx).2.1, fun nz => (h.2 x hx).2.2 (fun u => nz (hz x hx u))⟩⟩
theorem Zn.trans {x : Nat} (z1 : mZ M ≤ mZ M1) (z2 : mZ M1 ≤ mZ M') : Zn (Zn Z M M1) M1 M' x ↔ Zn Z M M' x := by
  unfold Zn
  constructor
  · rintro ((u | u) | u)
    · exact Or.inl u
    · right; omega
    · right; omega
  · rintro (u | u)
    · exact Or.inl (Or.inl u)
    · by_cases c : x < mZ M1
      · exact Or.inl (Or.inr ⟨u.1, c⟩)
      · right; omega
theorem FD.fc {S' R' D' : Nat → Prop} (h : FD S' R' D' M M') (h1 : ∀ x, S' x → Z x) (h2 : ∀ x, R' x → Z x) (h3 : ∀ x, D' x → Z x) : FC Z M M' := ⟨h.1, fun x hx => ⟨(h.2 x hx).1, (h.2 x hx).2.1, fun nz => ⟨(h.2 x hx).2.2.1 (fun u => nz (h3 x u)), (h.2 x hx).2.2.2.1 (fun u => nz (h2 x u)), (h.2 x hx).2.2.2.2 (fun u => nz (h1 x u))⟩⟩⟩
theorem FA.fc {S' R' : Nat → Prop} (h : FA S' R' M M') (h1 : ∀ x, S' x → Z x) (h2 : ∀ x, R' x → Z x) : FC Z M M' := ⟨h.1, fun x hx => ⟨(h.2 x hx).1, (h.2 x hx).2.1, fun nz => ⟨(h.2 x hx).2.2.1, (h.2 x hx).2.2.2.1 (fun u => nz (h2 x u)), (h.2 x hx).2.2.2.2 (fun u => nz (h1 x u))⟩⟩⟩
theorem FI.fc (h : FI S M M') (h1 : ∀ x, S x → Z x) : FC Z M M' := (h.fa (R := fun _ => False)).fc h1 (fun _ u => u.elim)
/-- a step of numbers: its cells, and the cells after it -/
theorem NX.fc (q : NX L W T C r (s + 1) M M') (hF : NF L W M) (hc : Cnu Z L s v R k M) (tb : Tb0 L M s b v R k) (hC : ∀ x, C x → Z x) : FC Z M M' ∧ Cnu (Zn Z M M') L s v R k M' := by
  obtain ⟨c1, c2, c3, c4, c5, c6⟩ := hc
  have hq := q
  obtain ⟨-, ⟨h2, -, hz⟩, h3, h4, -⟩ := q
  refine ⟨h3.fc (fun x u => ?_) (fun x u => ?_) (fun x u => ?_), fun x a1 a2 => Or.inl (c1 x a1 a2), fun a ha => ⟨Or.inl (c2 a ha).1, ?_⟩, fun i hi => ⟨Or.inl (c3 i hi).1, Or.inl (c3 i hi).2.1, fun j hj => ?_⟩, Or.inl c4, c5.nx hq hF c6, hq.oc hF c6⟩
  · rcases u with (u | ⟨t, ht, u⟩) | u
    · exact (c2 x (h2 x u)).1
    · rw [u]; exact (c2 t (h2 t ht)).2
    · exact hC x u
  · rcases u with u | u
    · exact (c2 x (h2 x u)).1
    · rw [u.1]; exact c1 _ (by omega) (by omega)
  · exact c1 x (by omega) (by omega)
  · by_cases c : T a
    · rcases h4 a c with e | e
      · rw [e]; exact Or.inl (c2 a ha).2
      · exact Or.inr ⟨e, (hq.nf.lt ha).2⟩
    · rw [(hq.num hF ha c).1]; exact Or.inl (c2 a ha).2
  · rw [((tb.1 i hi).nx hq hF).2]; exact Or.inl ((c3 i hi).2.2 j hj)
end NCM
end
section
/-! The class's top: steps of its numbers; the room they take. -/
section NCN
variable {G : mG} {d t g s b i j a Ra n cn cc bc z w R' k' : Nat} {v R k Rn kn : Nat → Nat} {M M0 M' M1 : mM} {L L' : List Nat} {W : Nat → Nat} {T C S Z : Nat → Prop} {r : Prop}
/-- the room of a table's array: the last growth may be a small one -/
def pk4 (k : Nat) : Nat := 2 * k + (if k = 512 then 512 else 0)
def Pn (L : List Nat) (k : Nat → Nat) (M : mM) : Nat := 2 * psum (cp M) L + (pk4 (k 0) + pk4 (k 1) + pk4 (k 2) + pk4 (k 3)) + k 4
def Qn (L : List Nat) (k : Nat → Nat) (M : mM) : Nat := psum (fun p => cp M p / 4) L + 4 * (k 0 + k 1 + k 2 + k 3) + k 4 / 2400
/-- the room that a step of numbers takes -/
def Rq (L : List Nat) (k : Nat → Nat) (M : mM) (L' : List Nat) (kn : Nat → Nat) (M' : mM) : Prop := mS M' + Pn L k M ≤ mS M + Pn L' kn M' ∧ mZ M' + Qn L k M ≤ mZ M + Qn L' kn M' ∧ L'.length + 2 * (k 0 + k 1 + k 2 + k 3) ≤ L.length + 2 * (kn 0 + kn 1 + kn 2 + kn 3) ∧ (∀ x, x ∈ L → x ∈ L') ∧ ∀ f, FrL L M f → FrL L' M' f
theorem Rq.refl : Rq L k M L k M := ⟨Nat.le_refl _, Nat.le_refl _, Nat.le_refl _, fun _ u => u, fun _ u => u⟩
theorem Rq.trans {L1 : List Nat} {k1 : Nat → Nat} (h : Rq L k M L1 k1 M1) (q : Rq L1 k1 M1 L' kn M') : Rq L k M L' kn M' := by
  obtain ⟨h1, h2, h3, h4, h5⟩ := h
  obtain ⟨q1, q2, q3, q4, q5⟩ := q
  exact ⟨by omega, by omega, by omega, fun x u => q4 x (h4 x u), fun f u => q5 f (h5 f u)⟩
theorem NX.rq (q : NX L W T C r z M M') (hF : NF L W M) : Rq L k M L k M' := by
  obtain ⟨h1, h2⟩ := q.2.2.2.2
  unfold Rq Pn Qn
  exact ⟨by omega, by omega, Nat.le_refl _, fun _ u => u, fun f u => (q.frl hF u).1⟩
theorem FI.rq (f : FI S M M') : Rq L k M L k M' := by
  have cc : cp M' = cp M := by funext x; unfold cp; rw [f.2.2.1, f.2.1]
  unfold Rq Pn Qn
  rw [cc, f.2.2.2.2.1, f.2.2.2.2.2.1]
  exact ⟨Nat.le_refl _, Nat.le_refl _, Nat.le_refl _, fun _ u => u, fun x u => u.fi f⟩
/-- a sum over four places of which one has changed -/
theorem four_up {f : Nat → Nat} (i4 : i < 4) : f (up1 k i k' 0) + f (up1 k i k' 1) + f (up1 k i k' 2) + f (up1 k i k' 3) + f (k i) = f (k 0) + f (k 1) + f (k 2) + f (k 3) + f k' := by
  have : i = 0 ∨ i = 1 ∨ i = 2 ∨ i = 3 := by omega
  rcases this with e | e | e | e <;> subst e <;> simp only [up1] <;> simp <;> omega
theorem rv_rq (i4 : i < 4) (gw : Gw L W w M L' M') (h : (M' = M ∧ L' = L ∧ R' = R i ∧ k' = k i) ∨ rvG L M (R i) (k i) L' M' R' k') : Rq L k M L' (up1 k i k') M' := by
  have l1 := gw.2.2.1
  have lf : ∀ f, FrL L M f → FrL L' M' f := fun f u => (gw.frl u).1
  clear gw
  have f1 := four_up (k := k) (k' := k') (f := pk4) i4
  have f2 := four_up (k := k) (k' := k') (f := fun x => x) i4
  have f4 : up1 k i k' 4 = k 4 := up1_n (by omega)
  rcases h with ⟨e1, e2, -, e4⟩ | ⟨-, ⟨c1, c2, c3⟩, l, ⟨z1, z2⟩, p1, p2⟩
  · subst e1 e2
    rw [e4] at f1 f2 f4 ⊢
    unfold Rq Pn Qn
    exact ⟨by omega, by omega, by omega, l1, lf⟩
  · have pk1 : pk4 (k i) + k' ≤ pk4 k' := by
      unfold pk4
      rw [if_neg (by omega)]
      split <;> omega
    unfold Rq Pn Qn
    exact ⟨by omega, by omega, by omega, l1, lf⟩
/-- ints of other cells change -/
theorem Nms.fi (h : Nms L W s g b cn cc bc v R k M) (f : FI S M M') (o : mOk M') (hS : ∀ x, S x → Oc L M x ∧ mK M x ≠ 11) (sb' : Sb L W s g cn cc bc M') (e1 : ∀ j, j < 4 → j ≠ 2 → mI M' (v j) 1 = mI M (v j) 1 ∨ mI M' (v j) 1 = 0) : Nms L W s g b cn cc bc v R k M' := by
  obtain ⟨sb, tb, ⟨b1, b2⟩, tk⟩ := h
  exact ⟨sb', tb.fi f, ⟨b1, by rw [f.2.2.2.2.1]; exact b2⟩, fun j hj j2 => (tk j hj j2).fi (tb.1 j hj) sb.2.1.1 f o sb.2.1.2.1.z9 hS (e1 j hj j2)⟩
theorem Nms.nx23 (h : Nms L W s g b cn cc bc v R k M) (i4 : i < 4) (q : NX L W T C r (s + 1) M M') (hn : n ≤ k i) (hT : ∀ x, T x → (s ≤ x ∧ x ≤ s + 134) ∨ Trw M (R i) n x) (hC : ∀ x, C x → (s ≤ x ∧ x ≤ s + 134) ∨ Irw M (R i) n x ∨ mK M x = 30) (sb' : Sb L W s g cn cc bc M') (ti : i ≠ 2 → Tk M' cn (v i) (R i) (k i)) : Nms L W s g b cn cc bc v R k M' := by
  obtain ⟨a1, a2, a3⟩ := h.nx3 i4 q hn hT hC
  refine ⟨sb', a1, ⟨h.2.2.1.1, Nat.le_trans h.2.2.1.2 q.2.2.1.1.1⟩, fun j hj j2 => ?_⟩
  by_cases c : j = i
  · subst c; exact ti j2
  · exact a3 j hj j2 c
theorem Nms.nx2 (h : Nms L W s g b cn cc bc v R k M) (i4 : i < 4) (q : NX L W T C r (s + 1) M M') (hn : n ≤ k i) (hT : ∀ x, T x → (s ≤ x ∧ x ≤ s + 134) ∨ Trw M (R i) n x) (hC : ∀ x, C x → (s ≤ x ∧ x ≤ s + 134) ∨ Irw M (R i) n x) (sb' : Sb L W s g cn cc bc M') (ti : i ≠ 2 → Tk M' cn (v i) (R i) (k i)) : Nms L W s g b cn cc bc v R k M' := h.nx23 i4 q hn hT (fun x u => (hC x u).imp id Or.inl) sb' ti
/-- one table grows, which isn't known -/
theorem Nms.gw (h : Nms L W s g b cn cc bc v R k M) (i4 : i < 4) (q : Gw L W (v i) M L' M') (te : Te L' W (s + 1) g (v i) R' k' M') (k5 : k' ≤ 512) (gr : (M' = M ∧ L' = L ∧ R' = R i ∧ k' = k i) ∨ rvG L M (R i) (k i) L' M' R' k') (p1 : ∀ j, j < k i → mR M' R' j = mR M (R i) j) (p2 : ∀ j, k i ≤ j → j < k' → mR M' R' j = mZ M + 1 + 5 * (j - k i)) (fl : mI M (v i) 1 = 0) : Nms L' W s g b cn cc bc v (up1 R i R') (up1 k i k') M' ∧ Sva L' W s g (v i) R' k' cn cc bc M' := by
  obtain ⟨sb, tb, ⟨b1, b2⟩, tk⟩ := h
  have gr' : R' = R i ∨ R' = mZ M := by
    rcases gr with e | e
    · exact Or.inl e.2.2.1
    · exact Or.inr e.1
  have tb' := tb.gw b2 i4 q te.2.2.1 te.2.2.2.2 k5 gr' p1 p2
  have ti' := tb'.1 i i4
  rw [up1_s, up1_s] at ti'
  obtain ⟨sv', -, -⟩ := (sb.sva b1 (tb.1 i i4)).gw q te (fun j hj => by have := ti'.2.1 j hj; omega)
  have ei : ∀ j, j < 4 → mI M' (v j) = mI M (v j) := fun j hj => (q.2.2.2.2.1.2 _ (tb.1 j hj).1.2.2.2.2.1.1.1).2.2.2.2 (fun u => u)
  refine ⟨⟨sv'.sb, tb', ⟨b1, Nat.le_trans b2 q.2.2.2.2.1.1.1⟩, fun j hj j2 => ?_⟩, sv'⟩
  by_cases c : j = i
  · subst c
    rw [up1_s, up1_s]
    intro kn
    rw [ei j hj] at kn
    exact absurd fl kn
  · rw [up1_n c, up1_n c]
    exact (tk j hj j2).gw (tb.1 j hj) q (tb.2 j i hj i4 c).2.1
/-- its cells -/
theorem Gw.fc (q : Gw L W (v i) M L' M') (i4 : i < 4) (hc : Cnu Z L s v R k M) (tb : Tb0 L M s b v R k) (te : Te L' W (s + 1) g (v i) R' k' M') (gr : (M' = M ∧ L' = L ∧ R' = R i ∧ k' = k i) ∨ rvG L M (R i) (k i) L' M' R' k') (p1 : ∀ j, j < k i → mR M' R' j = mR M (R i) j) (p2 : ∀ j, k i ≤ j → j < k' → mR M' R' j = mZ M + 1 + 5 * (j - k i)) : FC Z M M' ∧ Cnu (Zn Z M M') L' s v (up1 R i R') (up1 k i k') M' := by
  obtain ⟨c1, c2, c3, c4, c5, c6⟩ := hc
  have vi5 := (tb.1 i i4).2.2.2.2.1
  have l2 := q.2.2.2.1
  have f := q.2.2.2.2.1
  have fl := te.2.2.1.2.2.2.2.2
  refine ⟨f.fc (fun _ u => u.elim) (fun x u => by rw [u]; exact (c3 i i4).1), fun x a1 a2 => Or.inl (c1 x a1 a2), fun a ha => ?_, fun j hj => ⟨Or.inl (c3 j hj).1, ?_⟩, by rw [up1_n (show 4 ≠ i by omega)]; exact Or.inl c4, by rw [up1_n (show 4 ≠ i by omega), up1_n (show 4 ≠ i by omega)]; exact c5.gw q (by omega) c6.1, q.oc c6⟩
  · have lt := q.2.1.2.lt ha
    rcases l2 a ha with u | u
    · rw [(q.rf u).1]
      exact ⟨Or.inl (c2 a u).1, Or.inl (c2 a u).2⟩
    · exact ⟨Or.inr ⟨by omega, lt.1⟩, Or.inr ⟨by omega, lt.2⟩⟩
  · by_cases c : j = i
    · subst c
      rw [up1_s, up1_s]
      refine ⟨?_, fun l hl => ?_⟩
      · rcases gr with e | e
        · rw [e.2.2.1]; exact Or.inl (c3 j hj).2.1
        · rw [e.1]; exact Or.inr ⟨Nat.le_refl _, by have := e.2.2.2.1.1; omega⟩
      · by_cases cl : l < k j
        · rw [p1 l cl]; exact Or.inl ((c3 j hj).2.2 l cl)
        · have z := (fl l hl).1.2.2
          have e := p2 l (by omega) hl
          exact Or.inr ⟨by omega, z⟩
    · rw [up1_n c, up1_n c, ((tb.1 j hj).gw q (tb.2 j i hj i4 c).2.1).2]
      exact ⟨Or.inl (c3 j hj).2.1, fun l hl => Or.inl ((c3 j hj).2.2 l hl)⟩
theorem FI.cnu (f : FI S M M') (hc : Cnu Z L s v R k M) : Cnu (Zn Z M M') L s v R k M' := by
  obtain ⟨c1, c2, c3, c4, c5, c6⟩ := hc
  refine ⟨fun x a1 a2 => Or.inl (c1 x a1 a2), fun a ha => ?_, fun i hi => ?_, Or.inl c4, c5.fi f, c6.fi f⟩
  · rw [f.2.2.1]
    exact ⟨Or.inl (c2 a ha).1, Or.inl (c2 a ha).2⟩
  · rw [f.2.2.1]
    exact ⟨Or.inl (c3 i hi).1, Or.inl (c3 i hi).2.1, fun j hj => Or.inl ((c3 i hi).2.2 j hj)⟩
/-- the same cells by another name -/
theorem Cnu.cg {Z' : Nat → Prop} (hc : Cnu Z L s v R k M) (hz : ∀ x, Z x → Z' x) : Cnu Z' L s v R k M := ⟨fun x a b => hz x (hc.1 x a b), fun a ha => ⟨hz _ (hc.2.1 a ha).1, hz _ (hc.2.1 a ha).2⟩, fun i hi => ⟨hz _ (hc.2.2.1 i hi).1, hz _ (hc.2.2.1 i hi).2.1, fun j hj => hz _ ((hc.2.2.1 i hi).2.2 j hj)⟩, hz _ hc.2.2.2.1, hc.2.2.2.2⟩
end NCN
end
section
/-! The class's top: numbers of which nothing was touched. -/
section NCQ
variable {G : mG} {d t g s b e f i j a Ra n cn cc bc cn' cc' bc' z w x Y Cy : Nat} {v R k : Nat → Nat} {M M0 M' M1 : mM} {L L' : List Nat} {W : Nat → Nat} {T C S Z : Nat → Prop} {r : Prop}
theorem FC.sm (h : FC Z M M') (hx : x < mZ M) (nz : ¬ Z x) : Sm M M' x := ⟨(h.2 x hx).1, (h.2 x hx).2.1, ((h.2 x hx).2.2 nz).2.1, ((h.2 x hx).2.2 nz).2.2⟩
theorem SoT.sm (h : SoT M s g) (hs : ∀ x, s ≤ x → x ≤ s + 134 → Sm M M' x) : SoT M' s g := by
  have q := fun i (hi : i ≤ 134) => hs (s + i) (by omega) (by omega)
  obtain ⟨⟨a1, a2⟩, a3, a4, a5⟩ := h
  have s0 := hs s (by omega) (by omega)
  exact ⟨⟨by rw [s0.1]; exact a1, a2⟩, by rw [s0.2.2.1]; exact a3, by rw [(q 29 (by decide)).1, (q 30 (by decide)).1, (q 122 (by decide)).1, (q 123 (by decide)).1, (q 124 (by decide)).1, (q 125 (by decide)).1, (q 126 (by decide)).1, (q 128 (by decide)).1, (q 129 (by decide)).1]; exact a4, by rw [(q 29 (by decide)).2.1, (q 30 (by decide)).2.1, (q 122 (by decide)).2.1, (q 123 (by decide)).2.1, (q 124 (by decide)).2.1, (q 125 (by decide)).2.1, (q 126 (by decide)).2.1, (q 128 (by decide)).2.1, (q 129 (by decide)).2.1]; exact a5⟩
theorem SG.sm (h : SG M s g cn cc bc) (o : mOk M') (hs : ∀ x, s ≤ x → x ≤ s + 134 → Sm M M' x) (hg : ∀ i, i ≤ 9 → Sm M M' (g + i)) : SG M' s g cn cc bc := by
  obtain ⟨-, h2, ⟨b1, b2, b3, b4⟩, ⟨h4, h5⟩, h6⟩ := h
  have g0 := hg 0 (by decide)
  rw [Nat.add_zero] at g0
  exact ⟨o, h2.sm hs, ⟨by rw [g0.1]; exact b1, by rw [g0.2.2.1]; exact b2, fun i i1 i2 => by rw [(hg i i2).1]; exact b3 i i1 i2, by rw [(hg 2 (by decide)).2.1, (hg 4 (by decide)).2.1, (hg 6 (by decide)).2.1, (hg 7 (by decide)).2.1, (hg 8 (by decide)).2.1, (hg 9 (by decide)).2.1]; exact b4⟩, ⟨by rw [g0.2.2.1]; exact h4, by rw [(hg 3 (by decide)).2.1]; exact h5⟩, h6.same (fun i hi => (hg i hi).2.2.2)⟩
theorem Tb1.sm (h : Tb1 L M s b a Ra n) (ha : mK M' a = mK M a ∧ mR M' a = mR M a) (hR : Sm M M' Ra) (hrow : ∀ j, j < n → Sm M M' (mR M Ra j)) (hr : ∀ a, a ∈ L → mR M' a = mR M a) (hz : mZ M ≤ mZ M') : Tb1 L M' s b a Ra n := by
  obtain ⟨⟨h1, h2, h3, h4, ⟨h5, h6⟩, h7⟩, h8, h9, h10, h11⟩ := h
  exact ⟨⟨by rw [ha.1]; exact h1, by rw [ha.2]; exact h2, by rw [hR.1]; exact h3, by rw [hR.2.1]; exact h4, ⟨h5.sm hr hz, h6.sm hr hz⟩, fun i hi => by rw [hR.2.2.1]; exact (h7 i hi).sm (hrow i hi) hz⟩, by rw [hR.2.2.1]; exact h8, by unfold RwD; rw [hR.2.2.1]; exact h9, h10, h11⟩
/-- all cells of the numbers are the same, but for the marks of the tables -/
def Ks (L : List Nat) (s : Nat) (v R k : Nat → Nat) (M M' : mM) : Prop := mZ M ≤ mZ M' ∧ (∀ x, s ≤ x → x ≤ s + 134 → Sm M M' x) ∧ (∀ a, a ∈ L → Sm M M' a ∧ Sm M M' (mR M a 0)) ∧ (∀ i, i < 4 → (mK M' (v i) = mK M (v i) ∧ mR M' (v i) = mR M (v i)) ∧ Sm M M' (R i) ∧ ∀ j, j < k i → Sm M M' (mR M (R i) j))
/-- the same, without the Solver's own cell -/
def Ks0 (L : List Nat) (s : Nat) (v R k : Nat → Nat) (M M' : mM) : Prop := mZ M ≤ mZ M' ∧ (∀ x, s < x → x ≤ s + 134 → Sm M M' x) ∧ (∀ a, a ∈ L → Sm M M' a ∧ Sm M M' (mR M a 0)) ∧ (∀ i, i < 4 → (mK M' (v i) = mK M (v i) ∧ mR M' (v i) = mR M (v i)) ∧ Sm M M' (R i) ∧ ∀ j, j < k i → Sm M M' (mR M (R i) j))
theorem Nms.keep0 (h : Nms L W s g b cn cc bc v R k M) (hk : Ks0 L s v R k M M') (sg : SG M' s g cn' cc' bc') (tk : ∀ i, i < 4 → i ≠ 2 → mI M' (v i) 1 = 0 ∨ (mI M' (v i) 1 = mI M (v i) 1 ∧ cn' = cn) ∨ cn' = 0) : Nms L W s g b cn' cc' bc' v R k M' ∧ ∀ a, a ∈ L → cp M' a = cp M a := by
  obtain ⟨⟨-, ⟨hF, hS, hRs, hf⟩, hSt, hgo⟩, tb, ⟨b1, b2⟩, tk0⟩ := h
  obtain ⟨hz, k1, k2, k3⟩ := hk
  obtain ⟨F', nvs⟩ := hF.sm k2 hz
  have hr : ∀ a, a ∈ L → mR M' a = mR M a := fun a ha => (nvs a ha).2.2
  refine ⟨⟨⟨sg, ⟨F', hS.sm (k1 _ (by omega) (by omega)) (k1 _ (by omega) (by omega)) (k1 _ (by omega) (by omega)) (k1 _ (by omega) (by omega)) hz, hRs.sm (fun i hi => k1 _ (by omega) (by omega)) hr hz, hf.sm (k1 _ (by omega) (by omega)) hz⟩, fun x hx => (hSt x hx).sm hr hz, fun i hi => (hgo i hi).sm hr hz⟩, ⟨fun i hi => (tb.1 i hi).sm (k3 i hi).1 (k3 i hi).2.1 (k3 i hi).2.2 hr hz, fun i j hi hj ij => ⟨?_, (tb.2 i j hi hj ij).2⟩⟩, ⟨b1, by omega⟩, fun i hi i2 => ?_⟩, fun a ha => (nvs a ha).2.1⟩
  · unfold Rsp
    rw [(k3 i hi).2.1.2.2.1, (k3 j hj).2.1.2.2.1]
    exact (tb.2 i j hi hj ij).1
  · rcases tk i hi i2 with e | ⟨e, ec⟩ | ec
    · intro kn
      exact absurd e kn
    · rw [ec]
      refine (tk0 i hi i2).keep (Or.inl e) (k3 i hi).2.1.2.2.1 (fun l hl => ?_)
      have fl := (tb.1 i hi).1.2.2.2.2.2 l hl
      exact ⟨(nvs _ fl.2.1).1, (nvs _ fl.2.2).1, ((k3 i hi).2.2 l hl).2.2.2⟩
    · subst ec
      exact fun _ => ⟨Nat.zero_le _, fun l hl => absurd hl (Nat.not_lt_zero _), fun l hl => absurd hl (Nat.not_lt_zero _)⟩
theorem Nms.keep (h : Nms L W s g b cn cc bc v R k M) (hk : Ks L s v R k M M') (sg : SG M' s g cn' cc' bc') (tk : ∀ i, i < 4 → i ≠ 2 → mI M' (v i) 1 = 0 ∨ (mI M' (v i) 1 = mI M (v i) 1 ∧ cn' = cn) ∨ cn' = 0) : Nms L W s g b cn' cc' bc' v R k M' ∧ ∀ a, a ∈ L → cp M' a = cp M a := h.keep0 ⟨hk.1, fun x a b => hk.2.1 x (Nat.le_of_lt a) b, hk.2.2⟩ sg tk
/-- the room of the numbers is the same -/
theorem pn_cg (hc : ∀ a, a ∈ L → cp M' a = cp M a) : Pn L k M' = Pn L k M ∧ Qn L k M' = Qn L k M := by
  unfold Pn Qn
  rw [psum_cg L hc, psum_cg (f := fun p => cp M' p / 4) (g := fun p => cp M p / 4) L (fun p hp => by show cp M' p / 4 = cp M p / 4; rw [hc p hp])]
  exact ⟨rfl, rfl⟩
/-- the cells of the numbers -/
def Zm (L : List Nat) (s : Nat) (v R k : Nat → Nat) (M : mM) (x : Nat) : Prop := (s ≤ x ∧ x ≤ s + 134) ∨ x ∈ L ∨ (∃ a, a ∈ L ∧ x = mR M a 0) ∨ ∃ i, i < 4 ∧ (x = v i ∨ x = R i ∨ ∃ j, j < k i ∧ x = mR M (R i) j)
theorem zm_in (hc : Cnu Z L s v R k M) : ∀ x, Zm L s v R k M x → Z x := fun x u => by
  rcases u with u | u | ⟨a, ha, u⟩ | ⟨i, hi, u | u | ⟨j, hj, u⟩⟩
  · exact hc.1 x u.1 u.2
  · exact (hc.2.1 x u).1
  · rw [u]; exact (hc.2.1 a ha).2
  · rw [u]; exact (hc.2.2.1 i hi).1
  · rw [u]; exact (hc.2.2.1 i hi).2.1
  · rw [u]; exact (hc.2.2.1 i hi).2.2 j hj
/-- what leaves them alone -/
theorem FC.ks (f : FC Z M M') (h : Nms L W s g b cn cc bc v R k M) (hz : ∀ x, Zm L s v R k M x → ¬ Z x ∨ ∃ i, i < 4 ∧ x = v i ∧ mR M' x = mR M x) : Ks L s v R k M M' := by
  have tb := h.2.1
  have hF := h.1.2.1.1
  have hk : ∀ i, i < 4 → mK M (v i) = 13 := fun i hi => (tb.1 i hi).1.1
  have sm : ∀ x, x < mZ M → Zm L s v R k M x → mK M x ≠ 13 → Sm M M' x := fun x hx zx k13 => by
    rcases hz x zx with u | ⟨i, hi, u, -⟩
    · exact f.sm hx u
    · rw [u] at k13; exact absurd (hk i hi) k13
  have zz := h.2.2.1
  refine ⟨f.1.1, fun x a1 a2 => ?_, fun a ha => ⟨sm a (hF.lt ha).1 (Or.inr (Or.inl ha)) (by rw [hF.kd ha]; decide), sm _ (hF.lt ha).2 (Or.inr (Or.inr (Or.inl ⟨a, ha, rfl⟩))) (by rw [hF.ka ha]; decide)⟩, fun i hi => ⟨⟨?_, ?_⟩, ?_, fun j hj => ?_⟩⟩
  · rcases hz x (Or.inl ⟨a1, a2⟩) with u | ⟨i, hi, u, -⟩
    · exact f.sm (by omega) u
    · have := (tb.1 i hi).2.2.2.2.1; omega
  · exact (f.2 _ (tb.1 i hi).1.2.2.2.2.1.1.1).1
  · have lt := (tb.1 i hi).1.2.2.2.2.1.1.1
    rcases hz (v i) (Or.inr (Or.inr (Or.inr ⟨i, hi, Or.inl rfl⟩))) with u | ⟨-, -, -, u⟩
    · exact ((f.2 _ lt).2.2 u).2.1
    · exact u
  · exact sm _ (tb.1 i hi).1.2.2.2.2.1.2.1 (Or.inr (Or.inr (Or.inr ⟨i, hi, Or.inr (Or.inl rfl)⟩))) (by rw [(tb.1 i hi).1.2.2.1]; decide)
  · have fl := (tb.1 i hi).1.2.2.2.2.2 j hj
    exact sm _ fl.1.2.2 (Or.inr (Or.inr (Or.inr ⟨i, hi, Or.inr (Or.inr ⟨j, hj, rfl⟩)⟩))) (by rw [fl.1.1]; decide)
/-- a step elsewhere -/
theorem Nms.off (h : Nms L W s g b cn cc bc v R k M) (f : FC Z M M') (o : mOk M') (hz : ∀ x, Zm L s v R k M x → ¬ Z x) (hg : ∀ i, i ≤ 9 → ¬ Z (g + i)) : Nms L W s g b cn cc bc v R k M' ∧ Ks L s v R k M M' ∧ ∀ a, a ∈ L → cp M' a = cp M a := by
  have bz := h.2.2.1
  have ks := f.ks h (fun x u => Or.inl (hz x u))
  obtain ⟨a1, a2⟩ := h.keep ks (h.1.1.sm o (fun x a b => f.sm (by omega) (hz x (Or.inl ⟨a, b⟩))) (fun i hi => f.sm (h.1.2.2.2 i hi).1 (hg i hi))) (fun i hi i2 => Or.inr (Or.inl ⟨by rw [(f.sm (h.2.1.1 i hi).1.2.2.2.2.1.1.1 (hz _ (Or.inr (Or.inr (Or.inr ⟨i, hi, Or.inl rfl⟩))))).2.2.2], rfl⟩))
  exact ⟨a1, ks, a2⟩
theorem Ks.cnu {Y' : Nat → Prop} (hk : Ks L s v R k M M') (f : FC Y' M M') (hc : Cnu Z L s v R k M) : Cnu Z L s v R k M' := by
  obtain ⟨hz, k1, k2, k3⟩ := hk
  obtain ⟨d1, ⟨⟨d2, d3, d4⟩, d5, d6⟩, d7⟩ := hc.2.2.2
  have hr : ∀ a, a ∈ L → mR M' a = mR M a := fun a ha => (k2 a ha).1.2.2.1
  refine ⟨hc.1, fun a ha => by rw [(k2 a ha).1.2.2.1]; exact hc.2.1 a ha, fun i hi => ?_, d1, ⟨⟨by rw [(k1 s (Nat.le_refl _) (by omega)).2.2.1]; exact d2, by rw [(f.2 _ d5.1).1]; exact d3, by rw [(f.2 _ d5.1).2.1]; exact d4⟩, d5.sm hr hz, d6⟩, d7.sm hr hz⟩
  rw [(k3 i hi).2.1.2.2.1]
  exact hc.2.2.1 i hi
/-- what lies outside is no number and no limbs -/
theorem Cnu.oc (h : Cnu Z L s v R k M) (hx : x < mZ M) (nz : ¬ Z x) : Oc L M x := ⟨hx, fun u => nz (h.2.1 x u).1, fun a ha e => nz (by rw [← e]; exact (h.2.1 a ha).2)⟩
/-- a table is known -/
theorem Nms.mark (h : Nms L W s g b cn cc bc v R k M) (i4 : i < 4) (tk : cn ≤ k i ∧ Rsm M (R i) cn 17 ∧ Rt1 M (R i) cn) (e : M' = mUI M (v i) 1 1) : Nms L W s g b cn cc bc v R k M' ∧ FI (fun x => x = v i) M M' ∧ mOk M' := by
  have sv := h.1.sva h.2.2.1.1 (h.2.1.1 i i4)
  have f5 : FI (fun x => x = v i) M M' := by rw [e]; exact FI.ui rfl
  have o5 : mOk M' := by rw [e]; exact mOk_UI sv.1.1 ⟨by decide, by decide⟩
  obtain ⟨S5, n5, r5⟩ := sv.fi (f5.mono (fun x u => Or.inl u)) o5
  have rows := sv.2.2.2.2.1.2.2.2.2.2
  refine ⟨⟨S5.sb, h.2.1.fi f5, ⟨h.2.2.1.1, by rw [f5.2.2.2.2.1]; exact h.2.2.1.2⟩, fun j hj j2 => ?_⟩, f5, o5⟩
  by_cases c : j = i
  · subst c
    obtain ⟨c1, lr, lt⟩ := tk
    refine fun _ => ⟨c1, fun l hl => ?_, fun l hl => ?_⟩
    · rw [f5.2.2.1, n5 _ (rows l (by omega)).2.1, n5 _ (rows l (by omega)).2.2]; exact lr l hl
    · rw [f5.2.2.1, r5 l (by omega)]; exact lt l hl
  · exact (h.2.2.2 j hj j2).fi (h.2.1.1 j hj) sv.2.1.1 f5 o5 sv.z9 (fun x u => by rw [u]; exact ⟨(h.2.1.1 i i4).1.2.2.2.2.1.1, by rw [(h.2.1.1 i i4).1.1]; decide⟩) (Or.inl (by rw [f5.2.2.2.2.2.2 _ (fun u => (h.2.1.2 j i hj i4 c).2.1 u)]))
end NCQ
end
section
/-! The class's top: what workOut leaves of the numbers. -/
section NCO
variable {G : mG} {d t g s b i j a Ra n cn cc bc z w R' k' : Nat} {v R k Rn kn : Nat → Nat} {M M0 M' M1 : mM} {L L' L1 : List Nat} {W : Nat → Nat} {T C S Z : Nat → Prop} {r : Prop}
/-- a step and the cells of the numbers after it -/
def Sp (Z : Nat → Prop) (s : Nat) (v : Nat → Nat) (M M' : mM) (L : List Nat) (R k : Nat → Nat) : Prop := FC Z M M' ∧ Cnu (Zn Z M M') L s v R k M'
theorem Sp.trans {R1 k1 : Nat → Nat} (h : Sp Z s v M M1 L1 R1 k1) (q : Sp (Zn Z M M1) s v M1 M' L' Rn kn) : Sp Z s v M M' L' Rn kn := ⟨h.1.trans q.1, q.2.cg (fun _ u => (Zn.trans h.1.1.1 q.1.1.1).mp u)⟩
theorem Cnu.sp (hc : Cnu Z L s v R k M) : Sp Z s v M M L R k := ⟨FC.refl, hc.cg (fun _ u => Or.inl u)⟩
/-- what a step on table i leaves of the numbers -/
def nmQ (Z : Nat → Prop) (L : List Nat) (W : Nat → Nat) (s g b cn cc bc : Nat) (v k : Nat → Nat) (i : Nat) (M M' : mM) : Prop := ∃ L' Rn kn, Nms L' W s g b cn cc bc v Rn kn M' ∧ Sp Z s v M M' L' Rn kn ∧ Rq L k M L' kn M' ∧ (∀ j, j ≤ 9 → mI M' (g + j) = mI M (g + j)) ∧ (∀ j, j < 4 → j ≠ i → mI M' (v j) = mI M (v j))
theorem Sva.stk (h : Sva L W s g a Ra n cn cc bc M) : ∀ x, Sta s a x → mK M x ≠ 11 := fun x u => by
  have ka := h.2.2.2.2.1.1
  obtain ⟨⟨-, ⟨⟨s0, -⟩, -, ⟨k1, k2, k3, k4, k5, k6, k7, k8, k9⟩, -⟩, -⟩, -⟩ := id h
  rcases u with u | u
  · rw [u]; omega
  · unfold Stb at u
    rcases u with u | u | u | u | u | u | u | u | u | u <;> rw [u] <;> omega
/-- workOut's beginning -/
theorem Nms.wo (h : Nms L W s g b cn cc bc v R k M) (hc : Cnu Z L s v R k M) (i4 : i < 4) (wo : woI L W s g (v i) (R i) (k i) cn cc bc M M1) : Nms L W s g b cn cc bc v R k M1 ∧ Sp Z s v M M1 L R k ∧ Rq L k M L k M1 ∧ (∀ j, j ≤ 9 → mI M1 (g + j) = mI M (g + j)) ∧ (∀ j, j < 4 → j ≠ i → mI M1 (v j) = mI M (v j)) := by
  have sv := h.1.sva h.2.2.1.1 (h.2.1.1 i i4)
  obtain ⟨o1, f1, S1, e30, fl⟩ := wo
  have vj : ∀ j, j < 4 → j ≠ i → mI M1 (v j) = mI M (v j) := fun j hj ji => f1.2.2.2.2.2.2 _ (fun u => by
    rcases u with u | u
    · exact (h.2.1.2 j i hj i4 ji).2.1 u
    · have := (h.2.1.1 j hj).2.2.2.2.1
      unfold Stb at u
      omega)
  refine ⟨h.fi f1 o1 (fun x u => ⟨sv.sta x u, sv.stk x u⟩) S1.sb (fun j hj j2 => ?_), ⟨f1.fc (fun x u => ?_), f1.cnu hc⟩, f1.rq, fun j hj => f1.2.2.2.2.2.2 _ (sv.gst hj), vj⟩
  · by_cases c : j = i
    · subst c; exact Or.inr fl
    · exact Or.inl (by rw [vj j hj c])
  · rcases u with u | u
    · rw [u]; exact (hc.2.2.1 i i4).1
    · exact hc.1 x (by unfold Stb at u; omega) (by unfold Stb at u; omega)
/-- the list grows -/
theorem Nms.gro (h : Nms L W s g b cn cc bc v R k M) (q : Gro s M M') : Nms L W s g b cn cc bc v R k M' ∧ Sva L W s g (v 0) (R 0) (k 0) cn cc bc M' ∧ Ot L M' s (mZ M) 2400 ∧ (∀ x, x < mZ M → mI M' x = mI M x) ∧ (∀ a, a ∈ L → cp M' a = cp M a ∧ mR M' a = mR M a) := by
  have hz : s + 134 < mZ M := by
    have := h.2.2.1
    omega
  have sv := h.1.sva h.2.2.1.1 (h.2.1.1 0 (by decide))
  obtain ⟨S', ot, ls, I', -⟩ := sv.gro hz q
  have hF := h.1.2.1.1
  have os := h.1.2.2.1 s (Or.inl rfl)
  have b1 := h.2.2.1.1
  have zz := q.new.2.2.1
  refine ⟨(h.keep0 ⟨by omega, fun x a1 a2 => q.sm (by omega) (by omega), fun a ha => ⟨q.sm (hF.lt ha).1 (fun u => os.2.1 (by rw [← u]; exact ha)), q.sm (hF.lt ha).2 (os.2.2 a ha)⟩, fun i hi => ?_⟩ S'.1 (fun i hi i2 => Or.inr (Or.inl ⟨by rw [I' _ (h.2.1.1 i hi).1.2.2.2.2.1.1.1], rfl⟩))).1, S', ot, I', fun a ha => ⟨(ls a ha).2.1, (ls a ha).2.2⟩⟩
  have ti := h.2.1.1 i hi
  have l5 := ti.2.2.2.2
  have sv' := q.sm ti.1.2.2.2.2.1.1.1 (show v i ≠ s by omega)
  exact ⟨⟨sv'.1, sv'.2.2.1⟩, q.sm ti.1.2.2.2.2.1.2.1 (by omega), fun j hj => q.sm (ti.1.2.2.2.2.2 j hj).1.2.2 (by have := ti.2.1 j hj; omega)⟩
theorem Nms.cgr {R2 k2 : Nat → Nat} (h : Nms L W s g b cn cc bc v R k M) (e : ∀ i, i < 4 → R2 i = R i ∧ k2 i = k i) : Nms L W s g b cn cc bc v R2 k2 M := ⟨h.1, ⟨fun i hi => by rw [(e i hi).1, (e i hi).2]; exact h.2.1.1 i hi, fun i j hi hj ij => by rw [(e i hi).1, (e i hi).2, (e j hj).1, (e j hj).2]; exact h.2.1.2 i j hi hj ij⟩, h.2.2.1, fun i hi i2 => by rw [(e i hi).1, (e i hi).2]; exact h.2.2.2 i hi i2⟩
theorem up1_id {f : Nat → Nat} : up1 f i (f i) = f := by
  funext j
  unfold up1
  split
  · rename_i e; rw [e]
  · rfl
theorem Nms.gr1 {M5 : mM} {O' n' : Nat} (h : Nms L W s g b cn cc bc v R k M) (hc : Cnu Z L s v R k M) (q : gr1 s M M5 (R 4) (k 4) O' n') : Nms L W s g b cn cc bc v (up1 R 4 O') (up1 k 4 n') M5 ∧ Sp Z s v M M5 L (up1 R 4 O') (up1 k 4 n') ∧ Rq L k M L (up1 k 4 n') M5 ∧ ∀ x, x < mZ M → mI M5 x = mI M x := by
  rcases q with ⟨e, e1, e2⟩ | ⟨e0, gq, e1, e2⟩
  · rw [e, e1, e2, up1_id, up1_id]
    exact ⟨h, hc.sp, Rq.refl, fun _ _ => rfl⟩
  obtain ⟨N, S', ot, I', ls⟩ := h.gro gq
  obtain ⟨c1, c2, c3, c4, c5, c6⟩ := hc
  obtain ⟨z1, z2, z3, z4, -⟩ := gq.new
  obtain ⟨w1, w2, w3, w4, w5⟩ := gq.own c6.1
  have n0 : ∀ j, j < 4 → up1 R 4 O' j = R j ∧ up1 k 4 n' j = k j := fun j hj => ⟨up1_n (by omega), up1_n (by omega)⟩
  rw [e1, e2] at n0 ⊢
  refine ⟨N.cgr n0, ⟨⟨⟨by omega, by omega⟩, fun x hx => ?_⟩, fun x a1 a2 => Or.inl (c1 x a1 a2), fun a ha => ?_, fun i hi => ?_, ?_, ?_, c6.sm (fun a ha => (ls a ha).2) (by omega)⟩, ?_, I'⟩
  · by_cases c : x = s
    · rw [c]
      exact ⟨w1, w2, fun nz => absurd (c1 s (Nat.le_refl _) (by omega)) nz⟩
    · have sm := gq.sm hx c
      exact ⟨sm.1, sm.2.1, fun _ => ⟨gq.lng hx, sm.2.2.1, sm.2.2.2⟩⟩
  · rw [(ls a ha).2]
    exact ⟨Or.inl (c2 a ha).1, Or.inl (c2 a ha).2⟩
  · have ti := h.2.1.1 i hi
    have l5 := ti.2.2.2.2
    have sR := gq.sm ti.1.2.2.2.2.1.2.1 (show R i ≠ s by omega)
    rw [(n0 i hi).1, (n0 i hi).2, sR.2.2.1]
    exact ⟨Or.inl (c3 i hi).1, Or.inl (c3 i hi).2.1, fun j hj => Or.inl ((c3 i hi).2.2 j hj)⟩
  · rw [up1_s]
    exact Or.inr ⟨Nat.le_refl _, by omega⟩
  · rw [up1_s, up1_s]
    exact ot
  · have q0 := (n0 0 (by decide)).2
    have q1 := (n0 1 (by decide)).2
    have q2 := (n0 2 (by decide)).2
    have q3 := (n0 3 (by decide)).2
    have p1 : psum (cp M5) L = psum (cp M) L := psum_cg L (fun a ha => (ls a ha).1)
    have p2 : psum (fun p => cp M5 p / 4) L = psum (fun p => cp M p / 4) L := psum_cg L (fun a ha => by show cp M5 a / 4 = cp M a / 4; rw [(ls a ha).1])
    unfold Rq Pn Qn
    rw [q0, q1, q2, q3, up1_s, p1, p2, e0]
    refine ⟨by omega, by omega, Nat.le_refl _, fun _ u => u, fun f u => u.sm (gq.sm u.1.2.2 (fun e => ?_)) (by omega)⟩
    have k11 := u.1.1
    rw [e, h.1.1.2.1.1.1] at k11
    exact absurd k11 (by decide)
theorem Nms.work {kp : Int} (hkp : i32 kp) (h : Nms L W s g b cn cc bc v R k M) (hc : Cnu Z L s v R k M) (i4 : i < 4) (ht : Tld M g cn kp) (hWr : ∀ x, b ≤ x → 17 ≤ W x ∧ W x ≤ 20000) (hWs : ∀ x, s ≤ x → x ≤ s + 134 → 300 ≤ W x) : Ci G y_So_workOut (d + 8) [vr s, vi kp, vr (v i)] M (fun x M' => (x = 0 ∨ x = 5 ∨ x = 6) ∧ nmQ Z L W s g b cn cc bc v k i M M' ∧ mI M' (s + 30) = mI M (s + 30) ∧ (x ≠ 0 → mI M' (v i) 1 = 0) ∧ (x = 0 → mI M' (v i) 1 = 1) ∧ (kp = 0 → kdT (xtm M g cn) → svA9 (xtm M g cn) x)) := by
  have sv := h.1.sva h.2.2.1.1 (h.2.1.1 i i4)
  have bz := h.2.2.1
  have rb := (h.2.1.1 i i4).2.1
  refine (s_So_workOut (d := d) (B := 300) hkp sv hc.2.2.2.2.1 (h.2.1.1 i i4).2.2.2.1 (by omega) ht (fun l hl => ?_) (fun x hx => hWr x (by omega)) (fun x u => ?_) (fun x u => ?_) (by decide) (by decide)).mono (fun x M' q => ?_)
  · have := rb l hl
    exact ⟨(hWr _ (by omega)).1, (hWr _ (by omega)).1⟩
  · have := hWs x (by rcases u with u | ⟨i, hi, u⟩ <;> omega) (by rcases u with u | ⟨i, hi, u⟩ <;> omega)
    omega
  · exact hWs x (by unfold Tat Tpk T4 Tor T2 at u; omega) (by unfold Tat Tpk T4 Tor T2 at u; omega)
  obtain ⟨q, qsv⟩ := q
  rcases q with ⟨hx, wo⟩ | ⟨hx, M1, L', R', k', M2, M3, un, wt, M4, M5, O', n', M6, wo, gw, te, gr, ⟨c1, c2, k5⟩, p1, p2, nb, lo, gq, l2, eM, e30⟩
  · obtain ⟨N1, P1, Q1, G1, V1⟩ := h.wo hc i4 wo
    exact ⟨Or.inr hx, ⟨L, R, k, N1, P1, Q1, G1, V1⟩, wo.2.2.2.1, fun _ => wo.2.2.2.2, fun e => by omega, qsv⟩
  · obtain ⟨N1, P1, Q1, G1, V1⟩ := h.wo hc i4 wo
    have p2' : ∀ j, k i ≤ j → j < k' → mR M2 R' j = mZ M1 + 1 + 5 * (j - k i) := fun j a b => (p2 j a b).1
    obtain ⟨N2, S2⟩ := N1.gw i4 gw te k5 gr p1 p2' wo.2.2.2.2
    have P2 := P1.trans (gw.fc i4 P1.2 N1.2.1 te gr p1 p2')
    have Q2 := Q1.trans (rv_rq (R := R) i4 gw gr)
    have FB := S2.2.1.1
    have ti2 := N2.2.1.1 i i4
    rw [up1_s, up1_s] at ti2
    have nbx : NX L' W (Tso s M2 R' cn) (Cso s M2 R' cn) True (s + 1) M2 M3 := (nb.nx FB).mono FB (fun _ u => Or.inr (Or.inr (Or.inr u))) (S2.tl c1) (fun _ u => Or.inr (Or.inr (Or.inr (Or.inr (Or.inr u))))) (S2.cl c1) (fun u => u.elim)
    obtain ⟨lN, lS, lR, ⟨lr, lt⟩, -⟩ := lo
    have eR3 := (ti2.nx (nb.nx FB) FB).2
    obtain ⟨eT, eC⟩ := tso_e (s := s) (cn := cn) eR3
    rw [eT, eC] at lN
    have q24 := nbx.trans lN
    have hT : ∀ x, Tso s M2 R' cn x → (s ≤ x ∧ x ≤ s + 134) ∨ Trw M2 (up1 R i R' i) cn x := fun x u => by rw [up1_s]; exact tso_lo u
    have hC : ∀ x, Cso s M2 R' cn x → (s ≤ x ∧ x ≤ s + 134) ∨ Irw M2 (up1 R i R' i) cn x := fun x u => by rw [up1_s]; exact cso_lo u
    have ck : cn ≤ up1 k i k' i := by rw [up1_s]; exact c1
    have N4 : Nms L' W s g b cn cc bc v (up1 R i R') (up1 k i k') M4 := N2.nx2 i4 q24 ck hT hC lS.sb (fun _ => by rw [up1_s, up1_s]; exact fun _ => ⟨c1, lr, lt⟩)
    have V4 := (N2.nx i4 q24 ck hT hC).2.1
    have P4 := P2.trans (q24.fc FB P2.2 N2.2.1 (fun x u => by
      rcases hC x u with w | ⟨l, hl, w⟩
      · exact P2.2.1 x w.1 w.2
      · rw [w]; exact (P2.2.2.2.1 i i4).2.2 l (by omega)))
    have Q4 : Rq L k M L' (up1 k i k') M4 := Q2.trans (q24.rq FB)
    have G4 := (S2.nx c1 q24 lS.2.1.2.1).2.1
    have r4 : up1 R i R' 4 = R 4 := up1_n (by omega)
    have k4 : up1 k i k' 4 = k 4 := up1_n (by omega)
    rw [← r4, ← k4] at gq
    obtain ⟨N5, P45, Q45, I5⟩ := N4.gr1 P4.2 gq
    have P5 := P4.trans P45
    have Q5 := Q4.trans Q45
    have ri : up1 (up1 R i R') 4 O' i = R' := by rw [up1_n (by omega), up1_s]
    have ki : up1 (up1 k i k') 4 n' i = k' := by rw [up1_n (by omega), up1_s]
    have S5 := N5.1.sva N5.2.2.1.1 (N5.2.1.1 i i4)
    rw [ri, ki] at S5
    have ot5 : Ot L' M5 s O' n' := by
      have := P5.2.2.2.2.2.1
      rw [up1_s, up1_s] at this
      exact this
    have zO : Zn Z M M5 O' := by
      have := P5.2.2.2.2.1
      rw [up1_s] at this
      exact this
    obtain ⟨lN2, S6, lR2, ⟨lr2, lt2⟩, -⟩ := l2
    have hT6 : ∀ x, Tso s M5 R' cn x → (s ≤ x ∧ x ≤ s + 134) ∨ Trw M5 (up1 (up1 R i R') 4 O' i) cn x := fun x u => by rw [ri]; exact tso_lo u
    have hC6 : ∀ x, Co2 s M5 R' cn O' x → (s ≤ x ∧ x ≤ s + 134) ∨ Irw M5 (up1 (up1 R i R') 4 O' i) cn x ∨ mK M5 x = 30 := fun x u => by
      rw [ri]
      rcases u with u | u
      · exact (cso_lo u).imp id Or.inl
      · exact Or.inr (Or.inr (by rw [u]; exact ot5.1.2.1))
    have ck6 : cn ≤ up1 (up1 k i k') 4 n' i := by rw [ki]; exact c1
    have F5 := S5.2.1.1
    have N6 : Nms L' W s g b cn cc bc v (up1 (up1 R i R') 4 O') (up1 (up1 k i k') 4 n') M6 := N5.nx23 i4 lN2 ck6 hT6 hC6 S6.sb (fun _ => by rw [ri, ki]; exact fun _ => ⟨c1, lr2, lt2⟩)
    have V6 := (N5.nx3 i4 lN2 ck6 hT6 hC6).2.1
    have P6 := P5.trans (lN2.fc F5 P5.2 N5.2.1 (fun x u => by
      rcases u with u | u
      · rcases cso_lo u with w | ⟨l, hl, w⟩
        · exact P5.2.1 x w.1 w.2
        · have := (P5.2.2.2.1 i i4).2.2 l (by rw [ki]; omega)
          rw [ri] at this
          rw [w]; exact this
      · rw [u]; exact zO))
    have Q6 : Rq L k M L' (up1 (up1 k i k') 4 n') M6 := Q5.trans (lN2.rq F5)
    have gs := S5.1.2.1.1.2
    have G6 := (S5.nxg lN2 (fun j hj u => by
      rcases u with u | u
      · exact S5.gC c1 hj u
      · have := ot5.2.2
        omega) S6.2.1.2.1).2.1
    have f5 : FI (fun x => x = v i) M6 M' := by rw [eM]; exact FI.ui rfl
    have o5 : mOk M' := by rw [eM]; exact mOk_UI S6.1.1 ⟨by decide, by decide⟩
    obtain ⟨S7, n5, r5⟩ := S6.fi (f5.mono (fun x u => Or.inl u)) o5
    have P7 : Sp Z s v M M' L' (up1 (up1 R i R') 4 O') (up1 (up1 k i k') 4 n') := P6.trans ⟨f5.fc (fun x u => by rw [u]; exact (P6.2.2.2.1 i i4).1), f5.cnu P6.2⟩
    have V2 : ∀ j, j < 4 → mI M2 (v j) = mI M1 (v j) := fun j hj => (gw.2.2.2.2.1.2 _ (N1.2.1.1 j hj).1.2.2.2.2.1.1.1).2.2.2.2 (fun u => u)
    have V45 : ∀ j, j < 4 → mI M5 (v j) = mI M4 (v j) := fun j hj => I5 _ (N4.2.1.1 j hj).1.2.2.2.2.1.1.1
    have V5 : ∀ j, j < 4 → j ≠ i → mI M' (v j) = mI M6 (v j) := fun j hj ji => f5.2.2.2.2.2.2 _ (fun u => (h.2.1.2 j i hj i4 ji).2.1 u)
    have rows := S6.2.2.2.2.1.2.2.2.2.2
    refine ⟨Or.inl hx, ⟨L', up1 (up1 R i R') 4 O', up1 (up1 k i k') 4 n', ⟨S7.sb, N6.2.1.fi f5, ⟨bz.1, by rw [f5.2.2.2.2.1]; exact N6.2.2.1.2⟩, fun j hj j2 => ?_⟩, P7, Q6.trans f5.rq, fun j hj => ?_, fun j hj ji => by rw [V5 j hj ji, (V6 j hj).2, V45 j hj, (V4 j hj).2, V2 j hj, V1 j hj ji]⟩, e30, fun e => absurd hx e, fun _ => by rw [eM, mI_UI, if_pos ⟨rfl, rfl⟩], qsv⟩
    · by_cases c : j = i
      · subst c
        rw [ri, ki]
        refine fun _ => ⟨c1, fun l hl => ?_, fun l hl => ?_⟩
        · rw [f5.2.2.1, n5 _ (rows l (by omega)).2.1, n5 _ (rows l (by omega)).2.2]; exact lr2 l hl
        · rw [f5.2.2.1, r5 l (by omega)]; exact lt2 l hl
      · exact (N6.2.2.2 j hj j2).fi (N6.2.1.1 j hj) S6.2.1.1 f5 o5 S6.z9 (fun x u => by rw [u]; exact ⟨(N6.2.1.1 i i4).1.2.2.2.2.1.1, by rw [(N6.2.1.1 i i4).1.1]; decide⟩) (Or.inl (by rw [V5 j hj c]))
    · rw [f5.2.2.2.2.2.2 _ (fun e => S6.gst hj (Or.inl e)), G6 j hj, I5 _ (N4.1.2.2.2 j hj).1, G4 j hj, (gw.2.2.2.2.1.2 _ (N1.1.2.2.2 j hj).1).2.2.2.2 (fun u => u), G1 j hj]
/-- ranks and choices, and whether values hold, change no table -/
theorem Nms.sv (h : Nms L W s g b cn cc bc v R k M) (hc : Cnu Z L s v R k M) (i4 : i < 4) (hn : cn ≤ k i) (q : svQ L W s g (v i) (R i) (k i) cn cc bc M M') : nmQ Z L W s g b cn cc bc v k i M M' ∧ mI M' (v i) = mI M (v i) := by
  obtain ⟨q1, q2, q3, q4, q5⟩ := q
  have hT : ∀ x, Tso s M (R i) cn x → (s ≤ x ∧ x ≤ s + 134) ∨ Trw M (R i) cn x := fun x u => tso_lo u
  have hC : ∀ x, Cso s M (R i) cn x → (s ≤ x ∧ x ≤ s + 134) ∨ Irw M (R i) cn x := fun x u => cso_lo u
  have V := (h.nx i4 q1 hn hT hC).2.1
  refine ⟨⟨L, R, k, h.nx2 i4 q1 hn hT hC q2.sb (fun _ _ => ⟨hn, q4.1, q4.2⟩), q1.fc h.1.2.1.1 hc h.2.1 (fun x u => ?_), q1.rq h.1.2.1.1, q5, fun j hj _ => (V j hj).2⟩, (V i i4).2⟩
  rcases hC x u with w | ⟨l, hl, w⟩
  · exact hc.1 x w.1 w.2
  · rw [w]; exact (hc.2.2.1 i i4).2.2 l (by omega)
end NCO
end
section
/-! The class's top: solve, judge, check. -/
section NCP
variable {G : mG} {d t g s b i j a Ra n cn cc bc z w R' k' : Nat} {v R k Rn kn : Nat → Nat} {M M0 M' M1 : mM} {L L' L1 : List Nat} {W : Nat → Nat} {T C S Z : Nat → Prop} {r : Prop}
/-- the top's references -/
def Tr (t : Nat) (v : Nat → Nat) (M : mM) : Prop := mK M t = 1 ∧ (mR M t 9 = t + 62 ∧ mR M t 10 = t + 85) ∧ (mR M t 11 = v 0 ∧ mR M t 12 = v 1 ∧ mR M t 13 = v 2 ∧ mR M t 14 = v 3) ∧ (mR M t 15 = t + 228 ∧ mR M t 16 = t + 230 ∧ mR M t 17 = t + 235) ∧ t < mZ M
theorem Tr.fc (h : Tr t v M) (f : FC Z M M') (nz : ¬ Z t) : Tr t v M' ∧ mI M' t = mI M t := by
  obtain ⟨h1, h2, h3, h4, h5⟩ := h
  obtain ⟨f1, -, f2⟩ := f.2 t h5
  obtain ⟨-, e1, e2⟩ := f2 nz
  have := f.1.1
  exact ⟨⟨by rw [f1]; exact h1, by rw [e1]; exact h2, by rw [e1]; exact h3, by rw [e1]; exact h4, by omega⟩, e2⟩
theorem Nms.cnt (h : Nms L W s g b cn cc bc v R k M) : mI M g 0 = ((cn : Nat) : Int) ∧ mK M g = 7 ∧ mK M s = 8 ∧ mOk M := ⟨h.1.1.2.2.2.2.2.2.2, h.1.1.2.2.1.1, h.1.1.2.1.1.1, h.1.1.1⟩
theorem w_tat (hWs : ∀ x, s ≤ x → x ≤ s + 134 → 300 ≤ W x) : ∀ x, Tat s x → 300 ≤ W x := fun x u => hWs x (by unfold Tat Tpk T4 Tor T2 at u; omega) (by unfold Tat Tpk T4 Tor T2 at u; omega)
theorem n_CA_solve (h : Nms L W (t + 85) (t + 62) b cn cc bc v R k M) (hc : Cnu Z L (t + 85) v R k M) (hr : Tr t v M) (nz : ¬ Z t) (c1 : 1 ≤ cn) (hWr : ∀ x, b ≤ x → 17 ≤ W x ∧ W x ≤ 20000) (hWs : ∀ x, t + 85 ≤ x → x ≤ t + 85 + 134 → 300 ≤ W x) : Ci G y_CA_solve (d + 9) [vr t] M (fun x M' => i32 x ∧ nmQ Z L W (t + 85) (t + 62) b cn cc bc v k 0 M M' ∧ (mI M' (v 0) 1 ≠ 0 → Chs M' (t + 85) (t + 62) cn) ∧ (kdT (xtm M (t + 62) cn) → svA9 (xtm M (t + 62) cn) x) ∧ mI M' (v 0) 1 = if x = 0 then 1 else 0) := by
  obtain ⟨e0, kg, ks, o⟩ := h.cnt
  refine k_CA_solve o ?_
  rw [hr.2.1.1, hr.2.1.2, hr.2.2.1.1, e0]
  refine ⟨hr.1, kg, fun u => absurd u (by omega), fun _ => ⟨ks, (h.work (d := d) (kp := 0) ⟨by decide, by decide⟩ hc (by decide) (fun u => absurd rfl u) hWr hWs).mono (fun x M6 q => ?_)⟩⟩
  obtain ⟨hx, q1, q2, q3, q4, q5⟩ := q
  have ix : i32 x := by rcases hx with u | u | u <;> rw [u] <;> exact ⟨by decide, by decide⟩
  obtain ⟨L1, R1, k1, N1, P1, Q1, G1, V1⟩ := id q1
  obtain ⟨-, -, ks6, o6⟩ := N1.cnt
  have r6 := (hr.fc P1.1 nz).1
  rw [r6.2.1.2, r6.2.2.1.1]
  refine ⟨ix, o6, fun u => ⟨r6.1, ks6, ?_⟩, fun u => ⟨ix, q1, fun w => absurd (q3 u) w, q5 rfl, by rw [if_neg u]; exact q3 u⟩⟩
  obtain ⟨ck, rs, rt⟩ := N1.2.2.2 0 (by decide) (by decide) (by rw [q4 u]; decide)
  refine (s_So_rankAndChoose (d := d + 1) (B := 300) (N1.1.sva N1.2.2.1.1 (N1.2.1.1 0 (by decide))) ck (N1.2.1.1 0 (by decide)).2.2.2.1 ⟨rs, rt⟩ (w_tat hWs) (by decide) (by decide)).mono (fun M15 q => ?_)
  obtain ⟨p1, p2⟩ := q
  obtain ⟨⟨L2, R2, k2, N2, P2, Q2, G2, V2⟩, ev0⟩ := N1.sv P1.2 (by decide) ck p1
  exact ⟨p1.2.1.1.1, ix, ⟨L2, R2, k2, N2, P1.trans P2, Q1.trans Q2, fun j hj => by rw [G2 j hj, G1 j hj], fun j hj ji => by rw [V2 j hj ji, V1 j hj ji]⟩, fun _ => p2, q5 rfl, by rw [if_pos u, ev0]; exact q4 u⟩
theorem n_CA_judge {l : Int} (hl : l = 1 ∨ l = 2) (h : Nms L W (t + 85) (t + 62) b cn cc bc v R k M) (hc : Cnu Z L (t + 85) v R k M) (hr : Tr t v M) (c1 : 1 ≤ cn) (ht : Tld M (t + 62) cn l) (hWr : ∀ x, b ≤ x → 17 ≤ W x ∧ W x ≤ 20000) (hWs : ∀ x, t + 85 ≤ x → x ≤ t + 85 + 134 → 300 ≤ W x) : Ci G y_CA_judge (d + 9) [vr t, vi l] M (fun x M' => i32 x ∧ nmQ Z L W (t + 85) (t + 62) b cn cc bc v k 3 M M' ∧ mI M' (t + 85 + 30) = mI M (t + 85 + 30)) := by
  obtain ⟨e0, kg, ks, o⟩ := h.cnt
  have il : i32 l := by rcases hl with u | u <;> rw [u] <;> exact ⟨by decide, by decide⟩
  refine k_CA_judge o il ?_
  rw [hr.2.1.1, hr.2.1.2, hr.2.2.1.2.2.2, e0]
  refine ⟨fun _ => ⟨hr.1, kg, fun u => absurd u (by omega), fun _ => ⟨ks, (h.work (d := d) il hc (by decide) ht hWr hWs).mono (fun x M6 q => ?_)⟩⟩, fun u => absurd hl u⟩
  obtain ⟨hx, q1, q2, -⟩ := q
  have ix : i32 x := by rcases hx with u | u | u <;> rw [u] <;> exact ⟨by decide, by decide⟩
  obtain ⟨L1, R1, k1, N1, -⟩ := id q1
  exact ⟨ix, N1.cnt.2.2.2, ix, q1, q2⟩
theorem n_CA_check (h : Nms L W (t + 85) (t + 62) b cn cc bc v R k M) (hc : Cnu Z L (t + 85) v R k M) (hr : Tr t v M) (hWs : ∀ x, t + 85 ≤ x → x ≤ t + 85 + 134 → 300 ≤ W x) : Ci G y_CA_check (d + 8) [vr t] M (fun x M' => i32 x ∧ (M' = M ∨ (nmQ Z L W (t + 85) (t + 62) b cn cc bc v k 0 M M' ∧ mI M' (v 0) = mI M (v 0) ∧ mI M' (t + 85 + 30) = mI M (t + 85 + 30)))) := by
  obtain ⟨e0, kg, ks, o⟩ := h.cnt
  have t0 := h.2.1.1 0 (by decide)
  refine k_CA_check o ?_
  rw [hr.2.2.1.1, hr.2.1.2]
  refine ⟨hr.1, t0.1.1, fun _ => ⟨⟨by decide, by decide⟩, Or.inl rfl⟩, fun u => ⟨ks, ?_⟩⟩
  obtain ⟨ck, rs, rt⟩ := h.2.2.2 0 (by decide) (by decide) u
  refine (s_So_holds (d := d) (B := 300) (h.1.sva h.2.2.1.1 t0) ck t0.2.2.2.1 ⟨rs, rt⟩ (w_tat hWs) (by decide) (by decide)).mono (fun x M6 q => ?_)
  obtain ⟨x01, q1, q2⟩ := q
  refine ⟨m_b32 x01, q1.2.1.1.1, fun y ey => ⟨by rw [ey]; split <;> exact ⟨by decide, by decide⟩, Or.inr ?_⟩⟩
  obtain ⟨p1, p2⟩ := h.sv hc (by decide) ck q1
  exact ⟨p1, p2, q2⟩
end NCP
end
section
/-! The class's top: a table grows and is written; within's steps. -/
section NCR
variable {G : mG} {d t g s b i j a Ra n cn cc bc z w R' k' : Nat} {v R k Rn kn : Nat → Nat} {M M0 M' M1 : mM} {L L' L1 : List Nat} {W : Nat → Nat} {T C S Z : Nat → Prop} {r : Prop}
/-- a table that isn't known grows, then its rows are written -/
theorem Nms.gx (h : Nms L W s g b cn cc bc v R k M) (hc : Cnu Z L s v R k M) (i4 : i < 4) (fl : mI M (v i) 1 = 0) (gw : Gw L W (v i) M L' M1) (te : Te L' W (s + 1) g (v i) R' k' M1) (k5 : k' ≤ 512) (gr : (M1 = M ∧ L' = L ∧ R' = R i ∧ k' = k i) ∨ rvG L M (R i) (k i) L' M1 R' k') (p1 : ∀ j, j < k i → mR M1 R' j = mR M (R i) j) (p2 : ∀ j, k i ≤ j → j < k' → mR M1 R' j = mZ M + 1 + 5 * (j - k i)) (c1 : cn ≤ k') (q : NX L' W T C r (s + 1) M1 M') (hT : ∀ x, T x → Tso s M1 R' cn x) (hC : ∀ x, C x → Cso s M1 R' cn x) (sk : SK L' M' (s + 1)) : Nms L' W s g b cn cc bc v (up1 R i R') (up1 k i k') M' ∧ Sp Z s v M M' L' (up1 R i R') (up1 k i k') ∧ Rq L k M L' (up1 k i k') M' ∧ (∀ j, j ≤ 9 → mI M' (g + j) = mI M (g + j)) ∧ (∀ j, j < 4 → mI M' (v j) = mI M (v j)) ∧ (¬ C (s + 30) → mI M' (s + 30) = mI M (s + 30)) := by
  obtain ⟨N2, S2⟩ := h.gw i4 gw te k5 gr p1 p2 fl
  have P2 : Sp Z s v M M1 L' (up1 R i R') (up1 k i k') := gw.fc i4 hc h.2.1 te gr p1 p2
  have Q2 := rv_rq (R := R) i4 gw gr
  have FB := S2.2.1.1
  have q' : NX L' W (Tso s M1 R' cn) (Cso s M1 R' cn) True (s + 1) M1 M' := q.mono FB hT (S2.tl c1) hC (S2.cl c1) (fun _ => trivial)
  obtain ⟨S4, G4, -⟩ := S2.nx c1 q' sk
  have hT' : ∀ x, Tso s M1 R' cn x → (s ≤ x ∧ x ≤ s + 134) ∨ Trw M1 (up1 R i R' i) cn x := fun x u => by rw [up1_s]; exact tso_lo u
  have hC' : ∀ x, Cso s M1 R' cn x → (s ≤ x ∧ x ≤ s + 134) ∨ Irw M1 (up1 R i R' i) cn x := fun x u => by rw [up1_s]; exact cso_lo u
  have ck : cn ≤ up1 k i k' i := by rw [up1_s]; exact c1
  have V4 := (N2.nx i4 q' ck hT' hC').2.1
  have V2 : ∀ j, j < 4 → mI M1 (v j) = mI M (v j) := fun j hj => (gw.2.2.2.2.1.2 _ (h.2.1.1 j hj).1.2.2.2.2.1.1.1).2.2.2.2 (fun u => u)
  have ei : ∀ x, x < mZ M → mI M1 x = mI M x := fun x hx => (gw.2.2.2.2.1.2 x hx).2.2.2.2 (fun u => u)
  refine ⟨N2.nx2 i4 q' ck hT' hC' S4.sb (fun _ kn => absurd (by rw [(V4 i i4).2, V2 i i4]; exact fl) kn), P2.trans (q'.fc FB P2.2 N2.2.1 (fun x u => ?_)), Q2.trans (q'.rq FB), fun j hj => by rw [G4 j hj, ei _ (h.1.2.2.2 j hj).1], fun j hj => by rw [(V4 j hj).2, V2 j hj], fun nc => ?_⟩
  · rcases hC' x u with w | ⟨l, hl, w⟩
    · exact P2.2.1 x w.1 w.2
    · rw [w]; exact (P2.2.2.2.1 i i4).2.2 l (by omega)
  · have o30 := h.1.2.2.1 (s + 30) st30
    rw [(q.oth (S2.2.2.1 (s + 30) st30) (by omega)).2.2.2 nc, ei _ o30.1]
/-- withins and earlier change places -/
def sg (i : Nat) : Nat := if i = 1 then 2 else if i = 2 then 1 else i
theorem sg_lt (h : i < 4) : sg i < 4 := by
  unfold sg
  split
  · decide
  · split <;> omega
theorem sg_inj (h : sg i = sg j) : i = j := by
  unfold sg at h
  split at h <;> split at h <;> (try split at h) <;> (try split at h) <;> omega
theorem Tb0.sw (h : Tb0 L M s b v R k) : Tb0 L M s b (fun i => v (sg i)) (fun i => R (sg i)) (fun i => k (sg i)) := ⟨fun i hi => h.1 (sg i) (sg_lt hi), fun i j hi hj ij => h.2 (sg i) (sg j) (sg_lt hi) (sg_lt hj) (fun e => ij (sg_inj e))⟩
theorem Nms.sw (h : Nms L W s g b cn cc bc v R k M) (f2 : mI M (v 2) 1 = 0) : Nms L W s g b cn cc bc (fun i => v (sg i)) (fun i => R (sg i)) (fun i => k (sg i)) M := by
  refine ⟨h.1, h.2.1.sw, h.2.2.1, fun i hi i2 => ?_⟩
  have : i = 0 ∨ i = 1 ∨ i = 3 := by omega
  rcases this with e | e | e <;> subst e
  · exact h.2.2.2 0 (by decide) (by decide)
  · exact fun kn => absurd f2 kn
  · exact h.2.2.2 3 (by decide) (by decide)
theorem Cnu.sw (h : Cnu Z L s v R k M) : Cnu Z L s (fun i => v (sg i)) (fun i => R (sg i)) (fun i => k (sg i)) M := ⟨h.1, h.2.1, fun i hi => h.2.2.1 (sg i) (sg_lt hi), h.2.2.2⟩
theorem Pn.sw : Pn L (fun i => k (sg i)) M = Pn L k M ∧ Qn L (fun i => k (sg i)) M = Qn L k M ∧ k (sg 0) + k (sg 1) + k (sg 2) + k (sg 3) = k 0 + k 1 + k 2 + k 3 := by
  have e0 : sg 0 = 0 := rfl
  have e1 : sg 1 = 2 := rfl
  have e2 : sg 2 = 1 := rfl
  have e3 : sg 3 = 3 := rfl
  have e4 : sg 4 = 4 := rfl
  unfold Pn Qn
  simp only [e0, e1, e2, e3, e4]
  exact ⟨by omega, by omega, by omega⟩
/-- a move from table 2 to table 1 -/
def mvR (Z : Nat → Prop) (L : List Nat) (W : Nat → Nat) (s g b cn cc bc : Nat) (v k : Nat → Nat) (n9 : Nat → Rat) (M : mM) (x : Int) (M' : mM) : Prop := (x = 0 ∨ x = 1) ∧ ∃ L' Rn kn, Nms L' W s g b cn cc bc v Rn kn M' ∧ Sp Z s v M M' L' Rn kn ∧ Rq L k M L' kn M' ∧ (∀ j, j ≤ 9 → mI M' (g + j) = mI M (g + j)) ∧ (∀ j, j < 4 → mI M' (v j) = mI M (v j)) ∧ mI M' (s + 30) = mI M (s + 30) ∧ (x ≠ 0 → cn ≤ kn 1 ∧ Rok M' (Rn 1) cn ∧ ∀ j, j < cn → rwv M' (Rn 1) j = n9 j ∧ ft9 (n9 j)) ∧ (x = 0 → ∃ j, j < cn ∧ ¬ ft9 (n9 j))
theorem n_move {n9 : Nat → Rat} (hn : nxH M g (R 2) cn n9) (h : Nms L W s g b cn cc bc v R k M) (hc : Cnu Z L s v R k M) (f1 : mI M (v 1) 1 = 0) (ck : cn ≤ k 2) (ro : Rok M (R 2) cn) (hWr : ∀ x, b ≤ x → 17 ≤ W x ∧ W x ≤ 20000) (hWs : ∀ x, s ≤ x → x ≤ s + 134 → 300 ≤ W x) : Ci G y_Sc_move (d + 8) [vr (s + 1), vr g, vr (v 2), vr (v 1)] M (mvR Z L W s g b cn cc bc v k n9 M) := by
  have b1 := h.2.2.1.1
  have t1 := h.2.1.1 1 (by decide)
  have t2 := h.2.1.1 2 (by decide)
  have bz := h.2.2.1.2
  refine (f_move (d := d) (B := 300) hn (h.1.sva b1 t1).te (h.1.sva b1 t2).te (h.2.1.2 2 1 (by decide) (by decide) (by decide)).2.1 t1.2.2.2.1 t2.2.2.2.1 ck h.1.1.2.2.2.2 ro (h.2.1.2 1 2 (by decide) (by decide) (by decide)).1 (fun x u => w_tat hWs x (Or.inl u)) (by decide) (by decide) (fun x hx => by have := hWr x (by omega); omega) (fun l hl => ?_)).mono (fun x M' q => ?_)
  · have := t1.2.1 l hl
    have a1 := hWr (mR M (R 1) l + 1) (by omega)
    have a3 := hWr (mR M (R 1) l + 3) (by omega)
    omega
  obtain ⟨L', R', k', M1, gw, te, gr, ⟨c1, c2, k5⟩, p1, p2, ⟨x01, l, lc, mv, hl, hX, hf⟩, -⟩ := q
  have FB := te.1.2.1
  have q := mv.1.nx FB
  obtain ⟨N, P, Q, G', V, e30⟩ := h.gx (i := 1) hc (by decide) f1 gw te k5 gr p1 (fun j a b => (p2 j a b).1) c1 q (fun x u => u.elim Or.inl (fun u => Or.inr (Or.inr (Or.inr u)))) (fun x u => u.elim Or.inl (fun u => Or.inr (Or.inr (Or.inr (Or.inr (Or.inr u)))))) mv.2.1.1.2.2
  refine ⟨x01, L', up1 R 1 R', up1 k 1 k', N, P, Q, G', V, e30 (fun u => ?_), fun u => ⟨c1, ?_, fun j hj => ?_⟩, fun u => ⟨l, hf u⟩⟩
  · rcases u with u | ⟨l, hl, u⟩
    · unfold Ipk at u; omega
    · have tb := (N.2.1.1 1 (by decide)).2.1 l (by rw [up1_s]; omega)
      have e : mR M' R' = mR M1 R' := mv.2.2.2.1.1
      rw [up1_s, e] at tb
      omega
  · rw [up1_s, ← hl u]
    exact mv.2.2.2.2.2.2
  · have el := hl u
    have e := hX.2.2 j (by omega)
    rw [up1_s, e]
    refine ⟨rfl, ?_⟩
    rw [← e]
    exact mv.2.2.2.2.2.2.fit (by omega) (mv.2.1.1.2.1.nn0 (mv.2.1.2.2.1.2.2.2.2.2 j (by omega)).2.1)
/-- the table of withins begins -/
theorem n_begin {n9 : Nat → Rat} (hn : ∀ j, j < cn → n9 j = if mI M (g + 2) j = 3 then 1 else 0) (h : Nms L W s g b cn cc bc v R k M) (hc : Cnu Z L s v R k M) (f1 : mI M (v 1) 1 = 0) (hWr : ∀ x, b ≤ x → 17 ≤ W x ∧ W x ≤ 20000) : Cv G y_Fs_begin (d + 4) [vr (v 1), vr g] M (mvR Z L W s g b cn cc bc v k n9 M 1) := by
  have b1 := h.2.2.1.1
  have t1 := h.2.1.1 1 (by decide)
  have bz := h.2.2.1.2
  have c5 := h.1.1.2.2.2.2.1.1
  refine (f_begin (d := d) (h.1.sva b1 t1).te t1.2.2.2.1 c5 h.cnt.1 (fun x hx => by have := hWr x (by omega); omega)).mono (fun M' q => ?_)
  obtain ⟨L', R', k', M1, gw, te, ⟨c1, c2⟩, gr, p1, p2, nb, bg, bw⟩ := q
  have k5 : k' ≤ 512 := by
    have := t1.2.2.2.1
    rcases gr with ⟨-, -, -, e⟩ | ⟨-, e, -⟩ <;> omega
  have FB := te.1.2.1
  obtain ⟨N, P, Q, G', V, e30⟩ := h.gx (i := 1) hc (by decide) f1 gw te k5 gr p1 (fun j a b => (p2 j a b).1) c1 (nb.nx FB) (fun x u => Or.inr (Or.inr (Or.inr u))) (fun x u => Or.inr (Or.inr (Or.inr (Or.inr (Or.inr u))))) (nb.sk FB te.1.2.2)
  have t1' := N.2.1.1 1 (by decide)
  rw [up1_s, up1_s] at t1'
  have rR := (nb.nx FB).rwt FB te.2.2.1 (by have := t1'.2.2.2.2; omega) (by have := t1'.2.2.2.2; omega)
  refine ⟨Or.inr rfl, L', up1 R 1 R', up1 k 1 k', N, P, Q, G', V, e30 (fun ⟨l, hl, u⟩ => ?_), fun _ => ⟨c1, ?_, fun j hj => ?_⟩, fun u => absurd u (by decide)⟩
  · have tb := t1'.2.1 l (by omega)
    rw [rR.2] at tb
    omega
  · rw [up1_s]
    have p1' : (1 : Int) < 2 ^ (30 * 16) := by decide +kernel
    refine ⟨fun l hl => ?_, fun l hl => ?_, fun l hl => (bg l hl).2.2⟩
    · obtain ⟨g1, g3, -⟩ := bg l hl
      rw [g3]
      exact ⟨by decide, p1', by rcases g1 with e | e <;> rw [e] <;> omega⟩
    · obtain ⟨g1, g3, -⟩ := bg l hl
      rw [g3]
      exact ⟨by rcases g1 with e | e <;> rw [e] <;> decide, by decide⟩
  · rw [up1_s, hn j hj]
    refine ⟨?_, ft_01 (Classical.em _)⟩
    have e1 := bw j hj
    rw [G' 2 (by decide)] at e1
    have z0 : ((0 : Int) : Rat) = 0 := rfl
    have z1 : ((1 : Int) : Rat) = 1 := rfl
    unfold rwv
    rw [e1, (bg j hj).2.1]
    split
    · rw [z1]; grind
    · rw [z0, z1]; grind
end NCR
end
