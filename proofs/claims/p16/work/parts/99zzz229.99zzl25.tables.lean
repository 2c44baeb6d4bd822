/-! The class's top: its four tables (0 values, 1 withins, 2 earlier, 3 judged). -/
section NCL
variable {G : mG} {d t g s b i j a Ra n cn cc bc z w : Nat} {v R k : Nat → Nat} {M M0 M' M1 : mM} {L L' : List Nat} {W : Nat → Nat} {T C S : Nat → Prop} {r : Prop}
/-- where a table lies -/
def Tb1 (L : List Nat) (M : mM) (s b a Ra n : Nat) : Prop := RwT L M a Ra n ∧ (∀ i, i < n → b ≤ mR M Ra i) ∧ RwD M Ra n ∧ n ≤ 512 ∧ (s + 134 < a ∧ s + 134 < Ra)
/-- where the four tables lie -/
def Tb0 (L : List Nat) (M : mM) (s b : Nat) (v R k : Nat → Nat) : Prop := (∀ i, i < 4 → Tb1 L M s b (v i) (R i) (k i)) ∧ (∀ i j, i < 4 → j < 4 → i ≠ j → Rsp M (R i) (k i) (R j) (k j) ∧ v i ≠ v j ∧ R i ≠ R j)
/-- what a known table holds -/
def Tk (M : mM) (cn a Ra n : Nat) : Prop := mI M a 1 ≠ 0 → cn ≤ n ∧ Rsm M Ra cn 17 ∧ Rt1 M Ra cn
theorem NX.rwt (q : NX L W T C r z M M') (hF : NF L W M) (h : RwT L M a Ra n) (ha : a ≠ z) (hR : Ra ≠ z) : RwT L M' a Ra n ∧ mR M' Ra = mR M Ra := by
  obtain ⟨h1, h2, h3, h4, ⟨h5, h6⟩, h7⟩ := h
  have oa := q.oth h5 ha
  have oR := q.oth h6 hR
  exact ⟨⟨by rw [oa.1]; exact h1, by rw [oa.2.2.1]; exact h2, by rw [oR.1]; exact h3, by rw [oR.2.1]; exact h4, ⟨q.oc hF h5, q.oc hF h6⟩, fun i hi => by rw [oR.2.2.1]; exact (q.frl hF (h7 i hi)).1⟩, oR.2.2.1⟩
theorem Tb1.nx (h : Tb1 L M s b a Ra n) (q : NX L W T C r (s + 1) M M') (hF : NF L W M) : Tb1 L M' s b a Ra n ∧ mR M' Ra = mR M Ra := by
  obtain ⟨h1, h2, h3, h4, h5, h6⟩ := h
  obtain ⟨k1, k2⟩ := q.rwt hF h1 (by omega) (by omega)
  exact ⟨⟨k1, by rw [k2]; exact h2, by unfold RwD; rw [k2]; exact h3, h4, h5, h6⟩, k2⟩
theorem Tb0.nx (h : Tb0 L M s b v R k) (q : NX L W T C r (s + 1) M M') (hF : NF L W M) : Tb0 L M' s b v R k := by
  refine ⟨fun i hi => ((h.1 i hi).nx q hF).1, fun i j hi hj ij => ?_⟩
  obtain ⟨a1, a2⟩ := h.2 i j hi hj ij
  refine ⟨?_, a2⟩
  unfold Rsp
  rw [((h.1 i hi).nx q hF).2, ((h.1 j hj).nx q hF).2]
  exact a1
/-- the rows are the same -/
theorem Tk.keep (h : Tk M cn a Ra n) (e1 : mI M' a 1 = mI M a 1 ∨ mI M' a 1 = 0) (eR : mR M' Ra = mR M Ra) (e : ∀ i, i < n → nv M' (mR M Ra i + 1) = nv M (mR M Ra i + 1) ∧ nv M' (mR M Ra i + 3) = nv M (mR M Ra i + 3) ∧ mI M' (mR M Ra i) = mI M (mR M Ra i)) : Tk M' cn a Ra n := by
  intro kn
  rcases e1 with e1 | e1
  · rw [e1] at kn
    obtain ⟨k1, k2, k3⟩ := h kn
    refine ⟨k1, fun i hi => ?_, fun i hi => ?_⟩
    · rw [eR, (e i (by omega)).1, (e i (by omega)).2.1]; exact k2 i hi
    · rw [eR, (e i (by omega)).2.2]; exact k3 i hi
  · exact absurd e1 kn
/-- a table of which nothing is touched holds what it held -/
theorem Tk.nx (h : Tk M cn a Ra n) (h1 : Tb1 L M s b a Ra n) (q : NX L W T C r (s + 1) M M') (hF : NF L W M) (ha : ¬ C a) (hT : ∀ i, i < n → ¬ T (mR M Ra i + 1) ∧ ¬ T (mR M Ra i + 3) ∧ ¬ C (mR M Ra i)) : Tk M' cn a Ra n := by
  have oa := q.oth h1.1.2.2.2.2.1.1 (show a ≠ s + 1 by have := h1.2.2.2.2; omega)
  refine h.keep (Or.inl (by rw [oa.2.2.2 ha])) (h1.nx q hF).2 (fun i hi => ?_)
  obtain ⟨t1, t3, c⟩ := hT i hi
  have fl := h1.1.2.2.2.2.2 i hi
  exact ⟨(q.num hF fl.2.1 t1).2.2, (q.num hF fl.2.2 t3).2.2, (q.frl hF fl).2 c⟩
theorem Tb1.fi (h : Tb1 L M s b a Ra n) (f : FI S M M') : Tb1 L M' s b a Ra n := by
  obtain ⟨⟨h1, h2, h3, h4, ⟨h5, h6⟩, h7⟩, h8, h9, h10, h11⟩ := h
  exact ⟨⟨by rw [f.1]; exact h1, by rw [f.2.2.1]; exact h2, by rw [f.1]; exact h3, by rw [f.2.1]; exact h4, ⟨h5.fi f, h6.fi f⟩, fun i hi => by rw [f.2.2.1]; exact (h7 i hi).fi f⟩, by rw [f.2.2.1]; exact h8, by unfold RwD; rw [f.2.2.1]; exact h9, h10, h11⟩
theorem Tb0.fi (h : Tb0 L M s b v R k) (f : FI S M M') : Tb0 L M' s b v R k := ⟨fun i hi => (h.1 i hi).fi f, fun i j hi hj ij => ⟨by unfold Rsp; rw [f.2.2.1]; exact (h.2 i j hi hj ij).1, (h.2 i j hi hj ij).2⟩⟩
theorem Tk.fi (h : Tk M cn a Ra n) (h1 : Tb1 L M s b a Ra n) (hF : NF L W M) (f : FI S M M') (o : mOk M') (hz : s + 1 < mZ M ∧ mK M (s + 1) = 9) (hS : ∀ x, S x → Oc L M x ∧ mK M x ≠ 11) (e1 : mI M' a 1 = mI M a 1 ∨ mI M' a 1 = 0) : Tk M' cn a Ra n := by
  have nvs := (f.nx (T := fun _ => False) (r := False) (z := s + 1) o hF (fun _ u => u.elim) (fun x u => (hS x u).1) hz).2
  refine h.keep e1 (by rw [f.2.2.1]) (fun i hi => ?_)
  have fl := h1.1.2.2.2.2.2 i hi
  exact ⟨nvs _ fl.2.1, nvs _ fl.2.2, f.2.2.2.2.2.2 _ (fun u => (hS _ u).2 fl.1.1)⟩
theorem Tb1.gw (h : Tb1 L M s b a Ra n) (q : Gw L W w M L' M') (ne : a ≠ w) : Tb1 L' M' s b a Ra n ∧ mR M' Ra = mR M Ra := by
  obtain ⟨⟨h1, h2, h3, h4, ⟨h5, h6⟩, h7⟩, h8, h9, h10, h11⟩ := h
  have gg := q
  obtain ⟨o', -, l1, l2, f, na, ka⟩ := q
  have nR : Ra ≠ w := fun e => by rw [e, ka] at h3; omega
  have fa := f.2 a h5.1
  have fR := f.2 Ra h6.1
  have eR := fR.2.2.2.1 nR
  exact ⟨⟨⟨by rw [fa.1]; exact h1, by rw [fa.2.2.2.1 ne]; exact h2, by rw [fR.1]; exact h3, by rw [fR.2.1]; exact h4, ⟨gg.oc h5, gg.oc h6⟩, fun i hi => by rw [eR]; exact (gg.frl (h7 i hi)).1⟩, by rw [eR]; exact h8, by unfold RwD; rw [eR]; exact h9, h10, h11⟩, eR⟩
theorem Tk.gw (h : Tk M cn a Ra n) (h1 : Tb1 L M s b a Ra n) (q : Gw L W w M L' M') (ne : a ≠ w) : Tk M' cn a Ra n := by
  have eR := (h1.gw q ne).2
  have ea : mI M' a = mI M a := (q.2.2.2.2.1.2 a h1.1.2.2.2.2.1.1.1).2.2.2.2 (fun u => u)
  refine h.keep (Or.inl (by rw [ea])) eR (fun i hi => ?_)
  have fl := h1.1.2.2.2.2.2 i hi
  exact ⟨(q.rf fl.2.1).2.1, (q.rf fl.2.2).2.1, (q.frl fl).2⟩
/-- one place of a list of places is another -/
def up1 (f : Nat → Nat) (i x : Nat) : Nat → Nat := fun j => if j = i then x else f j
theorem up1_s {f : Nat → Nat} {x : Nat} : up1 f i x i = x := if_pos rfl
theorem up1_n {f : Nat → Nat} {x : Nat} (h : j ≠ i) : up1 f i x j = f j := if_neg h
/-- one table grows -/
theorem Tb0.gw {R' k' : Nat} (h : Tb0 L M s b v R k) (hb : b ≤ mZ M) (i4 : i < 4) (q : Gw L W (v i) M L' M') (te : RwT L' M' (v i) R' k') (hD : RwD M' R' k') (k5 : k' ≤ 512) (gr : R' = R i ∨ R' = mZ M) (p1 : ∀ j, j < k i → mR M' R' j = mR M (R i) j) (p2 : ∀ j, k i ≤ j → j < k' → mR M' R' j = mZ M + 1 + 5 * (j - k i)) : Tb0 L' M' s b v (up1 R i R') (up1 k i k') := by
  obtain ⟨h1, h2⟩ := h
  have ti := h1 i i4
  have lz : ∀ j, j < 4 → R j < mZ M := fun j hj => (h1 j hj).1.2.2.2.2.1.2.1
  have R5 : s + 134 < R' := by
    have a1 := ti.2.2.2.2.2
    have a2 := lz i i4
    rcases gr with e | e <;> omega
  have one : ∀ j, j < 4 → Tb1 L' M' s b (v j) (up1 R i R' j) (up1 k i k' j) := fun j hj => by
    by_cases c : j = i
    · subst c
      rw [up1_s, up1_s]
      refine ⟨te, fun l hl => ?_, hD, k5, ti.2.2.2.2.1, R5⟩
      by_cases c : l < k j
      · rw [p1 l c]; exact ti.2.1 l c
      · rw [p2 l (by omega) hl]; omega
    · rw [up1_n c, up1_n c]
      exact ((h1 j hj).gw q (h2 j i hj i4 c).2.1).1
  have two : ∀ l, l < 4 → l ≠ i → Rsp M' R' k' (R l) (k l) ∧ R' ≠ R l := fun l hl c => by
    have el := ((h1 l hl).gw q (h2 l i hl i4 c).2.1).2
    obtain ⟨o1, o2, o3⟩ := h2 i l i4 hl (fun e => c e.symm)
    refine ⟨fun x y hx hy => ?_, ?_⟩
    · rw [el]
      by_cases cx : x < k i
      · rw [p1 x cx]; exact o1 x y cx hy
      · rw [p2 x (by omega) hx]
        have fl := (h1 l hl).1.2.2.2.2.2 y hy
        have z3 := (q.2.1.1.lt fl.2.2).1
        exact ⟨by omega, by omega, by omega⟩
    · have := lz l hl
      rcases gr with e | e
      · rw [e]; exact o3
      · omega
  refine ⟨one, fun j l hj hl jl => ?_⟩
  have vv := (h2 j l hj hl jl).2.1
  by_cases c : j = i
  · subst c
    rw [up1_s, up1_s, up1_n (fun e => jl e.symm), up1_n (fun e => jl e.symm)]
    exact ⟨(two l hl (fun e => jl e.symm)).1, vv, (two l hl (fun e => jl e.symm)).2⟩
  · rw [up1_n c, up1_n c]
    by_cases c2 : l = i
    · subst c2
      rw [up1_s, up1_s]
      exact ⟨fun x y hx hy => ((two j hj c).1 y x hy hx).sym, vv, fun e => (two j hj c).2 e.symm⟩
    · rw [up1_n c2, up1_n c2]
      have ej := ((h1 j hj).gw q (h2 j i hj i4 c).2.1).2
      have el := ((h1 l hl).gw q (h2 l i hl i4 c2).2.1).2
      refine ⟨?_, vv, (h2 j l hj hl jl).2.2⟩
      unfold Rsp
      rw [ej, el]
      exact (h2 j l hj hl jl).1
end NCL
