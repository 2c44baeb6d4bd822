section
/-! The class's top: its four tables (0 values, 1 withins, 2 earlier, 3 judged). -/
section NCL
variable {G : mG} {d t g s b i j a Ra n cn cc bc z w : Nat} {v R k : Nat → Nat} {M M0 M' M1 : mM} {L L' : List Nat} {W : Nat → Nat} {T C S : Nat → Prop} {r : Prop}
/-- where a table lies -/
def Tb1 (L : List Nat) (M : mM) (s b a Ra n : Nat) : Prop := RwT L M a Ra n ∧ (∀ i, i < n → b ≤ mR M Ra i) ∧ RwD M Ra n ∧ n ≤ 512 ∧ (s + 133 < a ∧ s + 133 < Ra)
/-- where the four tables lie -/
def Tb0 (L : List Nat) (M : mM) (s b : Nat) (v R k : Nat → Nat) : Prop := (∀ i, i < 4 → Tb1 L M s b (v i) (R i) (k i)) ∧ (∀ i j, i < 4 → j < 4 → i ≠ j → Rsp M (R i) (k i) (R j) (k j) ∧ v i ≠ v j ∧ R i ≠ R j)
/-- what a known table holds -/
def Tk (M : mM) (cn a Ra n : Nat) : Prop := mI M a 1 ≠ 0 → cn ≤ n ∧ Rsm M Ra cn 17 ∧ Rt1 M Ra cn
theorem NX.rwt (q : NX L W T C r z M M') (hF : NF L W M) (h : RwT L M a Ra n) (ha : a ≠ z) (hR : Ra ≠ z) : RwT L M' a Ra n ∧ mR M' Ra = mR M Ra := by
  obtain ⟨h1, h2, h3, h4, ⟨h5, h6⟩, h7⟩ := h
  have oa := q.oth h5 ha
  have oR := q.oth h6 hR
  exact ⟨⟨by rw [oa.1]; exact h1, by rw [oa.2.2.1]; exact h2, by rw [oR.1]; exact h3, by rw [oR.2.1]; exact h4, ⟨q.oc hF h5, q.oc hF h6⟩, fun i hi => by rw [oR.2.2.1]; exact (q.frl hF (h7 i hi)).1⟩, oR.2.2.1⟩
theorem Tb1.nx (h : Tb1 L M s b a Ra n) (q : NX L W T C r (s + 1) M M') (hF : NF L W M) : Tb1 L M' s b a Ra n ∧ mR M' Ra = mR M Ra := by
  obtain ⟨h1, h2, h3, h4, h5, h6⟩ := h
  obtain ⟨k1, k2⟩ := q.rwt hF h1 (by omega) (by omega)
  exact ⟨⟨k1, by rw [k2]; exact h2, by unfold RwD; rw [k2]; exact h3, h4, h5, h6⟩, k2⟩
theorem Tb0.nx (h : Tb0 L M s b v R k) (q : NX L W T C r (s + 1) M M') (hF : NF L W M) : Tb0 L M' s b v R k := by
  refine ⟨fun i hi => ((h.1 i hi).nx q hF).1, fun i j hi hj ij => ?_⟩
  obtain ⟨a1, a2⟩ := h.2 i j hi hj ij
  refine ⟨?_, a2⟩
  unfold Rsp
  rw [((h.1 i hi).nx q hF).2, ((h.1 j hj).nx q hF).2]
  exact a1
/-- the rows are the same -/
theorem Tk.keep (h : Tk M cn a Ra n) (e1 : mI M' a 1 = mI M a 1 ∨ mI M' a 1 = 0) (eR : mR M' Ra = mR M Ra) (e : ∀ i, i < n → nv M' (mR M Ra i + 1) = nv M (mR M Ra i + 1) ∧ nv M' (mR M Ra i + 3) = nv M (mR M Ra i + 3) ∧ mI M' (mR M Ra i) = mI M (mR M Ra i)) : Tk M' cn a Ra n := by
  intro kn
  rcases e1 with e1 | e1
  · rw [e1] at kn
    obtain ⟨k1, k2, k3⟩ := h kn
    refine ⟨k1, fun i hi => ?_, fun i hi => ?_⟩
    · rw [eR, (e i (by omega)).1, (e i (by omega)).2.1]; exact k2 i hi
    · rw [eR, (e i (by omega)).2.2]; exact k3 i hi
  · exact absurd e1 kn
/-- a table of which nothing is touched holds what it held -/
theorem Tk.nx (h : Tk M cn a Ra n) (h1 : Tb1 L M s b a Ra n) (q : NX L W T C r (s + 1) M M') (hF : NF L W M) (ha : ¬ C a) (hT : ∀ i, i < n → ¬ T (mR M Ra i + 1) ∧ ¬ T (mR M Ra i + 3) ∧ ¬ C (mR M Ra i)) : Tk M' cn a Ra n := by
  have oa := q.oth h1.1.2.2.2.2.1.1 (show a ≠ s + 1 by have := h1.2.2.2.2; omega)
  refine h.keep (Or.inl (by rw [oa.2.2.2 ha])) (h1.nx q hF).2 (fun i hi => ?_)
  obtain ⟨t1, t3, c⟩ := hT i hi
  have fl := h1.1.2.2.2.2.2 i hi
  exact ⟨(q.num hF fl.2.1 t1).2.2, (q.num hF fl.2.2 t3).2.2, (q.frl hF fl).2 c⟩
theorem Tb1.fi (h : Tb1 L M s b a Ra n) (f : FI S M M') : Tb1 L M' s b a Ra n := by
  obtain ⟨⟨h1, h2, h3, h4, ⟨h5, h6⟩, h7⟩, h8, h9, h10, h11⟩ := h
  exact ⟨⟨by rw [f.1]; exact h1, by rw [f.2.2.1]; exact h2, by rw [f.1]; exact h3, by rw [f.2.1]; exact h4, ⟨h5.fi f, h6.fi f⟩, fun i hi => by rw [f.2.2.1]; exact (h7 i hi).fi f⟩, by rw [f.2.2.1]; exact h8, by unfold RwD; rw [f.2.2.1]; exact h9, h10, h11⟩
theorem Tb0.fi (h : Tb0 L M s b v R k) (f : FI S M M') : Tb0 L M' s b v R k := ⟨fun i hi => (h.1 i hi).fi f, fun i j hi hj ij => ⟨by unfold Rsp; rw [f.2.2.1]; exact (h.2 i j hi hj ij).1, (h.2 i j hi hj ij).2⟩⟩
theorem Tk.fi (h : Tk M cn a Ra n) (h1 : Tb1 L M s b a Ra n) (hF : NF L W M) (f : FI S M M') (o : mOk M') (hz : s + 1 < mZ M ∧ mK M (s + 1) = 9) (hS : ∀ x, S x → Oc L M x ∧ mK M x ≠ 11) (e1 : mI M' a 1 = mI M a 1 ∨ mI M' a 1 = 0) : Tk M' cn a Ra n := by
  have nvs := (f.nx (T := fun _ => False) (r := False) (z := s + 1) o hF (fun _ u => u.elim) (fun x u => (hS x u).1) hz).2
  refine h.keep e1 (by rw [f.2.2.1]) (fun i hi => ?_)
  have fl := h1.1.2.2.2.2.2 i hi
  exact ⟨nvs _ fl.2.1, nvs _ fl.2.2, f.2.2.2.2.2.2 _ (fun u => (hS _ u).2 fl.1.1)⟩
theorem Tb1.gw (h : Tb1 L M s b a Ra n) (q : Gw L W w M L' M') (ne : a ≠ w) : Tb1 L' M' s b a Ra n ∧ mR M' Ra = mR M Ra := by
  obtain ⟨⟨h1, h2, h3, h4, ⟨h5, h6⟩, h7⟩, h8, h9, h10, h11⟩ := h
  have gg := q
  obtain ⟨o', -, l1, l2, f, na, ka⟩ := q
  have nR : Ra ≠ w := fun e => by rw [e, ka] at h3; omega
  have fa := f.2 a h5.1
  have fR := f.2 Ra h6.1
  have eR := fR.2.2.2.1 nR
  exact ⟨⟨⟨by rw [fa.1]; exact h1, by rw [fa.2.2.2.1 ne]; exact h2, by rw [fR.1]; exact h3, by rw [fR.2.1]; exact h4, ⟨gg.oc h5, gg.oc h6⟩, fun i hi => by rw [eR]; exact (gg.frl (h7 i hi)).1⟩, by rw [eR]; exact h8, by unfold RwD; rw [eR]; exact h9, h10, h11⟩, eR⟩
theorem Tk.gw (h : Tk M cn a Ra n) (h1 : Tb1 L M s b a Ra n) (q : Gw L W w M L' M') (ne : a ≠ w) : Tk M' cn a Ra n := by
  have eR := (h1.gw q ne).2
  have ea : mI M' a = mI M a := (q.2.2.2.2.1.2 a h1.1.2.2.2.2.1.1.1).2.2.2.2 (fun u => u)
  refine h.keep (Or.inl (by rw [ea])) eR (fun i hi => ?_)
  have fl := h1.1.2.2.2.2.2 i hi
  exact ⟨(q.rf fl.2.1).2.1, (q.rf fl.2.2).2.1, (q.frl fl).2⟩
/-- one place of a list of places is another -/
def up1 (f : Nat → Nat) (i x : Nat) : Nat → Nat := fun j => if j = i then x else f j
theorem up1_s {f : Nat → Nat} {x : Nat} : up1 f i x i = x := if_pos rfl
theorem up1_n {f : Nat → Nat} {x : Nat} (h : j ≠ i) : up1 f i x j = f j := if_neg h
/-- one table grows -/
theorem Tb0.gw {R' k' : Nat} (h : Tb0 L M s b v R k) (hb : b ≤ mZ M) (i4 : i < 4) (q : Gw L W (v i) M L' M') (te : RwT L' M' (v i) R' k') (hD : RwD M' R' k') (k5 : k' ≤ 512) (gr : R' = R i ∨ R' = mZ M) (p1 : ∀ j, j < k i → mR M' R' j = mR M (R i) j) (p2 : ∀ j, k i ≤ j → j < k' → mR M' R' j = mZ M + 1 + 5 * (j - k i)) : Tb0 L' M' s b v (up1 R i R') (up1 k i k') := by
  obtain ⟨h1, h2⟩ := h
  have ti := h1 i i4
  have lz : ∀ j, j < 4 → R j < mZ M := fun j hj => (h1 j hj).1.2.2.2.2.1.2.1
  have R5 : s + 133 < R' := by
    have a1 := ti.2.2.2.2.2
    have a2 := lz i i4
    rcases gr with e | e <;> omega
  have one : ∀ j, j < 4 → Tb1 L' M' s b (v j) (up1 R i R' j) (up1 k i k' j) := fun j hj => by
    by_cases c : j = i
    · subst c
      rw [up1_s, up1_s]
      refine ⟨te, fun l hl => ?_, hD, k5, ti.2.2.2.2.1, R5⟩
      by_cases c : l < k j
      · rw [p1 l c]; exact ti.2.1 l c
      · rw [p2 l (by omega) hl]; omega
    · rw [up1_n c, up1_n c]
      exact ((h1 j hj).gw q (h2 j i hj i4 c).2.1).1
  have two : ∀ l, l < 4 → l ≠ i → Rsp M' R' k' (R l) (k l) ∧ R' ≠ R l := fun l hl c => by
    have el := ((h1 l hl).gw q (h2 l i hl i4 c).2.1).2
    obtain ⟨o1, o2, o3⟩ := h2 i l i4 hl (fun e => c e.symm)
    refine ⟨fun x y hx hy => ?_, ?_⟩
    · rw [el]
      by_cases cx : x < k i
      · rw [p1 x cx]; exact o1 x y cx hy
      · rw [p2 x (by omega) hx]
        have fl := (h1 l hl).1.2.2.2.2.2 y hy
        have z3 := (q.2.1.1.lt fl.2.2).1
        exact ⟨by omega, by omega, by omega⟩
    · have := lz l hl
      rcases gr with e | e
      · rw [e]; exact o3
      · omega
  refine ⟨one, fun j l hj hl jl => ?_⟩
  have vv := (h2 j l hj hl jl).2.1
  by_cases c : j = i
  · subst c
    rw [up1_s, up1_s, up1_n (fun e => jl e.symm), up1_n (fun e => jl e.symm)]
    exact ⟨(two l hl (fun e => jl e.symm)).1, vv, (two l hl (fun e => jl e.symm)).2⟩
  · rw [up1_n c, up1_n c]
    by_cases c2 : l = i
    · subst c2
      rw [up1_s, up1_s]
      exact ⟨fun x y hx hy => ((two j hj c).1 y x hy hx).sym, vv, fun e => (two j hj c).2 e.symm⟩
    · rw [up1_n c2, up1_n c2]
      have ej := ((h1 j hj).gw q (h2 j i hj i4 c).2.1).2
      have el := ((h1 l hl).gw q (h2 l i hl i4 c2).2.1).2
      refine ⟨?_, vv, (h2 j l hj hl jl).2.2⟩
      unfold Rsp
      rw [ej, el]
      exact (h2 j l hj hl jl).1
end NCL
end
section
/-! The class's top: its numbers at rest. -/
section NCM
variable {G : mG} {d t g s b i j a Ra n cn cc bc z w : Nat} {v R k : Nat → Nat} {M M0 M' M1 : mM} {L L' : List Nat} {W : Nat → Nat} {T C S Z : Nat → Prop} {r : Prop}
/-- the Solver without a table -/
def Sb (L : List Nat) (W : Nat → Nat) (s g cn cc bc : Nat) (M : mM) : Prop := SG M s g cn cc bc ∧ (NF L W M ∧ SK L M (s + 1) ∧ RsK L M (s + 31) ∧ FrL L M (s + 129)) ∧ (∀ x, Stb s x → Oc L M x) ∧ (∀ i, i ≤ 9 → Oc L M (g + i))
theorem Sb.sva (h : Sb L W s g cn cc bc M) (hb : s + 133 < b) (ht : Tb1 L M s b a Ra n) : Sva L W s g a Ra n cn cc bc M := ⟨h.1, h.2.1, h.2.2.1, h.2.2.2, ht.1, fun i hi => by have := ht.2.1 i hi; omega, ht.2.2.1⟩
theorem Sva.sb (h : Sva L W s g a Ra n cn cc bc M) : Sb L W s g cn cc bc M := ⟨h.1, h.2.1, h.2.2.1, h.2.2.2.1⟩
/-- the numbers at rest: b is where the rows may begin -/
def Nms (L : List Nat) (W : Nat → Nat) (s g b cn cc bc : Nat) (v R k : Nat → Nat) (M : mM) : Prop := Sb L W s g cn cc bc M ∧ Tb0 L M s b v R k ∧ (s + 133 < b ∧ b ≤ mZ M) ∧ (∀ i, i < 4 → i ≠ 2 → Tk M cn (v i) (R i) (k i))
theorem chs_same (h : Chs M s g cn) (e3 : mI M' (s + 30) = mI M (s + 30)) (e4 : mI M' (g + 4) = mI M (g + 4)) : Chs M' s g cn := by
  unfold Chs at h ⊢
  rw [e3, e4]
  exact h
theorem tso_lo {x : Nat} (h : Tso s M Ra n x) : (s ≤ x ∧ x ≤ s + 133) ∨ Trw M Ra n x := by
  rcases h with u | ⟨u | ⟨i, hi, u⟩⟩ | u | u
  · left; unfold Tpk T4 Tor T2 at u; omega
  · left; omega
  · left; omega
  · left; unfold T2 at u; omega
  · exact Or.inr u
theorem cso_lo {x : Nat} (h : Cso s M Ra n x) : (s ≤ x ∧ x ≤ s + 133) ∨ Irw M Ra n x := by
  rcases h with u | u | u | u | u | u
  · left; unfold Ipk at u; omega
  · left; unfold Stb at u; omega
  · left; unfold S36 at u; omega
  · left; omega
  · left; omega
  · exact Or.inr u
/-- rows of two tables: what touches one leaves the other -/
theorem rsp_no {R1 k1 R2 k2 l : Nat} (h : Rsp M R1 k1 R2 k2) (hn : n ≤ k1) (hl : l < k2) : ¬ Trw M R1 n (mR M R2 l + 1) ∧ ¬ Trw M R1 n (mR M R2 l + 3) ∧ ¬ Irw M R1 n (mR M R2 l) := by
  refine ⟨?_, ?_, ?_⟩
  · rintro ⟨i, hi, u⟩
    obtain ⟨f1, f2, f3⟩ := h i l (by omega) hl
    unfold T2 at u
    omega
  · rintro ⟨i, hi, u⟩
    obtain ⟨f1, f2, f3⟩ := h i l (by omega) hl
    unfold T2 at u
    omega
  · rintro ⟨i, hi, u⟩
    obtain ⟨f1, f2, f3⟩ := h i l (by omega) hl
    omega
/-- a step of numbers that touches table i alone -/
theorem Nms.nx (h : Nms L W s g b cn cc bc v R k M) (i4 : i < 4) (q : NX L W T C r (s + 1) M M') (hn : n ≤ k i) (hT : ∀ x, T x → (s ≤ x ∧ x ≤ s + 133) ∨ Trw M (R i) n x) (hC : ∀ x, C x → (s ≤ x ∧ x ≤ s + 133) ∨ Irw M (R i) n x) : Tb0 L M' s b v R k ∧ (∀ j, j < 4 → mR M' (R j) = mR M (R j) ∧ mI M' (v j) = mI M (v j)) ∧ (∀ j, j < 4 → j ≠ 2 → j ≠ i → Tk M' cn (v j) (R j) (k j)) := by
  obtain ⟨sb, tb, ⟨b1, b2⟩, tk⟩ := h
  have hF := sb.2.1.1
  have nC : ∀ j, j < 4 → ¬ C (v j) := fun j hj u => by
    have kv := (tb.1 j hj).1.1
    have lv := (tb.1 j hj).2.2.2.2.1
    rcases hC _ u with w | ⟨l, hl, w⟩
    · omega
    · have := ((tb.1 i i4).1.2.2.2.2.2 l (by omega)).1.1
      rw [← w, kv] at this
      omega
  refine ⟨tb.nx q hF, fun j hj => ⟨((tb.1 j hj).nx q hF).2, ?_⟩, fun j hj j2 ji => ?_⟩
  · exact (q.oth (tb.1 j hj).1.2.2.2.2.1.1 (by have := (tb.1 j hj).2.2.2.2.1; omega)).2.2.2 (nC j hj)
  · refine (tk j hj j2).nx (tb.1 j hj) q hF (nC j hj) (fun l hl => ?_)
    have bl := (tb.1 j hj).2.1 l hl
    obtain ⟨n1, n2, n3⟩ := rsp_no (tb.2 i j i4 hj (fun e => ji e.symm)).1 hn hl
    refine ⟨fun u => ?_, fun u => ?_, fun u => ?_⟩
    · rcases hT _ u with w | w
      · omega
      · exact n1 w
    · rcases hT _ u with w | w
      · omega
      · exact n2 w
    · rcases hC _ u with w | w
      · omega
      · exact n3 w
/-- the cells of the numbers -/
def Cnu (Z : Nat → Prop) (L : List Nat) (s : Nat) (v R k : Nat → Nat) (M : mM) : Prop := (∀ x, s ≤ x → x ≤ s + 133 → Z x) ∧ (∀ a, a ∈ L → Z a ∧ Z (mR M a 0)) ∧ (∀ i, i < 4 → Z (v i) ∧ Z (R i) ∧ ∀ j, j < k i → Z (mR M (R i) j))
/-- only cells of Z have changed -/
def FC (Z : Nat → Prop) (M M' : mM) : Prop := (mZ M ≤ mZ M' ∧ mS M ≤ mS M') ∧ ∀ x, x < mZ M → mK M' x = mK M x ∧ mN M' x = mN M x ∧ (¬ Z x → mL M' x = mL M x ∧ mR M' x = mR M x ∧ mI M' x = mI M x)
/-- with the cells that were made since -/
def Zn (Z : Nat → Prop) (M M' : mM) (x : Nat) : Prop := Z x ∨ (mZ M ≤ x ∧ x < mZ M')
theorem FC.refl : FC Z M M := ⟨⟨Nat.le_refl _, Nat.le_refl _⟩, fun _ _ => ⟨rfl, rfl, fun _ => ⟨rfl, rfl, rfl⟩⟩⟩
theorem FC.trans (h : FC Z M M1) (q : FC (Zn Z M M1) M1 M') : FC Z M M' := by
  obtain ⟨⟨h1, h2⟩, h3⟩ := h
  obtain ⟨⟨q1, q2⟩, q3⟩ := q
  refine ⟨⟨by omega, by omega⟩, fun x hx => ?_⟩
  obtain ⟨a1, a2, a3⟩ := h3 x hx
  obtain ⟨b1, b2, b3⟩ := q3 x (by omega)
  refine ⟨b1.trans a1, b2.trans a2, fun nz => ?_⟩
  have a := a3 nz
  have b := b3 (fun u => u.elim nz (fun u => by omega))
  exact ⟨b.1.trans a.1, b.2.1.trans a.2.1, b.2.2.trans a.2.2⟩
theorem FC.mono {Z' : Nat → Prop} (h : FC Z M M') (hz : ∀ x, x < mZ M → Z x → Z' x) : FC Z' M M' := ⟨h.1, fun x hx => ⟨(h.2 x hx).1, (h.2 x hx).2.1, fun nz => (h.2 x hx).2.2 (fun u => nz (hz x hx u))⟩⟩
theorem Zn.trans {x : Nat} (z1 : mZ M ≤ mZ M1) (z2 : mZ M1 ≤ mZ M') : Zn (Zn Z M M1) M1 M' x ↔ Zn Z M M' x := by
  unfold Zn
  constructor
  · rintro ((u | u) | u)
    · exact Or.inl u
    · right; omega
    · right; omega
  · rintro (u | u)
    · exact Or.inl (Or.inl u)
    · by_cases c : x < mZ M1
      · exact Or.inl (Or.inr ⟨u.1, c⟩)
      · right; omega
theorem FD.fc {S' R' D' : Nat → Prop} (h : FD S' R' D' M M') (h1 : ∀ x, S' x → Z x) (h2 : ∀ x, R' x → Z x) (h3 : ∀ x, D' x → Z x) : FC Z M M' := ⟨h.1, fun x hx => ⟨(h.2 x hx).1, (h.2 x hx).2.1, fun nz => ⟨(h.2 x hx).2.2.1 (fun u => nz (h3 x u)), (h.2 x hx).2.2.2.1 (fun u => nz (h2 x u)), (h.2 x hx).2.2.2.2 (fun u => nz (h1 x u))⟩⟩⟩
theorem FA.fc {S' R' : Nat → Prop} (h : FA S' R' M M') (h1 : ∀ x, S' x → Z x) (h2 : ∀ x, R' x → Z x) : FC Z M M' := ⟨h.1, fun x hx => ⟨(h.2 x hx).1, (h.2 x hx).2.1, fun nz => ⟨(h.2 x hx).2.2.1, (h.2 x hx).2.2.2.1 (fun u => nz (h2 x u)), (h.2 x hx).2.2.2.2 (fun u => nz (h1 x u))⟩⟩⟩
theorem FI.fc (h : FI S M M') (h1 : ∀ x, S x → Z x) : FC Z M M' := (h.fa (R := fun _ => False)).fc h1 (fun _ u => u.elim)
/-- a step of numbers: its cells, and the cells after it -/
theorem NX.fc (q : NX L W T C r (s + 1) M M') (hF : NF L W M) (hc : Cnu Z L s v R k M) (tb : Tb0 L M s b v R k) (hC : ∀ x, C x → Z x) : FC Z M M' ∧ Cnu (Zn Z M M') L s v R k M' := by
  obtain ⟨c1, c2, c3⟩ := hc
  have hq := q
  obtain ⟨-, ⟨h2, -, hz⟩, h3, h4, -⟩ := q
  refine ⟨h3.fc (fun x u => ?_) (fun x u => ?_) (fun x u => ?_), fun x a1 a2 => Or.inl (c1 x a1 a2), fun a ha => ⟨Or.inl (c2 a ha).1, ?_⟩, fun i hi => ⟨Or.inl (c3 i hi).1, Or.inl (c3 i hi).2.1, fun j hj => ?_⟩⟩
  · rcases u with (u | ⟨t, ht, u⟩) | u
    · exact (c2 x (h2 x u)).1
    · rw [u]; exact (c2 t (h2 t ht)).2
    · exact hC x u
  · rcases u with u | u
    · exact (c2 x (h2 x u)).1
    · rw [u.1]; exact c1 _ (by omega) (by omega)
  · rw [u]; exact c1 _ (by omega) (by omega)
  · by_cases c : T a
    · rcases h4 a c with e | e
      · rw [e]; exact Or.inl (c2 a ha).2
      · exact Or.inr ⟨e, (hq.nf.lt ha).2⟩
    · rw [(hq.num hF ha c).1]; exact Or.inl (c2 a ha).2
  · rw [((tb.1 i hi).nx hq hF).2]; exact Or.inl ((c3 i hi).2.2 j hj)
end NCM
end
section
/-! The class's top: steps of its numbers; the room they take. -/
section NCN
variable {G : mG} {d t g s b i j a Ra n cn cc bc z w R' k' : Nat} {v R k Rn kn : Nat → Nat} {M M0 M' M1 : mM} {L L' : List Nat} {W : Nat → Nat} {T C S Z : Nat → Prop} {r : Prop}
/-- the room of a table's array: the last growth may be a small one -/
def pk4 (k : Nat) : Nat := 2 * k + (if k = 512 then 512 else 0)
def Pn (L : List Nat) (k : Nat → Nat) (M : mM) : Nat := 2 * psum (cp M) L + (pk4 (k 0) + pk4 (k 1) + pk4 (k 2) + pk4 (k 3))
def Qn (L : List Nat) (k : Nat → Nat) (M : mM) : Nat := psum (fun p => cp M p / 4) L + 4 * (k 0 + k 1 + k 2 + k 3)
/-- the room that a step of numbers takes -/
def Rq (L : List Nat) (k : Nat → Nat) (M : mM) (L' : List Nat) (kn : Nat → Nat) (M' : mM) : Prop := mS M' + Pn L k M ≤ mS M + Pn L' kn M' ∧ mZ M' + Qn L k M ≤ mZ M + Qn L' kn M' ∧ L'.length + 2 * (k 0 + k 1 + k 2 + k 3) ≤ L.length + 2 * (kn 0 + kn 1 + kn 2 + kn 3) ∧ (∀ x, x ∈ L → x ∈ L') ∧ ∀ f, FrL L M f → FrL L' M' f
theorem Rq.refl : Rq L k M L k M := ⟨Nat.le_refl _, Nat.le_refl _, Nat.le_refl _, fun _ u => u, fun _ u => u⟩
theorem Rq.trans {L1 : List Nat} {k1 : Nat → Nat} (h : Rq L k M L1 k1 M1) (q : Rq L1 k1 M1 L' kn M') : Rq L k M L' kn M' := by
  obtain ⟨h1, h2, h3, h4, h5⟩ := h
  obtain ⟨q1, q2, q3, q4, q5⟩ := q
  exact ⟨by omega, by omega, by omega, fun x u => q4 x (h4 x u), fun f u => q5 f (h5 f u)⟩
theorem NX.rq (q : NX L W T C r z M M') (hF : NF L W M) : Rq L k M L k M' := by
  obtain ⟨h1, h2⟩ := q.2.2.2.2
  unfold Rq Pn Qn
  exact ⟨by omega, by omega, Nat.le_refl _, fun _ u => u, fun f u => (q.frl hF u).1⟩
theorem FI.rq (f : FI S M M') : Rq L k M L k M' := by
  have cc : cp M' = cp M := by funext x; unfold cp; rw [f.2.2.1, f.2.1]
  unfold Rq Pn Qn
  rw [cc, f.2.2.2.2.1, f.2.2.2.2.2.1]
  exact ⟨Nat.le_refl _, Nat.le_refl _, Nat.le_refl _, fun _ u => u, fun x u => u.fi f⟩
/-- a sum over four places of which one has changed -/
theorem four_up {f : Nat → Nat} (i4 : i < 4) : f (up1 k i k' 0) + f (up1 k i k' 1) + f (up1 k i k' 2) + f (up1 k i k' 3) + f (k i) = f (k 0) + f (k 1) + f (k 2) + f (k 3) + f k' := by
  have : i = 0 ∨ i = 1 ∨ i = 2 ∨ i = 3 := by omega
  rcases this with e | e | e | e <;> subst e <;> simp only [up1] <;> simp <;> omega
theorem rv_rq (i4 : i < 4) (gw : Gw L W w M L' M') (h : (M' = M ∧ L' = L ∧ R' = R i ∧ k' = k i) ∨ rvG L M (R i) (k i) L' M' R' k') : Rq L k M L' (up1 k i k') M' := by
  have l1 := gw.2.2.1
  have lf : ∀ f, FrL L M f → FrL L' M' f := fun f u => (gw.frl u).1
  clear gw
  have f1 := four_up (k := k) (k' := k') (f := pk4) i4
  have f2 := four_up (k := k) (k' := k') (f := fun x => x) i4
  rcases h with ⟨e1, e2, -, e4⟩ | ⟨-, ⟨c1, c2, c3⟩, l, ⟨z1, z2⟩, p1, p2⟩
  · subst e1 e2
    rw [e4] at f1 f2 ⊢
    unfold Rq Pn Qn
    exact ⟨by omega, by omega, by omega, l1, lf⟩
  · have pk1 : pk4 (k i) + k' ≤ pk4 k' := by
      unfold pk4
      rw [if_neg (by omega)]
      split <;> omega
    unfold Rq Pn Qn
    exact ⟨by omega, by omega, by omega, l1, lf⟩
/-- ints of other cells change -/
theorem Nms.fi (h : Nms L W s g b cn cc bc v R k M) (f : FI S M M') (o : mOk M') (hS : ∀ x, S x → Oc L M x ∧ mK M x ≠ 11) (sb' : Sb L W s g cn cc bc M') (e1 : ∀ j, j < 4 → j ≠ 2 → mI M' (v j) 1 = mI M (v j) 1 ∨ mI M' (v j) 1 = 0) : Nms L W s g b cn cc bc v R k M' := by
  obtain ⟨sb, tb, ⟨b1, b2⟩, tk⟩ := h
  exact ⟨sb', tb.fi f, ⟨b1, by rw [f.2.2.2.2.1]; exact b2⟩, fun j hj j2 => (tk j hj j2).fi (tb.1 j hj) sb.2.1.1 f o sb.2.1.2.1.z9 hS (e1 j hj j2)⟩
theorem Nms.nx2 (h : Nms L W s g b cn cc bc v R k M) (i4 : i < 4) (q : NX L W T C r (s + 1) M M') (hn : n ≤ k i) (hT : ∀ x, T x → (s ≤ x ∧ x ≤ s + 133) ∨ Trw M (R i) n x) (hC : ∀ x, C x → (s ≤ x ∧ x ≤ s + 133) ∨ Irw M (R i) n x) (sb' : Sb L W s g cn cc bc M') (ti : i ≠ 2 → Tk M' cn (v i) (R i) (k i)) : Nms L W s g b cn cc bc v R k M' := by
  obtain ⟨a1, a2, a3⟩ := h.nx i4 q hn hT hC
  refine ⟨sb', a1, ⟨h.2.2.1.1, Nat.le_trans h.2.2.1.2 q.2.2.1.1.1⟩, fun j hj j2 => ?_⟩
  by_cases c : j = i
  · subst c; exact ti j2
  · exact a3 j hj j2 c
/-- one table grows, which isn't known -/
theorem Nms.gw (h : Nms L W s g b cn cc bc v R k M) (i4 : i < 4) (q : Gw L W (v i) M L' M') (te : Te L' W (s + 1) g (v i) R' k' M') (k5 : k' ≤ 512) (gr : (M' = M ∧ L' = L ∧ R' = R i ∧ k' = k i) ∨ rvG L M (R i) (k i) L' M' R' k') (p1 : ∀ j, j < k i → mR M' R' j = mR M (R i) j) (p2 : ∀ j, k i ≤ j → j < k' → mR M' R' j = mZ M + 1 + 5 * (j - k i)) (fl : mI M (v i) 1 = 0) : Nms L' W s g b cn cc bc v (up1 R i R') (up1 k i k') M' ∧ Sva L' W s g (v i) R' k' cn cc bc M' := by
  obtain ⟨sb, tb, ⟨b1, b2⟩, tk⟩ := h
  have gr' : R' = R i ∨ R' = mZ M := by
    rcases gr with e | e
    · exact Or.inl e.2.2.1
    · exact Or.inr e.1
  have tb' := tb.gw b2 i4 q te.2.2.1 te.2.2.2.2 k5 gr' p1 p2
  have ti' := tb'.1 i i4
  rw [up1_s, up1_s] at ti'
  obtain ⟨sv', -, -⟩ := (sb.sva b1 (tb.1 i i4)).gw q te (fun j hj => by have := ti'.2.1 j hj; omega)
  have ei : ∀ j, j < 4 → mI M' (v j) = mI M (v j) := fun j hj => (q.2.2.2.2.1.2 _ (tb.1 j hj).1.2.2.2.2.1.1.1).2.2.2.2 (fun u => u)
  refine ⟨⟨sv'.sb, tb', ⟨b1, Nat.le_trans b2 q.2.2.2.2.1.1.1⟩, fun j hj j2 => ?_⟩, sv'⟩
  by_cases c : j = i
  · subst c
    rw [up1_s, up1_s]
    intro kn
    rw [ei j hj] at kn
    exact absurd fl kn
  · rw [up1_n c, up1_n c]
    exact (tk j hj j2).gw (tb.1 j hj) q (tb.2 j i hj i4 c).2.1
/-- its cells -/
theorem Gw.fc (q : Gw L W (v i) M L' M') (i4 : i < 4) (hc : Cnu Z L s v R k M) (tb : Tb0 L M s b v R k) (te : Te L' W (s + 1) g (v i) R' k' M') (gr : (M' = M ∧ L' = L ∧ R' = R i ∧ k' = k i) ∨ rvG L M (R i) (k i) L' M' R' k') (p1 : ∀ j, j < k i → mR M' R' j = mR M (R i) j) (p2 : ∀ j, k i ≤ j → j < k' → mR M' R' j = mZ M + 1 + 5 * (j - k i)) : FC Z M M' ∧ Cnu (Zn Z M M') L' s v (up1 R i R') (up1 k i k') M' := by
  obtain ⟨c1, c2, c3⟩ := hc
  have l2 := q.2.2.2.1
  have f := q.2.2.2.2.1
  have fl := te.2.2.1.2.2.2.2.2
  refine ⟨f.fc (fun _ u => u.elim) (fun x u => by rw [u]; exact (c3 i i4).1), fun x a1 a2 => Or.inl (c1 x a1 a2), fun a ha => ?_, fun j hj => ⟨Or.inl (c3 j hj).1, ?_⟩⟩
  · have lt := q.2.1.2.lt ha
    rcases l2 a ha with u | u
    · rw [(q.rf u).1]
      exact ⟨Or.inl (c2 a u).1, Or.inl (c2 a u).2⟩
    · exact ⟨Or.inr ⟨by omega, lt.1⟩, Or.inr ⟨by omega, lt.2⟩⟩
  · by_cases c : j = i
    · subst c
      rw [up1_s, up1_s]
      refine ⟨?_, fun l hl => ?_⟩
      · rcases gr with e | e
        · rw [e.2.2.1]; exact Or.inl (c3 j hj).2.1
        · rw [e.1]; exact Or.inr ⟨Nat.le_refl _, by have := e.2.2.2.1.1; omega⟩
      · by_cases cl : l < k j
        · rw [p1 l cl]; exact Or.inl ((c3 j hj).2.2 l cl)
        · have z := (fl l hl).1.2.2
          have e := p2 l (by omega) hl
          exact Or.inr ⟨by omega, z⟩
    · rw [up1_n c, up1_n c, ((tb.1 j hj).gw q (tb.2 j i hj i4 c).2.1).2]
      exact ⟨Or.inl (c3 j hj).2.1, fun l hl => Or.inl ((c3 j hj).2.2 l hl)⟩
theorem FI.cnu (f : FI S M M') (hc : Cnu Z L s v R k M) : Cnu (Zn Z M M') L s v R k M' := by
  obtain ⟨c1, c2, c3⟩ := hc
  refine ⟨fun x a1 a2 => Or.inl (c1 x a1 a2), fun a ha => ?_, fun i hi => ?_⟩
  · rw [f.2.2.1]
    exact ⟨Or.inl (c2 a ha).1, Or.inl (c2 a ha).2⟩
  · rw [f.2.2.1]
    exact ⟨Or.inl (c3 i hi).1, Or.inl (c3 i hi).2.1, fun j hj => Or.inl ((c3 i hi).2.2 j hj)⟩
/-- the same cells by another name -/
theorem Cnu.cg {Z' : Nat → Prop} (hc : Cnu Z L s v R k M) (hz : ∀ x, Z x → Z' x) : Cnu Z' L s v R k M := ⟨fun x a b => hz x (hc.1 x a b), fun a ha => ⟨hz _ (hc.2.1 a ha).1, hz _ (hc.2.1 a ha).2⟩, fun i hi => ⟨hz _ (hc.2.2 i hi).1, hz _ (hc.2.2 i hi).2.1, fun j hj => hz _ ((hc.2.2 i hi).2.2 j hj)⟩⟩
end NCN
end
