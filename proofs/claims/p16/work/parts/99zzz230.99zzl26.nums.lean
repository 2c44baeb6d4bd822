/-! The class's top: its numbers at rest. -/
section NCM
variable {G : mG} {d t g s b i j a Ra n cn cc bc z w : Nat} {v R k : Nat → Nat} {M M0 M' M1 : mM} {L L' : List Nat} {W : Nat → Nat} {T C S Z : Nat → Prop} {r : Prop}
/-- the Solver without a table -/
def Sb (L : List Nat) (W : Nat → Nat) (s g cn cc bc : Nat) (M : mM) : Prop := SG M s g cn cc bc ∧ (NF L W M ∧ SK L M (s + 1) ∧ RsK L M (s + 31) ∧ FrL L M (s + 130)) ∧ (∀ x, Stb s x → Oc L M x) ∧ (∀ i, i ≤ 9 → Oc L M (g + i))
theorem Sb.sva (h : Sb L W s g cn cc bc M) (hb : s + 134 < b) (ht : Tb1 L M s b a Ra n) : Sva L W s g a Ra n cn cc bc M := ⟨h.1, h.2.1, h.2.2.1, h.2.2.2, ht.1, fun i hi => by have := ht.2.1 i hi; omega, ht.2.2.1⟩
theorem Sva.sb (h : Sva L W s g a Ra n cn cc bc M) : Sb L W s g cn cc bc M := ⟨h.1, h.2.1, h.2.2.1, h.2.2.2.1⟩
/-- the numbers at rest: b is where the rows may begin -/
def Nms (L : List Nat) (W : Nat → Nat) (s g b cn cc bc : Nat) (v R k : Nat → Nat) (M : mM) : Prop := Sb L W s g cn cc bc M ∧ Tb0 L M s b v R k ∧ (s + 134 < b ∧ b ≤ mZ M) ∧ (∀ i, i < 4 → i ≠ 2 → Tk M cn (v i) (R i) (k i))
theorem chs_same (h : Chs M s g cn) (e3 : mI M' (s + 30) = mI M (s + 30)) (e4 : mI M' (g + 4) = mI M (g + 4)) : Chs M' s g cn := by
  unfold Chs at h ⊢
  rw [e3, e4]
  exact h
theorem tso_lo {x : Nat} (h : Tso s M Ra n x) : (s ≤ x ∧ x ≤ s + 134) ∨ Trw M Ra n x := by
  rcases h with u | ⟨u | ⟨i, hi, u⟩⟩ | u | u
  · left; unfold Tpk T4 Tor T2 at u; omega
  · left; omega
  · left; omega
  · left; unfold T2 at u; omega
  · exact Or.inr u
theorem cso_lo {x : Nat} (h : Cso s M Ra n x) : (s ≤ x ∧ x ≤ s + 134) ∨ Irw M Ra n x := by
  rcases h with u | u | u | u | u | u
  · left; unfold Ipk at u; omega
  · left; unfold Stb at u; omega
  · left; unfold S36 at u; omega
  · left; omega
  · left; omega
  · exact Or.inr u
/-- rows of two tables: what touches one leaves the other -/
theorem rsp_no {R1 k1 R2 k2 l : Nat} (h : Rsp M R1 k1 R2 k2) (hn : n ≤ k1) (hl : l < k2) : ¬ Trw M R1 n (mR M R2 l + 1) ∧ ¬ Trw M R1 n (mR M R2 l + 3) ∧ ¬ Irw M R1 n (mR M R2 l) := by
  refine ⟨?_, ?_, ?_⟩
  · rintro ⟨i, hi, u⟩
    obtain ⟨f1, f2, f3⟩ := h i l (by omega) hl
    unfold T2 at u
    omega
  · rintro ⟨i, hi, u⟩
    obtain ⟨f1, f2, f3⟩ := h i l (by omega) hl
    unfold T2 at u
    omega
  · rintro ⟨i, hi, u⟩
    obtain ⟨f1, f2, f3⟩ := h i l (by omega) hl
    omega
/-- a step of numbers that touches table i alone -/
theorem Nms.nx3 (h : Nms L W s g b cn cc bc v R k M) (i4 : i < 4) (q : NX L W T C r (s + 1) M M') (hn : n ≤ k i) (hT : ∀ x, T x → (s ≤ x ∧ x ≤ s + 134) ∨ Trw M (R i) n x) (hC : ∀ x, C x → (s ≤ x ∧ x ≤ s + 134) ∨ Irw M (R i) n x ∨ mK M x = 30) : Tb0 L M' s b v R k ∧ (∀ j, j < 4 → mR M' (R j) = mR M (R j) ∧ mI M' (v j) = mI M (v j)) ∧ (∀ j, j < 4 → j ≠ 2 → j ≠ i → Tk M' cn (v j) (R j) (k j)) := by
  obtain ⟨sb, tb, ⟨b1, b2⟩, tk⟩ := h
  have hF := sb.2.1.1
  have nC : ∀ j, j < 4 → ¬ C (v j) := fun j hj u => by
    have kv := (tb.1 j hj).1.1
    have lv := (tb.1 j hj).2.2.2.2.1
    rcases hC _ u with w | ⟨l, hl, w⟩ | w
    · omega
    · have := ((tb.1 i i4).1.2.2.2.2.2 l (by omega)).1.1
      rw [← w, kv] at this
      omega
    · rw [kv] at w
      exact absurd w (by decide)
  refine ⟨tb.nx q hF, fun j hj => ⟨((tb.1 j hj).nx q hF).2, ?_⟩, fun j hj j2 ji => ?_⟩
  · exact (q.oth (tb.1 j hj).1.2.2.2.2.1.1 (by have := (tb.1 j hj).2.2.2.2.1; omega)).2.2.2 (nC j hj)
  · refine (tk j hj j2).nx (tb.1 j hj) q hF (nC j hj) (fun l hl => ?_)
    have bl := (tb.1 j hj).2.1 l hl
    obtain ⟨n1, n2, n3⟩ := rsp_no (tb.2 i j i4 hj (fun e => ji e.symm)).1 hn hl
    refine ⟨fun u => ?_, fun u => ?_, fun u => ?_⟩
    · rcases hT _ u with w | w
      · omega
      · exact n1 w
    · rcases hT _ u with w | w
      · omega
      · exact n2 w
    · rcases hC _ u with w | w | w
      · omega
      · exact n3 w
      · rw [((tb.1 j hj).1.2.2.2.2.2 l hl).1.1] at w
        exact absurd w (by decide)
theorem Nms.nx (h : Nms L W s g b cn cc bc v R k M) (i4 : i < 4) (q : NX L W T C r (s + 1) M M') (hn : n ≤ k i) (hT : ∀ x, T x → (s ≤ x ∧ x ≤ s + 134) ∨ Trw M (R i) n x) (hC : ∀ x, C x → (s ≤ x ∧ x ≤ s + 134) ∨ Irw M (R i) n x) : Tb0 L M' s b v R k ∧ (∀ j, j < 4 → mR M' (R j) = mR M (R j) ∧ mI M' (v j) = mI M (v j)) ∧ (∀ j, j < 4 → j ≠ 2 → j ≠ i → Tk M' cn (v j) (R j) (k j)) := h.nx3 i4 q hn hT (fun x u => (hC x u).imp id Or.inl)
/-- the cells of the numbers -/
def Cnu (Z : Nat → Prop) (L : List Nat) (s : Nat) (v R k : Nat → Nat) (M : mM) : Prop := (∀ x, s ≤ x → x ≤ s + 134 → Z x) ∧ (∀ a, a ∈ L → Z a ∧ Z (mR M a 0)) ∧ (∀ i, i < 4 → Z (v i) ∧ Z (R i) ∧ ∀ j, j < k i → Z (mR M (R i) j)) ∧ (Z (R 4) ∧ Ot L M s (R 4) (k 4) ∧ Oc L M s)
/-- only cells of Z have changed -/
def FC (Z : Nat → Prop) (M M' : mM) : Prop := (mZ M ≤ mZ M' ∧ mS M ≤ mS M') ∧ ∀ x, x < mZ M → mK M' x = mK M x ∧ mN M' x = mN M x ∧ (¬ Z x → mL M' x = mL M x ∧ mR M' x = mR M x ∧ mI M' x = mI M x)
/-- with the cells that were made since -/
def Zn (Z : Nat → Prop) (M M' : mM) (x : Nat) : Prop := Z x ∨ (mZ M ≤ x ∧ x < mZ M')
theorem FC.refl : FC Z M M := ⟨⟨Nat.le_refl _, Nat.le_refl _⟩, fun _ _ => ⟨rfl, rfl, fun _ => ⟨rfl, rfl, rfl⟩⟩⟩
theorem FC.trans (h : FC Z M M1) (q : FC (Zn Z M M1) M1 M') : FC Z M M' := by
  obtain ⟨⟨h1, h2⟩, h3⟩ := h
  obtain ⟨⟨q1, q2⟩, q3⟩ := q
  refine ⟨⟨by omega, by omega⟩, fun x hx => ?_⟩
  obtain ⟨a1, a2, a3⟩ := h3 x hx
  obtain ⟨b1, b2, b3⟩ := q3 x (by omega)
  refine ⟨b1.trans a1, b2.trans a2, fun nz => ?_⟩
  have a := a3 nz
  have b := b3 (fun u => u.elim nz (fun u => by omega))
  exact ⟨b.1.trans a.1, b.2.1.trans a.2.1, b.2.2.trans a.2.2⟩
theorem FC.mono {Z' : Nat → Prop} (h : FC Z M M') (hz : ∀ x, x < mZ M → Z x → Z' x) : FC Z' M M' := ⟨h.1, fun x hx => ⟨(h.2 x hx).1, (h.2 x hx).2.1, fun nz => (h.2 x hx).2.2 (fun u => nz (hz x hx u))⟩⟩
theorem Zn.trans {x : Nat} (z1 : mZ M ≤ mZ M1) (z2 : mZ M1 ≤ mZ M') : Zn (Zn Z M M1) M1 M' x ↔ Zn Z M M' x := by
  unfold Zn
  constructor
  · rintro ((u | u) | u)
    · exact Or.inl u
    · right; omega
    · right; omega
  · rintro (u | u)
    · exact Or.inl (Or.inl u)
    · by_cases c : x < mZ M1
      · exact Or.inl (Or.inr ⟨u.1, c⟩)
      · right; omega
theorem FD.fc {S' R' D' : Nat → Prop} (h : FD S' R' D' M M') (h1 : ∀ x, S' x → Z x) (h2 : ∀ x, R' x → Z x) (h3 : ∀ x, D' x → Z x) : FC Z M M' := ⟨h.1, fun x hx => ⟨(h.2 x hx).1, (h.2 x hx).2.1, fun nz => ⟨(h.2 x hx).2.2.1 (fun u => nz (h3 x u)), (h.2 x hx).2.2.2.1 (fun u => nz (h2 x u)), (h.2 x hx).2.2.2.2 (fun u => nz (h1 x u))⟩⟩⟩
theorem FA.fc {S' R' : Nat → Prop} (h : FA S' R' M M') (h1 : ∀ x, S' x → Z x) (h2 : ∀ x, R' x → Z x) : FC Z M M' := ⟨h.1, fun x hx => ⟨(h.2 x hx).1, (h.2 x hx).2.1, fun nz => ⟨(h.2 x hx).2.2.1, (h.2 x hx).2.2.2.1 (fun u => nz (h2 x u)), (h.2 x hx).2.2.2.2 (fun u => nz (h1 x u))⟩⟩⟩
theorem FI.fc (h : FI S M M') (h1 : ∀ x, S x → Z x) : FC Z M M' := (h.fa (R := fun _ => False)).fc h1 (fun _ u => u.elim)
/-- a step of numbers: its cells, and the cells after it -/
theorem NX.fc (q : NX L W T C r (s + 1) M M') (hF : NF L W M) (hc : Cnu Z L s v R k M) (tb : Tb0 L M s b v R k) (hC : ∀ x, C x → Z x) : FC Z M M' ∧ Cnu (Zn Z M M') L s v R k M' := by
  obtain ⟨c1, c2, c3, c4, c5, c6⟩ := hc
  have hq := q
  obtain ⟨-, ⟨h2, -, hz⟩, h3, h4, -⟩ := q
  refine ⟨h3.fc (fun x u => ?_) (fun x u => ?_) (fun x u => ?_), fun x a1 a2 => Or.inl (c1 x a1 a2), fun a ha => ⟨Or.inl (c2 a ha).1, ?_⟩, fun i hi => ⟨Or.inl (c3 i hi).1, Or.inl (c3 i hi).2.1, fun j hj => ?_⟩, Or.inl c4, c5.nx hq hF c6, hq.oc hF c6⟩
  · rcases u with (u | ⟨t, ht, u⟩) | u
    · exact (c2 x (h2 x u)).1
    · rw [u]; exact (c2 t (h2 t ht)).2
    · exact hC x u
  · rcases u with u | u
    · exact (c2 x (h2 x u)).1
    · rw [u.1]; exact c1 _ (by omega) (by omega)
  · exact c1 x (by omega) (by omega)
  · by_cases c : T a
    · rcases h4 a c with e | e
      · rw [e]; exact Or.inl (c2 a ha).2
      · exact Or.inr ⟨e, (hq.nf.lt ha).2⟩
    · rw [(hq.num hF ha c).1]; exact Or.inl (c2 a ha).2
  · rw [((tb.1 i hi).nx hq hF).2]; exact Or.inl ((c3 i hi).2.2 j hj)
end NCM
