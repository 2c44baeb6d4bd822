/-! Tables of fractions: begin. -/
section NBF
variable {G : mG} {d a z n m w S B u g R R' cn cnt f f' F s i k K : Nat} {M M0 M' M1 M2 M3 : mM} {L L' L1 : List Nat} {W : Nat → Nat} {T I : Nat → Prop} {r : Prop}
/-- two fractions lie apart -/
def Frd (f f' : Nat) : Prop := f ≠ f' ∧ f + 1 ≠ f' + 3 ∧ f + 3 ≠ f' + 1
theorem Frd.sym (h : Frd f f') : Frd f' f := ⟨fun e => h.1 e.symm, fun e => h.2.2 e.symm, fun e => h.2.1 e.symm⟩
theorem Frd.t2 (h : Frd f f') : ¬ T2 f' (f + 1) ∧ ¬ T2 f' (f + 3) := by
  obtain ⟨h1, h2, h3⟩ := h
  unfold T2
  omega
def RwD (M : mM) (R k : Nat) : Prop := ∀ i j, i < k → j < k → i ≠ j → Frd (mR M R i) (mR M R j)
/-- a table in its surroundings -/
def Te (L : List Nat) (W : Nat → Nat) (z g a R k : Nat) (M : mM) : Prop := (mOk M ∧ NF L W M ∧ SK L M z) ∧ (GK9 M g ∧ ∀ i, i ≤ 9 → Oc L M (g + i)) ∧ RwT L M a R k ∧ (∀ i, i < k → Rap z (mR M R i)) ∧ RwD M R k
theorem RwT.ws (h : RwT L M a R k) (hc : cn ≤ k) : Rws L M a R cn := by
  obtain ⟨h1, h2, h3, h4, h5, h6⟩ := h
  exact ⟨h1, h2, h3, by omega, h5, fun i hi => h6 i (by omega)⟩
theorem Te.pe (h : Te L W z g a R k M) (hc : cn ≤ k) : Pe L W z g a R cn M := ⟨h.1, h.2.1, h.2.2.1.ws hc, fun i hi => h.2.2.2.1 i (by omega)⟩
theorem Te.nl (h : Te L W z g a R k M) (q : NL L W T I r z M M') (hS : SK L M' z) (hI : ∀ x, I x → mK M x = 11) : Te L W z g a R k M' ∧ (∀ i, i ≤ 9 → mI M' (g + i) = mI M (g + i)) ∧ mR M' R = mR M R := by
  obtain ⟨t1, t2, t3, t4, t5⟩ := ((h.pe (Nat.le_refl _)).we (w := z + 18) (Or.inl rfl)).tb q hI
  obtain ⟨⟨h1, h2, h3⟩, h4, h5, h6, h7⟩ := h
  obtain ⟨p1, p2, p3, p4, p5, p6⟩ := h5
  obtain ⟨q1, q2, q3, q4, q5, q6⟩ := t4
  refine ⟨⟨⟨q.ok, q.nf, hS⟩, ⟨t1, t2⟩, ⟨q1, q2, q3, ?_, q5, q6⟩, fun i hi => by rw [t5]; exact h6 i hi, fun i j hi hj ij => by rw [t5]; exact h7 i j hi hj ij⟩, t3, t5⟩
  rw [(q.2.2.1.2 R p5.2.1).2.1]
  exact p4
/-- the numbers, and the cells, of the first n rows -/
def Trw (M : mM) (R n x : Nat) : Prop := ∃ i, i < n ∧ T2 (mR M R i) x
def Irw (M : mM) (R n x : Nat) : Prop := ∃ i, i < n ∧ x = mR M R i
theorem Te.trw (h : Te L W z g a R k M) (hn : n ≤ k) : ∀ t, Trw M R n t → t ∈ L := fun t ⟨i, hi, ht⟩ => (h.2.2.1.2.2.2.2.2 i (by omega)).t2 t ht
theorem Te.irw (h : Te L W z g a R k M) (hn : n ≤ k) : ∀ x, Irw M R n x → x < mZ M ∧ mK M x = 11 := fun x ⟨i, hi, e⟩ => by
  have := (h.2.2.1.2.2.2.2.2 i (by omega)).1
  rw [e]
  exact ⟨this.2.2, this.1⟩
/-- one row is written -/
theorem Te.row (h : Te L W z g a R k M) (hi : i < n) (hn : n ≤ k) (q : NL L W (T2 (mR M R i)) (fun x => x = mR M R i) False z M M') : NL L W (Trw M R n) (Irw M R n) False z M M' ∧ Te L W z g a R k M' ∧ (∀ i, i ≤ 9 → mI M' (g + i) = mI M (g + i)) ∧ mR M' R = mR M R := by
  have q' : NL L W (Trw M R n) (Irw M R n) False z M M' := q.mono h.1.2.1 (fun t ht => ⟨i, hi, ht⟩) (h.trw hn) (fun x e => ⟨i, hi, e⟩) (h.irw hn) (fun e => e)
  obtain ⟨e1, e2, e3⟩ := h.nl q' (q.sk h.1.2.1 h.1.2.2) (fun x e => (h.irw hn x e).2)
  exact ⟨q', e1, e2, e3⟩
/-- the other rows stay -/
theorem Te.keep (h : Te L W z g a R k M) {j : Nat} (hi : i < k) (hj : j < k) (ij : j ≠ i) (q : NL L W (T2 (mR M R i)) (fun x => x = mR M R i) False z M M') : nv M' (mR M R j + 1) = nv M (mR M R j + 1) ∧ nv M' (mR M R j + 3) = nv M (mR M R j + 3) ∧ mI M' (mR M R j) = mI M (mR M R j) := by
  have d := h.2.2.2.2 j i hj hi ij
  have f := h.2.2.1.2.2.2.2.2 j hj
  exact ⟨(q.num h.1.2.1 f.2.1 d.t2.1).2.2, (q.num h.1.2.1 f.2.2 d.t2.2).2.2, (q.frp h.1.2.1 f.1).2 d.1⟩
/-- after begin -/
def bgQ (M : mM) (R cn : Nat) : Prop := ∀ i, i < cn → (nv M (mR M R i + 1) = 0 ∨ nv M (mR M R i + 1) = 1) ∧ nv M (mR M R i + 3) = 1 ∧ mI M (mR M R i) 2 = 1
/-- targets are 1, others 0 -/
def bgV (M : mM) (g R cn : Nat) : Prop := ∀ i, i < cn → nv M (mR M R i + 1) = if mI M (g + 2) i = 3 then 1 else 0
theorem s_bg10 (h0 : Te L W z g a R k M0) (hcn : cn ≤ k) (hk : k ≤ 512) (e0 : mI M0 g 0 = ((cn : Nat) : Int)) : ∀ (t i : Nat) (M : mM), cn ≤ i + t → i ≤ cn → NL L W (Trw M0 R cn) (Irw M0 R cn) False z M0 M → Te L W z g a R k M → mR M R = mR M0 R → mI M g 0 = ((cn : Nat) : Int) → bgQ M R i → bgV M g R i → h_Fs_begin_10 G (d + 1) a g i M (fun M' => NL L W (Trw M0 R cn) (Irw M0 R cn) False z M0 M' ∧ bgQ M' R cn ∧ bgV M' g R cn) := by
  intro t
  induction t with
  | zero =>
    intro i M h1 h2 hN hT eR eg hb hw
    have ei : i = cn := by omega
    subst ei
    refine k_Fs_begin_10 hN.ok ⟨by omega, by omega⟩ ?_
    rw [eg]
    exact ⟨hT.2.1.1.1, fun _ => ⟨hN, hb, hw⟩, fun u => absurd (Int.le_refl _) u⟩
  | succ t ih =>
    intro i M h1 h2 hN hT eR eg hb hw
    by_cases ei : i = cn
    · exact ih i M (by omega) h2 hN hT eR eg hb hw
    have hi : i < cn := by omega
    obtain ⟨⟨hO, hF, hS⟩, ⟨⟨g1, ⟨r2, -⟩, kk, ⟨n2, -⟩⟩, -⟩, ⟨t1, t2, t3, t4, -, t6⟩, -, -⟩ := id hT
    refine k_Fs_begin_10 hN.ok ⟨by omega, by omega⟩ ?_
    rw [eg, t2, t4, r2, n2, Int.toNat_natCast]
    refine ⟨g1, fun u => absurd u (by omega), fun _ => ⟨t1, t3, ⟨by omega, by omega⟩, kk 2 (by decide) (by decide), ⟨by omega, by omega⟩, fun v20 e20 => ⟨(t6 i (by omega)).1.1, ?_⟩⟩⟩
    have v01 : v20 = 0 ∨ v20 = 1 := by rw [e20]; split <;> omega
    refine (f_Fr_put0 (d := d) ⟨by omega, by omega⟩ hO hF (t6 i (by omega)) hS.z9).mono (fun M26 q => ?_)
    obtain ⟨q1, q2, q3, q4⟩ := q
    obtain ⟨p1, p2, p3, p4⟩ := hT.row hi (by omega) q1
    have p1' : NL L W (Trw M0 R cn) (Irw M0 R cn) False z M M26 := by
      unfold Trw Irw at p1 ⊢
      rw [eR] at p1
      exact p1
    rw [show ((i : Int) + 1) = ((i + 1 : Nat) : Int) by omega]
    have g0 := p3 0 (by decide)
    rw [Nat.add_zero] at g0
    refine ⟨q1.ok, ih (i + 1) M26 (by omega) (by omega) (hN.trans p1') p2 (by rw [p4, eR]) (by rw [g0]; exact eg) (fun j hj => ?_) (fun j hj => ?_)⟩
    rotate_left
    · rw [p4, p3 2 (by decide)]
      by_cases c : j = i
      · rw [c, q2]
        exact e20
      · obtain ⟨k1, k2, k3⟩ := hT.keep (j := j) (by omega) (by omega) c q1
        rw [k1]
        exact hw j (by omega)
    rw [p4]
    by_cases c : j = i
    · rw [c]
      exact ⟨by rw [q2]; exact v01, q3, q4⟩
    · obtain ⟨k1, k2, k3⟩ := hT.keep (j := j) (by omega) (by omega) c q1
      rw [k1, k2, k3]
      exact hb j (by omega)
end NBF
