section
/-! Tables of fractions: begin. -/
section NBF
variable {G : mG} {d a z n m w S B u g R R' cn cnt f f' F s i k K : Nat} {M M0 M' M1 M2 M3 : mM} {L L' L1 : List Nat} {W : Nat → Nat} {T I : Nat → Prop} {r : Prop}
/-- two fractions lie apart -/
def Frd (f f' : Nat) : Prop := f ≠ f' ∧ f + 1 ≠ f' + 3 ∧ f + 3 ≠ f' + 1
theorem Frd.sym (h : Frd f f') : Frd f' f := ⟨fun e => h.1 e.symm, fun e => h.2.2 e.symm, fun e => h.2.1 e.symm⟩
theorem Frd.t2 (h : Frd f f') : ¬ T2 f' (f + 1) ∧ ¬ T2 f' (f + 3) := by
  obtain ⟨h1, h2, h3⟩ := h
  unfold T2
  omega
def RwD (M : mM) (R k : Nat) : Prop := ∀ i j, i < k → j < k → i ≠ j → Frd (mR M R i) (mR M R j)
/-- a table in its surroundings -/
def Te (L : List Nat) (W : Nat → Nat) (z g a R k : Nat) (M : mM) : Prop := (mOk M ∧ NF L W M ∧ SK L M z) ∧ (GK9 M g ∧ ∀ i, i ≤ 9 → Oc L M (g + i)) ∧ RwT L M a R k ∧ (∀ i, i < k → Rap z (mR M R i)) ∧ RwD M R k
theorem RwT.ws (h : RwT L M a R k) (hc : cn ≤ k) : Rws L M a R cn := by
  obtain ⟨h1, h2, h3, h4, h5, h6⟩ := h
  exact ⟨h1, h2, h3, by omega, h5, fun i hi => h6 i (by omega)⟩
theorem Te.pe (h : Te L W z g a R k M) (hc : cn ≤ k) : Pe L W z g a R cn M := ⟨h.1, h.2.1, h.2.2.1.ws hc, fun i hi => h.2.2.2.1 i (by omega)⟩
theorem Te.nl (h : Te L W z g a R k M) (q : NL L W T I r z M M') (hS : SK L M' z) (hI : ∀ x, I x → mK M x = 11) : Te L W z g a R k M' ∧ (∀ i, i ≤ 9 → mI M' (g + i) = mI M (g + i)) ∧ mR M' R = mR M R := by
  obtain ⟨t1, t2, t3, t4, t5⟩ := ((h.pe (Nat.le_refl _)).we (w := z + 18) (Or.inl rfl)).tb q hI
  obtain ⟨⟨h1, h2, h3⟩, h4, h5, h6, h7⟩ := h
  obtain ⟨p1, p2, p3, p4, p5, p6⟩ := h5
  obtain ⟨q1, q2, q3, q4, q5, q6⟩ := t4
  refine ⟨⟨⟨q.ok, q.nf, hS⟩, ⟨t1, t2⟩, ⟨q1, q2, q3, ?_, q5, q6⟩, fun i hi => by rw [t5]; exact h6 i hi, fun i j hi hj ij => by rw [t5]; exact h7 i j hi hj ij⟩, t3, t5⟩
  rw [(q.2.2.1.2 R p5.2.1).2.1]
  exact p4
/-- the numbers, and the cells, of the first n rows -/
def Trw (M : mM) (R n x : Nat) : Prop := ∃ i, i < n ∧ T2 (mR M R i) x
def Irw (M : mM) (R n x : Nat) : Prop := ∃ i, i < n ∧ x = mR M R i
theorem Te.trw (h : Te L W z g a R k M) (hn : n ≤ k) : ∀ t, Trw M R n t → t ∈ L := fun t ⟨i, hi, ht⟩ => (h.2.2.1.2.2.2.2.2 i (by omega)).t2 t ht
theorem Te.irw (h : Te L W z g a R k M) (hn : n ≤ k) : ∀ x, Irw M R n x → x < mZ M ∧ mK M x = 11 := fun x ⟨i, hi, e⟩ => by
  have := (h.2.2.1.2.2.2.2.2 i (by omega)).1
  rw [e]
  exact ⟨this.2.2, this.1⟩
/-- one row is written -/
theorem Te.row (h : Te L W z g a R k M) (hi : i < n) (hn : n ≤ k) (q : NL L W (T2 (mR M R i)) (fun x => x = mR M R i) False z M M') : NL L W (Trw M R n) (Irw M R n) False z M M' ∧ Te L W z g a R k M' ∧ (∀ i, i ≤ 9 → mI M' (g + i) = mI M (g + i)) ∧ mR M' R = mR M R := by
  have q' : NL L W (Trw M R n) (Irw M R n) False z M M' := q.mono h.1.2.1 (fun t ht => ⟨i, hi, ht⟩) (h.trw hn) (fun x e => ⟨i, hi, e⟩) (h.irw hn) (fun e => e)
  obtain ⟨e1, e2, e3⟩ := h.nl q' (q.sk h.1.2.1 h.1.2.2) (fun x e => (h.irw hn x e).2)
  exact ⟨q', e1, e2, e3⟩
/-- the other rows stay -/
theorem Te.keep (h : Te L W z g a R k M) {j : Nat} (hi : i < k) (hj : j < k) (ij : j ≠ i) (q : NL L W (T2 (mR M R i)) (fun x => x = mR M R i) False z M M') : nv M' (mR M R j + 1) = nv M (mR M R j + 1) ∧ nv M' (mR M R j + 3) = nv M (mR M R j + 3) ∧ mI M' (mR M R j) = mI M (mR M R j) := by
  have d := h.2.2.2.2 j i hj hi ij
  have f := h.2.2.1.2.2.2.2.2 j hj
  exact ⟨(q.num h.1.2.1 f.2.1 d.t2.1).2.2, (q.num h.1.2.1 f.2.2 d.t2.2).2.2, (q.frp h.1.2.1 f.1).2 d.1⟩
/-- after begin -/
def bgQ (M : mM) (R cn : Nat) : Prop := ∀ i, i < cn → (nv M (mR M R i + 1) = 0 ∨ nv M (mR M R i + 1) = 1) ∧ nv M (mR M R i + 3) = 1 ∧ mI M (mR M R i) 2 = 1
/-- targets are 1, others 0 -/
def bgV (M : mM) (g R cn : Nat) : Prop := ∀ i, i < cn → nv M (mR M R i + 1) = if mI M (g + 2) i = 3 then 1 else 0
theorem s_bg10 (h0 : Te L W z g a R k M0) (hcn : cn ≤ k) (hk : k ≤ 512) (e0 : mI M0 g 0 = ((cn : Nat) : Int)) : ∀ (t i : Nat) (M : mM), cn ≤ i + t → i ≤ cn → NL L W (Trw M0 R cn) (Irw M0 R cn) False z M0 M → Te L W z g a R k M → mR M R = mR M0 R → mI M g 0 = ((cn : Nat) : Int) → bgQ M R i → bgV M g R i → h_Fs_begin_10 G (d + 1) a g i M (fun M' => NL L W (Trw M0 R cn) (Irw M0 R cn) False z M0 M' ∧ bgQ M' R cn ∧ bgV M' g R cn) := by
  intro t
  induction t with
  | zero =>
    intro i M h1 h2 hN hT eR eg hb hw
    have ei : i = cn := by omega
    subst ei
    refine k_Fs_begin_10 hN.ok ⟨by omega, by omega⟩ ?_
    rw [eg]
    exact ⟨hT.2.1.1.1, fun _ => ⟨hN, hb, hw⟩, fun u => absurd (Int.le_refl _) u⟩
  | succ t ih =>
    intro i M h1 h2 hN hT eR eg hb hw
    by_cases ei : i = cn
    · exact ih i M (by omega) h2 hN hT eR eg hb hw
    have hi : i < cn := by omega
    obtain ⟨⟨hO, hF, hS⟩, ⟨⟨g1, ⟨r2, -⟩, kk, ⟨n2, -⟩⟩, -⟩, ⟨t1, t2, t3, t4, -, t6⟩, -, -⟩ := id hT
    refine k_Fs_begin_10 hN.ok ⟨by omega, by omega⟩ ?_
    rw [eg, t2, t4, r2, n2, Int.toNat_natCast]
    refine ⟨g1, fun u => absurd u (by omega), fun _ => ⟨t1, t3, ⟨by omega, by omega⟩, kk 2 (by decide) (by decide), ⟨by omega, by omega⟩, fun v20 e20 => ⟨(t6 i (by omega)).1.1, ?_⟩⟩⟩
    have v01 : v20 = 0 ∨ v20 = 1 := by rw [e20]; split <;> omega
    refine (f_Fr_put0 (d := d) ⟨by omega, by omega⟩ hO hF (t6 i (by omega)) hS.z9).mono (fun M26 q => ?_)
    obtain ⟨q1, q2, q3, q4⟩ := q
    obtain ⟨p1, p2, p3, p4⟩ := hT.row hi (by omega) q1
    have p1' : NL L W (Trw M0 R cn) (Irw M0 R cn) False z M M26 := by
      unfold Trw Irw at p1 ⊢
      rw [eR] at p1
      exact p1
    rw [show ((i : Int) + 1) = ((i + 1 : Nat) : Int) by omega]
    have g0 := p3 0 (by decide)
    rw [Nat.add_zero] at g0
    refine ⟨q1.ok, ih (i + 1) M26 (by omega) (by omega) (hN.trans p1') p2 (by rw [p4, eR]) (by rw [g0]; exact eg) (fun j hj => ?_) (fun j hj => ?_)⟩
    rotate_left
    · rw [p4, p3 2 (by decide)]
      by_cases c : j = i
      · rw [c, q2]
        exact e20
      · obtain ⟨k1, k2, k3⟩ := hT.keep (j := j) (by omega) (by omega) c q1
        rw [k1]
        exact hw j (by omega)
    rw [p4]
    by_cases c : j = i
    · rw [c]
      exact ⟨by rw [q2]; exact v01, q3, q4⟩
    · obtain ⟨k1, k2, k3⟩ := hT.keep (j := j) (by omega) (by omega) c q1
      rw [k1, k2, k3]
      exact hb j (by omega)
end NBF
end
section
/-! Tables of fractions: what growth leaves as it was; begin as a whole. -/
section NBG
variable {G : mG} {d a b z n m w S B u g R R' Rb kb cn cnt f f' F s i k k' K x : Nat} {M M0 M' M1 M2 M3 : mM} {L L' L1 : List Nat} {W : Nat → Nat} {T I : Nat → Prop} {r : Prop}
/-- a step of growth -/
def Gw (L : List Nat) (W : Nat → Nat) (a : Nat) (M : mM) (L' : List Nat) (M' : mM) : Prop := mOk M' ∧ (NF L W M ∧ NF L' W M') ∧ (∀ x, x ∈ L → x ∈ L') ∧ (∀ x, x ∈ L' → x ∈ L ∨ (mZ M < x ∧ mZ M < mR M' x 0)) ∧ FA (fun _ => False) (fun x => x = a) M M' ∧ (a ∉ L ∧ mK M a = 13)
theorem Gw.rf (h : Gw L W a M L' M') {b : Nat} (hb : b ∈ L) : mR M' b = mR M b ∧ nv M' b = nv M b ∧ sz M' b = sz M b := by
  obtain ⟨-, ⟨h1, h2⟩, h3, h4, h5, h6, -⟩ := h
  have z := h1.lt hb
  have e1 := (h5.2 b z.1).2.2.2.1 (fun e => h6 (by rw [← e]; exact hb))
  have e2 := (h5.2 b z.1).2.2.2.2 (fun e => e)
  have e3 := (h5.2 _ z.2).2.2.2.2 (fun e => e)
  have e4 : sz M' b = sz M b := by unfold sz; rw [e2]
  exact ⟨e1, by unfold nv; rw [e4, e1, e3], e4⟩
theorem Gw.oc (h : Gw L W a M L' M') (hx : Oc L M x) : Oc L' M' x := by
  have q := h
  obtain ⟨-, ⟨h1, h2⟩, h3, h4, h5, h6, -⟩ := h
  have zx := hx.1
  refine ⟨Nat.lt_of_lt_of_le hx.1 h5.1.1, fun u => ?_, fun b hb u => ?_⟩
  · rcases h4 x u with e | e
    · exact hx.2.1 e
    · omega
  · rcases h4 b hb with e | e
    · rw [(q.rf e).1] at u
      exact hx.2.2 b e u
    · omega
theorem Gw.frl (h : Gw L W a M L' M') (hf : FrL L M f) : FrL L' M' f ∧ mI M' f = mI M f := by
  obtain ⟨-, ⟨h1, h2⟩, h3, h4, h5, h6, h7⟩ := h
  have z := hf.1.2.2
  refine ⟨⟨hf.1.fa h5 (fun e => ?_), h3 _ hf.2.1, h3 _ hf.2.2⟩, (h5.2 f z).2.2.2.2 (fun e => e)⟩
  have := hf.1.1
  rw [e, h7] at this
  omega
theorem Gw.sk (h : Gw L W a M L' M') (hS : SK L M z) : SK L' M' z := by
  obtain ⟨⟨k1, k2⟩, k3, k4, ⟨k5, k6, k7⟩, ⟨k8, k9⟩, ⟨l1, l2, l3, l4, l5, l6, l7, l8⟩, ⟨l9, l10, l11, l12⟩⟩ := hS
  have f8 := (h.frl (f := z + 18) ⟨k8, l9, l10⟩).1
  have f9 := (h.frl (f := z + 23) ⟨k9, l11, l12⟩).1
  obtain ⟨-, ⟨h1, h2⟩, h3, h4, h5, h6, h7⟩ := h
  have ne : z ≠ a := fun e => by rw [e, h7] at k1; omega
  have rz := (h5.2 z k2).2.2.2.1 ne
  have le := h5.1.1
  refine ⟨⟨by rw [(h5.2 z k2).1]; exact k1, by omega⟩, by rw [rz]; exact k3, by rw [rz]; exact k4, ⟨by rw [(h5.2 _ k7).1]; exact k5, by rw [(h5.2 _ k7).2.1]; exact k6, by omega⟩, ⟨f8.1, f9.1⟩, ⟨h3 _ l1, h3 _ l2, h3 _ l3, h3 _ l4, h3 _ l5, h3 _ l6, h3 _ l7, h3 _ l8⟩, h3 _ l9, h3 _ l10, h3 _ l11, h3 _ l12⟩
theorem Gw.gk (h : Gw L W a M L' M') (hG : GK9 M g ∧ ∀ i, i ≤ 9 → Oc L M (g + i)) : (GK9 M' g ∧ ∀ i, i ≤ 9 → Oc L' M' (g + i)) ∧ ∀ i, i ≤ 9 → mI M' (g + i) = mI M (g + i) := by
  obtain ⟨h8, h9⟩ := hG
  have oc := fun i (hi : i ≤ 9) => h.oc (h9 i hi)
  obtain ⟨-, ⟨h1, h2⟩, h3, h4, h5, h6, h7⟩ := h
  have c := fun i (hi : i ≤ 9) => h5.2 (g + i) (h9 i hi).1
  have ne : g ≠ a := fun e => by have := h8.1; rw [e, h7] at this; omega
  have c0 := c 0 (by decide)
  rw [Nat.add_zero] at c0
  refine ⟨⟨⟨by rw [c0.1]; exact h8.1, by rw [c0.2.2.2.1 ne]; exact h8.2.1, fun i hi hi' => by rw [(c i hi').1]; exact h8.2.2.1 i hi hi', ?_⟩, oc⟩, fun i hi => (c i hi).2.2.2.2 (fun e => e)⟩
  rw [(c 2 (by decide)).2.1, (c 4 (by decide)).2.1, (c 6 (by decide)).2.1, (c 7 (by decide)).2.1, (c 8 (by decide)).2.1, (c 9 (by decide)).2.1]
  exact h8.2.2.2
/-- another table -/
theorem Gw.te (h : Gw L W a M L' M') (hT : Te L W z g b Rb kb M) (ab : b ≠ a) : Te L' W z g b Rb kb M' ∧ mR M' Rb = mR M Rb := by
  obtain ⟨⟨h1, h2, h3⟩, h4, ⟨t1, t2, t3, t4, ⟨t5, t6⟩, t7⟩, h6, h7⟩ := hT
  have sk := h.sk h3
  have gk := (h.gk h4).1
  have fr := fun i (hi : i < kb) => (h.frl (t7 i hi)).1
  have ob := h.oc t5
  have oR := h.oc t6
  obtain ⟨q0, ⟨q1, q2⟩, q3, q4, q5, q6, q7⟩ := h
  have cb := q5.2 b t5.1
  have cR := q5.2 Rb t6.1
  have nR : Rb ≠ a := fun e => by rw [e, q7] at t3; omega
  have eR := cR.2.2.2.1 nR
  exact ⟨⟨⟨q0, q2, sk⟩, gk, ⟨by rw [cb.1]; exact t1, by rw [cb.2.2.2.1 ab]; exact t2, by rw [cR.1]; exact t3, by rw [cR.2.1]; exact t4, ⟨ob, oR⟩, fun i hi => by rw [eR]; exact fr i hi⟩, fun i hi => by rw [eR]; exact h6 i hi, fun i j hi hj ij => by rw [eR]; exact h7 i j hi hj ij⟩, eR⟩
/-- the table that grew -/
theorem rv_te (hT : Te L W z g a R k M) (q : rvQ L W a M R k cnt M') : ∃ L' R' k', Gw L W a M L' M' ∧ Te L' W z g a R' k' M' ∧ (cnt ≤ k' ∧ k ≤ k') ∧ (∀ i, i < k → mR M' R' i = mR M R i) ∧ (∀ i, k ≤ i → i < k' → mR M' R' i = mZ M + 1 + 5 * (i - k) ∧ mI M' (mZ M + 1 + 5 * (i - k)) 2 = 1) ∧ ((M' = M ∧ L' = L ∧ R' = R ∧ k' = k) ∨ rvG L M R k L' M' R' k') := by
  obtain ⟨⟨h1, h2, h3⟩, h4, ⟨t1, t2, t3, t4, ⟨t5, t6⟩, t7⟩, h6, h7⟩ := id hT
  obtain ⟨L', R', k', q1, q2, q3, q4, q5, q6, q7, -, q9, q10, q11⟩ := q
  have gw : Gw L W a M L' M' := ⟨q1, ⟨h2, q2⟩, q3, q4, q7, t5.2.1, t1⟩
  have zS := h3.2.2.2.2.2.2
  have z26 : z + 26 < mZ M := (h2.lt zS.2.2.2).1
  have lt : ∀ i, i < k → mR M R i + 3 < mZ M := fun i hi => (h2.lt (t7 i hi).2.2).1
  refine ⟨L', R', k', gw, ⟨⟨q1, q2, gw.sk h3⟩, (gw.gk h4).1, q5, fun i hi => ?_, fun i j hi hj ij => ?_⟩, q6, q9, q10, q11⟩
  · by_cases c : i < k
    · rw [q9 i c]; exact h6 i c
    · rw [(q10 i (by omega) hi).1]
      unfold Rap Tpk T4 Tor T2
      omega
  · by_cases c1 : i < k
    · by_cases c2 : j < k
      · rw [q9 i c1, q9 j c2]; exact h7 i j c1 c2 ij
      · rw [q9 i c1, (q10 j (by omega) hj).1]
        have := lt i c1
        unfold Frd
        omega
    · by_cases c2 : j < k
      · rw [q9 j c2, (q10 i (by omega) hi).1]
        have := lt j c2
        unfold Frd
        omega
      · rw [(q10 i (by omega) hi).1, (q10 j (by omega) hj).1]
        unfold Frd
        omega
/-- what begin leaves behind -/
def begQ (L : List Nat) (W : Nat → Nat) (z g a R k cn : Nat) (M M' : mM) : Prop := ∃ L' R' k' M1, Gw L W a M L' M1 ∧ Te L' W z g a R' k' M1 ∧ (cn ≤ k' ∧ k ≤ k') ∧ ((M1 = M ∧ L' = L ∧ R' = R ∧ k' = k) ∨ rvG L M R k L' M1 R' k') ∧ (∀ i, i < k → mR M1 R' i = mR M R i) ∧ (∀ i, k ≤ i → i < k' → mR M1 R' i = mZ M + 1 + 5 * (i - k) ∧ mI M1 (mZ M + 1 + 5 * (i - k)) 2 = 1) ∧ NL L' W (Trw M1 R' cn) (Irw M1 R' cn) False z M1 M' ∧ bgQ M' R' cn ∧ bgV M' g R' cn
theorem f_begin (hT : Te L W z g a R k M) (hk : k ≤ 512) (hcn : cn ≤ 512) (e0 : mI M g 0 = ((cn : Nat) : Int)) (hWn : ∀ x, mZ M < x → 2 ≤ W x ∧ W x ≤ 20000) : Cv G y_Fs_begin (d + 4) [vr a, vr g] M (begQ L W z g a R k cn M) := by
  refine k_Fs_begin hT.1.1 ?_
  rw [e0]
  refine ⟨hT.2.1.1.1, hT.2.2.1.1, (f_Fs_reserve (d := d) hT.1.1 hT.1.2.1 hT.2.2.1 hk hcn hWn).mono (fun M3 q => ?_)⟩
  obtain ⟨L', R', k', gw, te, c, p1, p2, p3⟩ := rv_te hT q
  have g0 := (gw.gk hT.2.1).2 0 (by decide)
  rw [Nat.add_zero] at g0
  have k5 : k' ≤ 512 := by
    rcases p3 with ⟨-, -, -, e⟩ | ⟨-, e, -⟩ <;> omega
  have hm : ∀ {Q Q' : mM → Prop}, h_Fs_begin_10 G (d + 3) a g 0 M3 Q → (∀ M', Q M' → Q' M') → h_Fs_begin_10 G (d + 3) a g 0 M3 Q' := fun h hq => by
    unfold h_Fs_begin_10 at h ⊢
    exact mWm.mono h (fun r M' k => ⟨k.1, hq M' k.2⟩)
  refine ⟨gw.1, hm (s_bg10 (d := d + 2) te c.1 k5 (by rw [g0]; exact e0) cn 0 M3 (by omega) (by omega) (NL.refl gw.1 gw.2.1.2 (te.trw c.1) (te.irw c.1) te.1.2.2.z9) te rfl (by rw [g0]; exact e0) (fun i hi => absurd hi (by omega)) (fun i hi => absurd hi (by omega))) (fun M' q' => ⟨L', R', k', M3, gw, te, c, p3, p1, p2, q'.1, q'.2⟩)⟩
end NBG
end
section
/-! The Scales: one more move for all states. -/
section NBH
variable {G : mG} {d a b z n m w S B u g R R' Rb kb cn cnt cc bc f f' F s i k k' K x : Nat} {M M0 M' M1 M2 M3 : mM} {L L' L1 : List Nat} {W : Nat → Nat} {T I : Nat → Prop} {r : Prop}
/-- a game of cn states, cc commands -/
def GTT (M : mM) (g cn cc bc : Nat) : Prop := (cn ≤ 512 ∧ cc ≤ bc ∧ bc ≤ 4096) ∧ (∀ c, c < cc → cmdG M g cn bc c) ∧ (∀ j, j < cn → ∃ x y : Nat, mI M (g + 4) j = ((x : Nat) : Int) ∧ mI M (g + 4) (j + 1) = ((y : Nat) : Int) ∧ x ≤ y ∧ y ≤ cc) ∧ mI M g 0 = ((cn : Nat) : Int)
theorem GTT.same (h : GTT M g cn cc bc) (e : ∀ i, i ≤ 9 → mI M' (g + i) = mI M (g + i)) : GTT M' g cn cc bc := by
  have e0 := e 0 (by decide)
  rw [Nat.add_zero] at e0
  exact ⟨h.1, fun c hc => (h.2.1 c hc).same e, fun j hj => by rw [e 4 (by decide)]; exact h.2.2.1 j hj, by rw [e0]; exact h.2.2.2⟩
/-- small rows, none above 1, all without a small factor -/
def Rok (M : mM) (R n : Nat) : Prop := Rsm M R n 16 ∧ Rle M R n ∧ ∀ i, i < n → mI M (mR M R i) 2 = 1
theorem Rok.cg (h : Rok M R n) (eR : mR M' R = mR M R) (e : ∀ i, i < n → nv M' (mR M R i + 1) = nv M (mR M R i + 1) ∧ nv M' (mR M R i + 3) = nv M (mR M R i + 3) ∧ mI M' (mR M R i) = mI M (mR M R i)) : Rok M' R n := by
  obtain ⟨h1, h2, h3⟩ := h
  refine ⟨fun i hi => ?_, fun i hi => ?_, fun i hi => ?_⟩
  · rw [eR, (e i hi).1, (e i hi).2.1]; exact h1 i hi
  · rw [eR, (e i hi).1, (e i hi).2.1]; exact h2 i hi
  · rw [eR, (e i hi).2.2]; exact h3 i hi
def Tmv (z : Nat) (M : mM) (R n x : Nat) : Prop := Tpk z x ∨ Trw M R n x
def Imv (z : Nat) (M : mM) (R n x : Nat) : Prop := Ipk z x ∨ Irw M R n x
/-- the move on its way -/
def MvI (L : List Nat) (W : Nat → Nat) (z g a R k b Rb kb cn cc bc : Nat) (M0 : mM) (i : Nat) (M : mM) : Prop := NL L W (Tmv z M0 R cn) (Imv z M0 R cn) True z M0 M ∧ Te L W z g a R k M ∧ Te L W z g b Rb kb M ∧ (mR M R = mR M0 R ∧ mR M Rb = mR M0 Rb) ∧ GTT M g cn cc bc ∧ Rok M Rb cn ∧ Rok M R i
/-- rows of the two tables lie apart -/
def Rsp (M : mM) (R k Rb kb : Nat) : Prop := ∀ i j, i < k → j < kb → Frd (mR M R i) (mR M Rb j)
theorem Rap.pk (h : Rap z f) : ¬ Tpk z (f + 1) ∧ ¬ Tpk z (f + 3) ∧ ¬ Ipk z f := ⟨h.1, h.2.1, fun e => e.elim h.2.2.1 h.2.2.2⟩
theorem Rap.fd (h : Rap z f) (hw : Ipk z w) : Frd f w := by
  obtain ⟨h1, h2, h3, h4⟩ := h
  unfold Tpk T2 at h1 h2
  unfold Frd
  rcases hw with e | e <;> rw [e] <;> omega
/-- a row is written -/
theorem mv_row (h : MvI L W z g a R k b Rb kb cn cc bc M0 i M) (hi : i < cn) (hcn : cn ≤ k) (hcb : cn ≤ kb) (hsp : Rsp M0 R k Rb kb) (q : NL L W (T2 (mR M R i)) (fun x => x = mR M R i) False z M M') (v3 : nv M' (mR M R i + 3) < 2 ^ (30 * 16)) (v1 : nv M' (mR M R i + 1) ≤ nv M' (mR M R i + 3) ∧ 0 < nv M' (mR M R i + 3)) (t2 : mI M' (mR M R i) 2 = 1) : MvI L W z g a R k b Rb kb cn cc bc M0 (i + 1) M' := by
  obtain ⟨hN, hA, hB, ⟨eR, eRb⟩, hG, hb, ha⟩ := h
  obtain ⟨p1, p2, p3, p4⟩ := hA.row hi hcn q
  have p1' : NL L W (Tmv z M0 R cn) (Imv z M0 R cn) True z M M' := p1.mono hA.1.2.1 (fun t ⟨j, hj, ht⟩ => Or.inr ⟨j, hj, by rw [← eR]; exact ht⟩) hN.2.1.1 (fun x ⟨j, hj, hx⟩ => Or.inr ⟨j, hj, by rw [← eR]; exact hx⟩) (fun x hx => by
    have := hN.2.1.2.1 x hx
    exact ⟨Nat.lt_of_lt_of_le this.1 hN.2.2.1.1.1, by rw [hN.kind this.1]; exact this.2⟩) (fun e => e.elim)
  obtain ⟨b1, b2, b3⟩ := hB.nl p1 p2.1.2.2 (fun x e => (hA.irw hcn x e).2)
  refine ⟨hN.trans p1', p2, b1, ⟨by rw [p4, eR], by rw [b3, eRb]⟩, hG.same p3, hb.cg b3 (fun j hj => ?_), ⟨fun j hj => ?_, fun j hj => ?_, fun j hj => ?_⟩⟩
  · have d : Frd (mR M Rb j) (mR M R i) := by rw [eR, eRb]; exact (hsp i j (by omega) (by omega)).sym
    have f := hB.2.2.1.2.2.2.2.2 j (by omega)
    exact ⟨(q.num hB.1.2.1 f.2.1 d.t2.1).2.2, (q.num hB.1.2.1 f.2.2 d.t2.2).2.2, (q.frp hB.1.2.1 f.1).2 d.1⟩
  · rw [p4]
    by_cases c : j = i
    · rw [c]; exact ⟨Int.le_of_lt v1.2, v3, Int.lt_of_le_of_lt v1.1 v3⟩
    · obtain ⟨k1, k2, k3⟩ := hA.keep (j := j) (by omega) (by omega) c q
      rw [k1, k2]; exact ha.1 j (by omega)
  · rw [p4]
    by_cases c : j = i
    · rw [c]; exact v1
    · obtain ⟨k1, k2, k3⟩ := hA.keep (j := j) (by omega) (by omega) c q
      rw [k1, k2]; exact ha.2.1 j (by omega)
  · rw [p4]
    by_cases c : j = i
    · rw [c]; exact t2
    · obtain ⟨k1, k2, k3⟩ := hA.keep (j := j) (by omega) (by omega) c q
      rw [k3]; exact ha.2.2 j (by omega)
/-- a step of the Scales alone -/
theorem mv_pk (h : MvI L W z g a R k b Rb kb cn cc bc M0 i M) (hic : i ≤ cn) (hcn : cn ≤ k) (hcb : cn ≤ kb) (q : NL L W (Tpk z) (Ipk z) True z M M') (sk : SK L M' z) : MvI L W z g a R k b Rb kb cn cc bc M0 i M' := by
  obtain ⟨hN, hA, hB, ⟨eR, eRb⟩, hG, hb, ha⟩ := h
  have q' : NL L W (Tmv z M0 R cn) (Imv z M0 R cn) True z M M' := q.mono hA.1.2.1 (fun t ht => Or.inl ht) hN.2.1.1 (fun x hx => Or.inl hx) (fun x hx => by
    have := hN.2.1.2.1 x hx
    exact ⟨Nat.lt_of_lt_of_le this.1 hN.2.2.1.1.1, by rw [hN.kind this.1]; exact this.2⟩) (fun e => e)
  obtain ⟨a1, a2, a3⟩ := hA.nl q sk (fun x e => (hA.1.2.2.ipk x e).2)
  obtain ⟨b1, b2, b3⟩ := hB.nl q sk (fun x e => (hA.1.2.2.ipk x e).2)
  have kp : ∀ {f : Nat}, FrL L M f → Rap z f → nv M' (f + 1) = nv M (f + 1) ∧ nv M' (f + 3) = nv M (f + 3) ∧ mI M' f = mI M f := fun hf hr => ⟨(q.num hA.1.2.1 hf.2.1 hr.pk.1).2.2, (q.num hA.1.2.1 hf.2.2 hr.pk.2.1).2.2, (q.frp hA.1.2.1 hf.1).2 hr.pk.2.2⟩
  exact ⟨hN.trans q', a1, b1, ⟨by rw [a3, eR], by rw [b3, eRb]⟩, hG.same a2, hb.cg b3 (fun j hj => kp (hB.2.2.1.2.2.2.2.2 j (by omega)) (hB.2.2.2.1 j (by omega))), ha.cg a3 (fun j hj => kp (hA.2.2.1.2.2.2.2.2 j (by omega)) (hA.2.2.2.1 j (by omega)))⟩
theorem tre_pk (hw : Ipk z w) {x : Nat} (hx : Tre z w x) : Tpk z x := by
  rcases hx with u | u
  · exact Or.inl u
  · rcases hw with e | e <;> rw [e] at u
    · exact Or.inr (Or.inr (Or.inr (Or.inl u)))
    · exact Or.inr (Or.inr (Or.inr (Or.inr u)))
theorem pw480 : (2 : Int) ^ 480 = 2 ^ (30 * 16) := by rw [show 30 * 16 = 480 by decide]
/-- the numbers on their way: n9 are those after the move -/
def MvX (g Rb R cn : Nat) (n9 : Nat → Rat) (M0 : mM) (i : Nat) (M : mM) : Prop := (∀ j, j ≤ 9 → mI M (g + j) = mI M0 (g + j)) ∧ (∀ j, j < cn → rwv M Rb j = rwv M0 Rb j) ∧ ∀ j, j < i → rwv M R j = n9 j
theorem mvx_row {n9 : Nat → Rat} (hx : MvX g Rb R cn n9 M0 i M) (h : MvI L W z g a R k b Rb kb cn cc bc M0 i M) (hi : i < cn) (hcn : cn ≤ k) (hcb : cn ≤ kb) (hsp : Rsp M0 R k Rb kb) (q : NL L W (T2 (mR M R i)) (fun x => x = mR M R i) False z M M') (e : rwv M' R i = n9 i) : MvX g Rb R cn n9 M0 (i + 1) M' := by
  obtain ⟨hN, hA, hB, ⟨eR, eRb⟩, hG, hb, ha⟩ := h
  obtain ⟨p1, p2, p3, p4⟩ := hA.row hi hcn q
  obtain ⟨b1, b2, b3⟩ := hB.nl p1 p2.1.2.2 (fun x e => (hA.irw hcn x e).2)
  refine ⟨fun j hj => by rw [p3 j hj, hx.1 j hj], fun j hj => ?_, fun j hj => ?_⟩
  · rw [← hx.2.1 j hj]
    have d : Frd (mR M Rb j) (mR M R i) := by rw [eR, eRb]; exact (hsp i j (by omega) (by omega)).sym
    have f := hB.2.2.1.2.2.2.2.2 j (by omega)
    exact rwv_cg b3 (q.num hB.1.2.1 f.2.1 d.t2.1).2.2 (q.num hB.1.2.1 f.2.2 d.t2.2).2.2
  · by_cases c : j = i
    · rw [c]; exact e
    · obtain ⟨k1, k2, k3⟩ := hA.keep (j := j) (by omega) (by omega) c q
      rw [← hx.2.2 j (by omega)]
      exact rwv_cg p4 k1 k2
theorem mvx_pk {n9 : Nat → Rat} (hx : MvX g Rb R cn n9 M0 i M) (h : MvI L W z g a R k b Rb kb cn cc bc M0 i M) (hic : i ≤ cn) (hcn : cn ≤ k) (hcb : cn ≤ kb) (q : NL L W (Tpk z) (Ipk z) True z M M') (sk : SK L M' z) : MvX g Rb R cn n9 M0 i M' := by
  obtain ⟨hN, hA, hB, ⟨eR, eRb⟩, hG, hb, ha⟩ := h
  obtain ⟨a1, a2, a3⟩ := hA.nl q sk (fun x e => (hA.1.2.2.ipk x e).2)
  obtain ⟨b1, b2, b3⟩ := hB.nl q sk (fun x e => (hA.1.2.2.ipk x e).2)
  have kp : ∀ {f : Nat}, FrL L M f → Rap z f → nv M' (f + 1) = nv M (f + 1) ∧ nv M' (f + 3) = nv M (f + 3) := fun hf hr => ⟨(q.num hA.1.2.1 hf.2.1 hr.pk.1).2.2, (q.num hA.1.2.1 hf.2.2 hr.pk.2.1).2.2⟩
  refine ⟨fun j hj => by rw [a2 j hj, hx.1 j hj], fun j hj => ?_, fun j hj => ?_⟩
  · rw [← hx.2.1 j hj]
    obtain ⟨k1, k2⟩ := kp (hB.2.2.1.2.2.2.2.2 j (by omega)) (hB.2.2.2.1 j (by omega))
    exact rwv_cg b3 k1 k2
  · rw [← hx.2.2 j hj]
    obtain ⟨k1, k2⟩ := kp (hA.2.2.1.2.2.2.2.2 j (by omega)) (hA.2.2.2.1 j (by omega))
    exact rwv_cg a3 k1 k2
/-- n9 are the numbers after one more move -/
def nxH (M : mM) (g Rb cn : Nat) (n9 : Nat → Rat) : Prop := ∀ j, j < cn → (mI M (g + 4) j = mI M (g + 4) (j + 1) → n9 j = rwv M Rb j) ∧ ∀ x y : Nat, mI M (g + 4) j = ((x : Nat) : Int) → mI M (g + 4) (j + 1) = ((y : Nat) : Int) → x < y → n9 j = bst9 (mI M (g + 2) j = 1) (fun i => wr9 (rwv M Rb) (cmm M g (x + i))) (y - 1 - x)
theorem nxH.same {n9 : Nat → Rat} (h : nxH M g Rb cn n9) (hG : GTT M g cn cc bc) (e : ∀ j, j ≤ 9 → mI M' (g + j) = mI M (g + j)) (ev : ∀ j, j < cn → rwv M' Rb j = rwv M Rb j) : nxH M' g Rb cn n9 := fun j hj => by
  refine ⟨fun u => by rw [ev j hj]; exact (h j hj).1 (by rw [← e 4 (by decide)]; exact u), fun x y u1 u2 u3 => ?_⟩
  rw [e 4 (by decide)] at u1 u2
  rw [(h j hj).2 x y u1 u2 u3, e 2 (by decide)]
  refine bst_cg _ (fun i hi => ?_)
  obtain ⟨x', y', g1, g2, g3, g4⟩ := hG.2.2.1 j hj
  rw [cmm_same e]
  exact wr_cg (fun b hb => (ev _ (cmm_lt (hG.2.1 (x + i) (by omega)) b hb)).symm)
/-- rows that are right fit -/
theorem Rok.fit (h : Rok M R n) (hi : i < n) (c : 0 ≤ nv M (mR M R i + 1)) : ft9 (rwv M R i) := by
  obtain ⟨a1, a2, a3⟩ := h.1 i hi
  obtain ⟨b1, b2⟩ := h.2.1 i hi
  have e := rwv_mul b2
  rw [← pw480] at a2 a3
  exact ⟨nv M (mR M R i + 1), nv M (mR M R i + 3), ⟨c, b2⟩, ⟨a3, a2⟩, e.symm⟩
/-- what a move leaves behind -/
def movQ (L : List Nat) (W : Nat → Nat) (z g a R k b Rb kb cn cc bc : Nat) (n9 : Nat → Rat) (M0 : mM) (x : Int) (M' : mM) : Prop := (x = 0 ∨ x = 1) ∧ ∃ i, i ≤ cn ∧ MvI L W z g a R k b Rb kb cn cc bc M0 i M' ∧ (x ≠ 0 → i = cn) ∧ MvX g Rb R cn n9 M0 i M' ∧ (x = 0 → i < cn ∧ ¬ ft9 (n9 i))
theorem s_mv11 {n9 : Nat → Rat} (hn : nxH M0 g Rb cn n9) (hcn : cn ≤ k) (hcb : cn ≤ kb) (hk : k ≤ 512) (hkb : kb ≤ 512) (hsp : Rsp M0 R k Rb kb) (hW : ∀ x, Tpk z x → B ≤ W x) (b1 : 300 ≤ B) (hB : B ≤ 14000) (hWr : ∀ i, i < k → 16 ≤ W (mR M0 R i + 1) ∧ 16 ≤ W (mR M0 R i + 3)) : ∀ (t i : Nat) (M : mM), cn ≤ i + t → i ≤ cn → MvI L W z g a R k b Rb kb cn cc bc M0 i M → MvX g Rb R cn n9 M0 i M → h_Sc_move_11 G (d + 7) z g b a i M (movQ L W z g a R k b Rb kb cn cc bc n9 M0) := by
  intro t
  induction t with
  | zero =>
    intro i M h1 h2 hI hX
    have ei : i = cn := by omega
    subst ei
    obtain ⟨hN, hA, hB', -, hG, -⟩ := id hI
    refine k_Sc_move_11 hN.ok ⟨by omega, by omega⟩ ?_
    rw [hG.2.2.2]
    exact ⟨hA.2.1.1.1, fun _ => ⟨Or.inr rfl, i, Nat.le_refl _, hI, fun _ => rfl, hX, fun u => absurd u (by decide)⟩, fun u => absurd (Int.le_refl _) u⟩
  | succ t ih =>
    intro i M h1 h2 hI hX
    by_cases ei : i = cn
    · exact ih i M (by omega) h2 hI hX
    have hi : i < cn := by omega
    obtain ⟨hN, hA, hBt, ⟨eR, eRb⟩, hG, hb, ha⟩ := id hI
    obtain ⟨x, y, x1, y1, xy, yc⟩ := hG.2.2.1 i hi
    obtain ⟨⟨hO, hF, hS⟩, ⟨⟨g1, ⟨r2, r4, -⟩, kk, ⟨n2, n4, -⟩⟩, -⟩, ⟨t1, t2, t3, t4, -, t6⟩, ap, -⟩ := id hA
    obtain ⟨-, -, ⟨s1, s2, s3, s4, -, s6⟩, apb, -⟩ := id hBt
    have fa := t6 i (by omega)
    have fb := s6 i (by omega)
    have wr := hWr i (by omega)
    rw [← eR] at wr
    have dab : Frd (mR M R i) (mR M Rb i) := by rw [eR, eRb]; exact hsp i i (by omega) (by omega)
    obtain ⟨hc1, hc2, hc3⟩ := hG.1
    refine k_Sc_move_11 hN.ok ⟨by omega, by omega⟩ ?_
    rw [hG.2.2.2, r4, n4, Int.toNat_natCast, show Int.toNat ((i : Int) + 1) = i + 1 by omega, x1, y1, t2, t4, s2, s4, r2, n2, show ((i : Int) + 1) = ((i + 1 : Nat) : Int) by omega]
    refine ⟨g1, fun u => absurd u (by omega), fun _ => ⟨kk 4 (by decide) (by decide), ⟨by omega, by omega⟩, ⟨by omega, by omega⟩, fun ec => ⟨t1, t3, ⟨by omega, by omega⟩, s1, s3, ⟨by omega, by omega⟩, fa.1.1, ?_⟩, fun ne => ⟨kk 2 (by decide) (by decide), ⟨by omega, by omega⟩, fun v32 e32 => ⟨hS.1.1, ?_⟩⟩⟩⟩
    · obtain ⟨sb1, sb2, sb3⟩ := hb.1 i hi
      have z1 := hF.szv fb.2.1 sb3
      have z3 := hF.szv fb.2.2 sb2
      refine (f_Fr_put1 (d := d + 5) hO hF fa fb dab.1 dab.2.1 dab.2.2 hS.z9 (by omega) (by omega)).mono (fun M26 q => ?_)
      obtain ⟨q1, q2, q3, q4⟩ := q
      have p4 := (hA.row hi hcn q1).2.2.2
      have er : rwv M26 R i = n9 i := by
        rw [(hn i hi).1 (by rw [← hX.1 4 (by decide), x1, y1, ec]), ← hX.2.1 i hi]
        unfold rwv
        rw [p4, q2, q3]
      refine ⟨q1.ok, ih (i + 1) M26 (by omega) (by omega) (mv_row hI hi hcn hcb hsp q1 (by rw [q3]; exact sb2) (by rw [q2, q3]; exact hb.2.1 i hi) (by rw [q4]; exact hb.2.2 i hi)) (mvx_row hX hI hi hcn hcb hsp q1 er)⟩
    · have v01 : i32 v32 := by rw [e32]; split <;> exact ⟨by decide, by decide⟩
      refine (f_pickX (d := d + 1) (S := 16) (B := B) v01 (hBt.pe hcb) hb.1 hW (by omega) (by omega) (show x < y by omega) (by omega) hc1 hc3 (fun c _ hc => hG.2.1 c (by omega))).mono (fun x39 M38 q => ?_)
      obtain ⟨⟨q1, q2, q3, q4, q5⟩, q6⟩ := q
      have q7 : fq9 M38 (mR M38 z 9) = n9 i := by
        rw [q6 hb.2.1, (hn i hi).2 x y (by rw [← hX.1 4 (by decide)]; exact x1) (by rw [← hX.1 4 (by decide)]; exact y1) (by omega)]
        unfold pkv
        have ep : (v32 ≠ 0) = (mI M0 (g + 2) i = 1) := propext ⟨fun w => by
          rw [← hX.1 2 (by decide)]
          refine Classical.byContradiction (fun w2 => w ?_)
          rw [e32, if_neg w2], fun w => by
          rw [← hX.1 2 (by decide)] at w
          rw [e32, if_pos w]
          decide⟩
        rw [ep]
        refine bst_cg _ (fun j hj => ?_)
        rw [cmm_same hX.1]
        have cm := hG.2.1 (x + j) (by omega)
        have cm0 : cmdG M0 g cn bc (x + j) := cm.same (fun j hj => (hX.1 j hj).symm)
        exact wr_cg (fun b hb => hX.2.1 _ (cmm_lt cm0 b hb))
      have I38 := mv_pk hI (by omega) hcn hcb q1 q2
      have X38 := mvx_pk hX hI (by omega) hcn hcb q1 q2
      obtain ⟨i9, i10, -⟩ := q2.bt
      have fw := q2.frl i9
      have F38 := q1.nf
      have z1 := F38.szv fw.2.1 q3.2.1
      have z3 := F38.szv fw.2.2 q3.1.2
      have nt4 : ¬ T4 z (mR M38 z 9 + 1) ∧ ¬ T4 z (mR M38 z 9 + 3) := by
        unfold T4
        rcases i9 with e | e <;> rw [e] <;> omega
      refine ⟨⟨by omega, by omega⟩, q1.ok, q2.1.1, (f_fits (d := d + 1) (s := 131) (t := mI M38 (mR M38 z 9) 2) ⟨q1.ok, F38, q2, fw⟩ nt4 rfl ⟨q3.2.2.1.1, by have := q3.2.2.1.2; omega⟩ (by omega) (by omega) (by decide) (fun x hx => by have := hW x (tre_pk i9 hx); omega)).mono (fun x43 M42 p => ?_)⟩
      obtain ⟨p1, p2, p3, p4, p5, p6, p7⟩ := p
      have sk42 := p1.sk F38 q2
      have p1' : NL L W (Tpk z) (Ipk z) True z M38 M42 := p1.mono F38 (fun t ht => tre_pk i9 ht) q2.tpk (fun x e => by rw [e]; exact i9) q2.ipk (fun e => e.elim)
      have I42 := mv_pk I38 (by omega) hcn hcb p1' sk42
      have X42 := mvx_pk X38 I38 (by omega) hcn hcb p1' sk42
      have V38 := (q3.2.2.2 hb.2.1).2
      have rz : mR M42 z = mR M38 z := (p1.2.2.1.2 z q2.1.2).2.2.2.1 (fun u => u.elim (fun u => (F38.nz q2.1.1 (q2.tpk z (tre_pk i9 u))).1 rfl) (fun u => u.2))
      refine ⟨m_b32 p4, p1.ok, fun e => ⟨Or.inl rfl, i, by omega, I42, fun u => absurd rfl u, X42, fun _ => ⟨hi, by rw [← q7]; exact (p7 V38).2 e⟩⟩, fun x0 => ?_⟩
      obtain ⟨-, hA2, -, ⟨eR2, -⟩, -⟩ := id I42
      obtain ⟨⟨o2, F2, S2⟩, -, ⟨u1, u2, u3, u4, -, u6⟩, ap2, -⟩ := id hA2
      have fa2 := u6 i (by omega)
      have fw2 := S2.frl i9
      have dw := (ap2 i (by omega)).fd i9
      have wr2 := hWr i (by omega)
      rw [← eR2] at wr2
      have b3 := p5 x0
      rw [pw480] at b3
      have b1' := p6 (q3.2.2.2 hb.2.1).1
      have b0' := p3 (q3.2.2.2 hb.2.1).2
      have y1 := F2.szv fw2.2.1 (Int.lt_of_le_of_lt b1' b3)
      have y3 := F2.szv fw2.2.2 b3
      rw [u2, u4, rz]
      refine ⟨u1, u3, ⟨by omega, by omega⟩, S2.1.1, fa2.1.1, (f_Fr_put1 (d := d + 5) o2 F2 fa2 fw2 dw.1 dw.2.1 dw.2.2 S2.z9 (by omega) (by omega)).mono (fun M52 q => ?_)⟩
      obtain ⟨j1, j2, j3, j4⟩ := q
      have r4 := (hA2.row hi hcn j1).2.2.2
      have er : rwv M52 R i = n9 i := by
        rw [← q7]
        unfold rwv fq9
        rw [r4, j2, j3]
        exact fv_of b0' (ic_ne (Int.mul_pos (show 0 < mI M38 (mR M38 z 9) 2 by have := q3.2.2.1.1; omega) V38)) (p7 V38).1
      exact ⟨j1.ok, ih (i + 1) M52 (by omega) (by omega) (mv_row I42 hi hcn hcb hsp j1 (by rw [j3]; exact b3) (by rw [j2, j3]; exact ⟨b1', b0'⟩) (by rw [j4]; exact p2)) (mvx_row X42 I42 hi hcn hcb hsp j1 er)⟩
/-- what a move leaves behind, growth and all -/
def moveQ (L : List Nat) (W : Nat → Nat) (z g a R k b Rb kb cn cc bc : Nat) (n9 : Nat → Rat) (M : mM) (x : Int) (M' : mM) : Prop := ∃ L' R' k' M1, Gw L W a M L' M1 ∧ Te L' W z g a R' k' M1 ∧ ((M1 = M ∧ L' = L ∧ R' = R ∧ k' = k) ∨ rvG L M R k L' M1 R' k') ∧ (cn ≤ k' ∧ k ≤ k' ∧ k' ≤ 512) ∧ (∀ i, i < k → mR M1 R' i = mR M R i) ∧ (∀ i, k ≤ i → i < k' → mR M1 R' i = mZ M + 1 + 5 * (i - k) ∧ mI M1 (mZ M + 1 + 5 * (i - k)) 2 = 1) ∧ movQ L' W z g a R' k' b Rb kb cn cc bc n9 M1 x M' ∧ ∀ j, j ≤ 9 → mI M1 (g + j) = mI M (g + j)
theorem f_move {n9 : Nat → Rat} (hn : nxH M g Rb cn n9) (hA : Te L W z g a R k M) (hB : Te L W z g b Rb kb M) (ab : b ≠ a) (hk : k ≤ 512) (hkb : kb ≤ 512) (hcb : cn ≤ kb) (hG : GTT M g cn cc bc) (hb : Rok M Rb cn) (hsp : Rsp M R k Rb kb) (hW : ∀ x, Tpk z x → B ≤ W x) (b1 : 300 ≤ B) (hB' : B ≤ 14000) (hWn : ∀ x, mZ M < x → 16 ≤ W x ∧ W x ≤ 20000) (hWr : ∀ i, i < k → 16 ≤ W (mR M R i + 1) ∧ 16 ≤ W (mR M R i + 3)) : Ci G y_Sc_move (d + 8) [vr z, vr g, vr b, vr a] M (moveQ L W z g a R k b Rb kb cn cc bc n9 M) := by
  refine k_Sc_move hA.1.1 ?_
  rw [hG.2.2.2]
  refine ⟨hA.2.1.1.1, hA.2.2.1.1, (f_Fs_reserve (d := d + 4) hA.1.1 hA.1.2.1 hA.2.2.1 hk hG.1.1 (fun x hx => by have := hWn x hx; omega)).mono (fun M3 q => ?_)⟩
  obtain ⟨L', R', k', gw, te, c, p1, p2, p3⟩ := rv_te hA q
  obtain ⟨teb, eRb⟩ := gw.te hB ab
  have k5 : k' ≤ 512 := by
    rcases p3 with ⟨-, -, -, e⟩ | ⟨-, e, -⟩ <;> omega
  have hm : ∀ {Q Q' : Int → mM → Prop}, h_Sc_move_11 G (d + 7) z g b a 0 M3 Q → (∀ x M', Q x M' → Q' x M') → h_Sc_move_11 G (d + 7) z g b a 0 M3 Q' := fun h hq => by
    unfold h_Sc_move_11 at h ⊢
    exact mWm.mono h (fun r M' k => by
      obtain ⟨x, e, t⟩ := k
      exact ⟨x, e, hq x M' t⟩)
  have sp : Rsp M3 R' k' Rb kb := fun i j hi hj => by
    rw [eRb]
    by_cases c1 : i < k
    · rw [p1 i c1]; exact hsp i j c1 hj
    · rw [(p2 i (by omega) hi).1]
      have := (hB.1.2.1.lt (hB.2.2.1.2.2.2.2.2 j hj).2.2).1
      unfold Frd
      omega
  have wr : ∀ i, i < k' → 16 ≤ W (mR M3 R' i + 1) ∧ 16 ≤ W (mR M3 R' i + 3) := fun i hi => by
    by_cases c1 : i < k
    · rw [p1 i c1]; exact hWr i c1
    · rw [(p2 i (by omega) hi).1]
      exact ⟨(hWn _ (by omega)).1, (hWn _ (by omega)).1⟩
  have rb3 : Rok M3 Rb cn := hb.cg eRb (fun i hi => by
    have f := hB.2.2.1.2.2.2.2.2 i (by omega)
    exact ⟨(gw.rf f.2.1).2.1, (gw.rf f.2.2).2.1, (gw.frl f).2⟩)
  have ev3 : ∀ j, j < cn → rwv M3 Rb j = rwv M Rb j := fun j hj => by
    have f := hB.2.2.1.2.2.2.2.2 j (by omega)
    exact rwv_cg eRb (gw.rf f.2.1).2.1 (gw.rf f.2.2).2.1
  have hn3 := hn.same hG (gw.gk hA.2.1).2 ev3
  have tL : ∀ t, Tmv z M3 R' cn t → t ∈ L' := fun t ht => ht.elim (te.1.2.2.tpk t) (te.trw c.1 t)
  have iL : ∀ x, Imv z M3 R' cn x → x < mZ M3 ∧ mK M3 x = 11 := fun x hx => hx.elim (te.1.2.2.ipk x) (te.irw c.1 x)
  refine ⟨gw.1, hm (s_mv11 (d := d) (B := B) hn3 c.1 hcb k5 hkb sp hW b1 hB' wr cn 0 M3 (by omega) (by omega) ⟨NL.refl gw.1 gw.2.1.2 tL iL te.1.2.2.z9, te, teb, ⟨rfl, rfl⟩, hG.same (gw.gk hA.2.1).2, rb3, fun i hi => absurd hi (by omega), fun i hi => absurd hi (by omega), fun i hi => absurd hi (by omega)⟩ ⟨fun _ _ => rfl, fun _ _ => rfl, fun j hj => absurd hj (by omega)⟩) (fun x M' q' => ⟨L', R', k', M3, gw, te, p3, ⟨c.1, c.2, k5⟩, p1, p2, q', (gw.gk hA.2.1).2⟩)⟩
end NBH
end
section
/-! The Residues: inverses, rows. -/
section NBI
variable {G : mG} {d e n m i k rows : Nat} {M M0 M' M1 M2 M3 : mM} {P a b x y X Y : Int}
/-- on the way to an inverse -/
def InvI (P a b x y : Int) : Prop := (0 ≤ a ∧ a ≤ P) ∧ (0 ≤ b ∧ b ≤ P) ∧ ∃ X Y, (0 ≤ X ∧ X ≤ P) ∧ (0 ≤ Y ∧ Y ≤ P) ∧ ((x = X ∧ y = -Y) ∨ (x = -X ∧ y = Y)) ∧ a * Y + b * X = P
theorem inv_st (h : InvI P a b x y) (hb : 0 < b) : InvI P b (a - a / b * b) y (x - a / b * y) := by
  obtain ⟨⟨a0, a1⟩, ⟨b0, b1⟩, X, Y, ⟨X0, X1⟩, ⟨Y0, Y1⟩, s, e⟩ := h
  have q0 : 0 ≤ a / b := Int.ediv_nonneg a0 b0
  have r0 : 0 ≤ a - a / b * b := by have := Int.ediv_mul_le a (show b ≠ 0 by omega); omega
  have r1 : a - a / b * b < b := by have := Int.lt_ediv_add_one_mul_self a hb; rw [Int.add_mul, Int.one_mul] at this; omega
  have qY := Int.mul_nonneg q0 Y0
  generalize a / b = q at *
  have e' : b * (X + q * Y) + (a - q * b) * Y = P := by
    rw [Int.mul_add, Int.sub_mul, Int.mul_assoc, Int.mul_left_comm b q Y]
    have : b * X = b * X := rfl
    omega
  have rY := Int.mul_nonneg r0 Y0
  have bX := Int.mul_le_mul_of_nonneg_right (show 1 ≤ b by omega) (show 0 ≤ X + q * Y by omega)
  refine ⟨⟨b0, b1⟩, ⟨r0, by omega⟩, Y, X + q * Y, ⟨Y0, Y1⟩, ⟨by omega, by omega⟩, ?_, e'⟩
  rcases s with ⟨s1, s2⟩ | ⟨s1, s2⟩
  · refine Or.inr ⟨s2, ?_⟩
    rw [s1, s2, Int.mul_neg]
    omega
  · refine Or.inl ⟨s2, ?_⟩
    rw [s1, s2]
    omega
theorem InvI.bd (h : InvI P a b x y) (hP : P < 1073741824) : (i64 a ∧ i64 b ∧ i64 x ∧ i64 y) ∧ (-P ≤ x ∧ x ≤ P) := by
  obtain ⟨⟨a0, a1⟩, ⟨b0, b1⟩, X, Y, ⟨X0, X1⟩, ⟨Y0, Y1⟩, s, -⟩ := h
  unfold i64
  omega
theorem s_Re_inverse {v : Int} (hv : 0 ≤ v ∧ v ≤ P) (hP : 0 < P ∧ P < 1073741824) (hO : mOk M) : Ci G y_Re_inverse d [vi v, vi P] M (fun r M' => M' = M ∧ 0 ≤ r ∧ r ≤ P) := by
  refine k_Re_inverse hO ⟨by omega, by omega⟩ ⟨by omega, by omega⟩ ?_
  suffices HH : ∀ (t i : Nat) (a b x y : Int), 100 ≤ i + t → i ≤ 100 → InvI P a b x y → h_Re_inverse_16 G d P a b x y i M (fun r M' => M' = M ∧ 0 ≤ r ∧ r ≤ P) from
    HH 100 0 v P 1 0 (by omega) (by omega) ⟨hv, ⟨by omega, by omega⟩, 1, 0, ⟨by omega, by omega⟩, ⟨by omega, by omega⟩, Or.inl ⟨rfl, rfl⟩, by omega⟩
  have fin : ∀ {a b x y : Int}, InvI P a b x y → ∀ v7 : Int, v7 = (if (0 ≤ cmpL x 0) then x else x + P) → M = M ∧ 0 ≤ v7 ∧ v7 ≤ P := fun {a b x y} h v7 e7 => by
    have := h.bd hP.2
    have c : (0 ≤ cmpL x 0) ↔ 0 ≤ x := by
      unfold cmpL; split
      · constructor <;> intro h <;> omega
      · split <;> constructor <;> intro h <;> omega
    refine ⟨rfl, ?_⟩
    by_cases u : 0 ≤ cmpL x 0
    · rw [if_pos u] at e7
      have := c.1 u
      omega
    · rw [if_neg u] at e7
      have : ¬ 0 ≤ x := fun w => u (c.2 w)
      omega
  intro t
  induction t with
  | zero =>
    intro i a b x y h1 h2 hI
    obtain ⟨⟨b1, b2, b3, b4⟩, -⟩ := hI.bd hP.2
    exact k_Re_inverse_16 hO ⟨by omega, by omega⟩ b1 b2 b3 b4 ⟨by omega, by omega⟩ ⟨fun _ => fin hI, fun u => absurd (Or.inl (by omega)) u⟩
  | succ t ih =>
    intro i a b x y h1 h2 hI
    obtain ⟨⟨b1, b2, b3, b4⟩, -⟩ := hI.bd hP.2
    refine k_Re_inverse_16 hO ⟨by omega, by omega⟩ b1 b2 b3 b4 ⟨by omega, by omega⟩ ⟨fun _ => fin hI, fun u => ?_⟩
    have b0 : b ≠ 0 := fun w => u (Or.inr (j_c0.2 w))
    have a0 := hI.1.1
    have bb := hI.2.1.1
    rw [Int.tdiv_eq_ediv_of_nonneg a0, show ((i : Int) + 1) = ((i + 1 : Nat) : Int) by omega]
    exact ⟨b0, ih (i + 1) _ _ _ _ (by omega) (by omega) (inv_st hI (by omega))⟩
/-- the Residues' tables -/
def Rk (M : mM) (e : Nat) : Prop := mK M e = 12 ∧ (mR M e 0 = e + 1 ∧ mR M e 1 = e + 2 ∧ mR M e 2 = e + 3 ∧ mR M e 3 = e + 4 ∧ mR M e 4 = e + 5 ∧ mR M e 5 = e + 6 ∧ mR M e 6 = e + 7) ∧ (mK M (e + 1) = 30 ∧ mK M (e + 2) = 34 ∧ mK M (e + 3) = 30 ∧ mK M (e + 4) = 30 ∧ mK M (e + 5) = 30 ∧ mK M (e + 6) = 30) ∧ (mN M (e + 1) = 1640 ∧ mN M (e + 2) = 41 ∧ mN M (e + 3) = 1640 ∧ mN M (e + 4) = 40 ∧ mN M (e + 5) = 41 ∧ mN M (e + 6) = 41)
theorem Rk.fi {S : Nat → Prop} (h : Rk M e) (f : FI S M M') : Rk M' e := by
  unfold Rk at h ⊢
  rw [f.1, f.2.1, f.2.2.1]
  exact h
/-- residues in the table -/
def Wk9 (M : mM) (e : Nat) (P : Int) (N : Nat) : Prop := ∀ j, j < N → 0 ≤ mI M (e + 3) j ∧ mI M (e + 3) j < P
theorem wk_ui {j N : Nat} {v : Int} (h : Wk9 M e P N) (hv : 0 ≤ v ∧ v < P) (q : M' = mUI M (e + 3) j v) : Wk9 M' e P N := fun i hi => by
  rw [mI_ui _ i q]
  by_cases c : e + 3 = e + 3 ∧ i = j
  · rw [if_pos c]; exact hv
  · rw [if_neg c]; exact h i hi
theorem s_Re_swapRows {N p q : Nat} (hP : P < 1073741824) (h : Rk M e) (hw : Wk9 M e P N) (hN : N ≤ 1640) (hp : p + 41 ≤ N) (hq : q + 41 ≤ N) (hO : mOk M) : Cv G y_Re_swapRows d [vr e, vi p, vi q] M (fun M' => mOk M' ∧ FI (fun x => x = e + 3) M M' ∧ Wk9 M' e P N) := by
  refine k_Re_swapRows hO ⟨by omega, by omega⟩ ⟨by omega, by omega⟩ ?_
  suffices HH : ∀ (t i : Nat) (M1 : mM), 41 ≤ i + t → i ≤ 41 → mOk M1 → FI (fun x => x = e + 3) M M1 → Wk9 M1 e P N → h_Re_swapRows_2 G d e p q i M1 (fun M' => mOk M' ∧ FI (fun x => x = e + 3) M M' ∧ Wk9 M' e P N) from HH 41 0 M (by omega) (by omega) hO FI.refl hw
  intro t
  induction t with
  | zero =>
    intro i M1 h1 h2 o F w
    exact k_Re_swapRows_2 o ⟨by omega, by omega⟩ ⟨by omega, by omega⟩ ⟨by omega, by omega⟩ ⟨fun _ => ⟨o, F, w⟩, fun u => absurd (by omega) u⟩
  | succ t ih =>
    intro i M1 h1 h2 o F w
    refine k_Re_swapRows_2 o ⟨by omega, by omega⟩ ⟨by omega, by omega⟩ ⟨by omega, by omega⟩ ⟨fun _ => ⟨o, F, w⟩, fun u => ?_⟩
    have k1 := h.fi F
    have r2 := k1.2.1.2.2.1
    have n3 := k1.2.2.2.2.2.1
    have c3 := k1.2.2.1.2.2.1
    have wp := w (p + i) (by omega)
    have wq := w (q + i) (by omega)
    rw [r2, n3, show ((p : Nat) : Int) + ((i : Nat) : Int) = ((p + i : Nat) : Int) by omega, show ((q : Nat) : Int) + ((i : Nat) : Int) = ((q + i : Nat) : Int) by omega, Int.toNat_natCast, Int.toNat_natCast]
    refine ⟨k1.1, c3, ⟨by omega, by omega⟩, ⟨by omega, by omega⟩, ⟨by omega, by omega⟩, fun M8 e8 => ?_⟩
    have f8 : FI (fun x => x = e + 3) M1 M8 := by rw [e8]; exact FI.ui rfl
    rw [f8.1, f8.2.1, f8.2.2.1, r2, n3]
    refine ⟨c3, ⟨by omega, by omega⟩, fun M12 e12 => ?_⟩
    have f12 : FI (fun x => x = e + 3) M8 M12 := by rw [e12]; exact FI.ui rfl
    rw [show ((i : Int) + 1) = ((i + 1 : Nat) : Int) by omega]
    exact ih (i + 1) M12 (by omega) (by omega) (by rw [e12]; exact mOk_UI (by rw [e8]; exact mOk_UI o ⟨by omega, by omega⟩) ⟨by omega, by omega⟩) ((F.trans f8).trans f12) (wk_ui (wk_ui w wq e8) wp e12)
theorem tm_b {x : Int} (hx : 0 ≤ x) (hP : 0 < P) : Int.tmod x P = x % P ∧ 0 ≤ x % P ∧ x % P < P := ⟨Int.tmod_eq_emod_of_nonneg hx, Int.emod_nonneg _ (by omega), Int.emod_lt_of_pos _ hP⟩
theorem pr_b {x y z : Int} (hP : P < 1073741824) (hx : 0 ≤ x ∧ x ≤ P) (hy : 0 ≤ y ∧ y ≤ P) (hz : 0 ≤ z ∧ z ≤ P) : 0 ≤ z + x * y ∧ i64 (z + x * y) := by
  have h1 := Int.mul_nonneg hx.1 hy.1
  have h2 : x * y ≤ 1073741824 * y := Int.mul_le_mul_of_nonneg_right (by omega) hy.1
  unfold i64
  omega
end NBI
end
