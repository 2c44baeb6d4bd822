/-! Tables of fractions: what growth leaves as it was; begin as a whole. -/
section NBG
variable {G : mG} {d a b z n m w S B u g R R' Rb kb cn cnt f f' F s i k k' K x : Nat} {M M0 M' M1 M2 M3 : mM} {L L' L1 : List Nat} {W : Nat → Nat} {T I : Nat → Prop} {r : Prop}
/-- a step of growth -/
def Gw (L : List Nat) (W : Nat → Nat) (a : Nat) (M : mM) (L' : List Nat) (M' : mM) : Prop := mOk M' ∧ (NF L W M ∧ NF L' W M') ∧ (∀ x, x ∈ L → x ∈ L') ∧ (∀ x, x ∈ L' → x ∈ L ∨ (mZ M < x ∧ mZ M < mR M' x 0)) ∧ FA (fun _ => False) (fun x => x = a) M M' ∧ (a ∉ L ∧ mK M a = 13)
theorem Gw.rf (h : Gw L W a M L' M') {b : Nat} (hb : b ∈ L) : mR M' b = mR M b ∧ nv M' b = nv M b ∧ sz M' b = sz M b := by
  obtain ⟨-, ⟨h1, h2⟩, h3, h4, h5, h6, -⟩ := h
  have z := h1.lt hb
  have e1 := (h5.2 b z.1).2.2.2.1 (fun e => h6 (by rw [← e]; exact hb))
  have e2 := (h5.2 b z.1).2.2.2.2 (fun e => e)
  have e3 := (h5.2 _ z.2).2.2.2.2 (fun e => e)
  have e4 : sz M' b = sz M b := by unfold sz; rw [e2]
  exact ⟨e1, by unfold nv; rw [e4, e1, e3], e4⟩
theorem Gw.oc (h : Gw L W a M L' M') (hx : Oc L M x) : Oc L' M' x := by
  have q := h
  obtain ⟨-, ⟨h1, h2⟩, h3, h4, h5, h6, -⟩ := h
  have zx := hx.1
  refine ⟨Nat.lt_of_lt_of_le hx.1 h5.1.1, fun u => ?_, fun b hb u => ?_⟩
  · rcases h4 x u with e | e
    · exact hx.2.1 e
    · omega
  · rcases h4 b hb with e | e
    · rw [(q.rf e).1] at u
      exact hx.2.2 b e u
    · omega
theorem Gw.frl (h : Gw L W a M L' M') (hf : FrL L M f) : FrL L' M' f ∧ mI M' f = mI M f := by
  obtain ⟨-, ⟨h1, h2⟩, h3, h4, h5, h6, h7⟩ := h
  have z := hf.1.2.2
  refine ⟨⟨hf.1.fa h5 (fun e => ?_), h3 _ hf.2.1, h3 _ hf.2.2⟩, (h5.2 f z).2.2.2.2 (fun e => e)⟩
  have := hf.1.1
  rw [e, h7] at this
  omega
theorem Gw.sk (h : Gw L W a M L' M') (hS : SK L M z) : SK L' M' z := by
  obtain ⟨⟨k1, k2⟩, k3, k4, ⟨k5, k6, k7⟩, ⟨k8, k9⟩, ⟨l1, l2, l3, l4, l5, l6, l7, l8⟩, ⟨l9, l10, l11, l12⟩⟩ := hS
  have f8 := (h.frl (f := z + 18) ⟨k8, l9, l10⟩).1
  have f9 := (h.frl (f := z + 23) ⟨k9, l11, l12⟩).1
  obtain ⟨-, ⟨h1, h2⟩, h3, h4, h5, h6, h7⟩ := h
  have ne : z ≠ a := fun e => by rw [e, h7] at k1; omega
  have rz := (h5.2 z k2).2.2.2.1 ne
  have le := h5.1.1
  refine ⟨⟨by rw [(h5.2 z k2).1]; exact k1, by omega⟩, by rw [rz]; exact k3, by rw [rz]; exact k4, ⟨by rw [(h5.2 _ k7).1]; exact k5, by rw [(h5.2 _ k7).2.1]; exact k6, by omega⟩, ⟨f8.1, f9.1⟩, ⟨h3 _ l1, h3 _ l2, h3 _ l3, h3 _ l4, h3 _ l5, h3 _ l6, h3 _ l7, h3 _ l8⟩, h3 _ l9, h3 _ l10, h3 _ l11, h3 _ l12⟩
theorem Gw.gk (h : Gw L W a M L' M') (hG : GK9 M g ∧ ∀ i, i ≤ 9 → Oc L M (g + i)) : (GK9 M' g ∧ ∀ i, i ≤ 9 → Oc L' M' (g + i)) ∧ ∀ i, i ≤ 9 → mI M' (g + i) = mI M (g + i) := by
  obtain ⟨h8, h9⟩ := hG
  have oc := fun i (hi : i ≤ 9) => h.oc (h9 i hi)
  obtain ⟨-, ⟨h1, h2⟩, h3, h4, h5, h6, h7⟩ := h
  have c := fun i (hi : i ≤ 9) => h5.2 (g + i) (h9 i hi).1
  have ne : g ≠ a := fun e => by have := h8.1; rw [e, h7] at this; omega
  have c0 := c 0 (by decide)
  rw [Nat.add_zero] at c0
  refine ⟨⟨⟨by rw [c0.1]; exact h8.1, by rw [c0.2.2.2.1 ne]; exact h8.2.1, fun i hi hi' => by rw [(c i hi').1]; exact h8.2.2.1 i hi hi', ?_⟩, oc⟩, fun i hi => (c i hi).2.2.2.2 (fun e => e)⟩
  rw [(c 2 (by decide)).2.1, (c 4 (by decide)).2.1, (c 6 (by decide)).2.1, (c 7 (by decide)).2.1, (c 8 (by decide)).2.1, (c 9 (by decide)).2.1]
  exact h8.2.2.2
/-- another table -/
theorem Gw.te (h : Gw L W a M L' M') (hT : Te L W z g b Rb kb M) (ab : b ≠ a) : Te L' W z g b Rb kb M' ∧ mR M' Rb = mR M Rb := by
  obtain ⟨⟨h1, h2, h3⟩, h4, ⟨t1, t2, t3, t4, ⟨t5, t6⟩, t7⟩, h6, h7⟩ := hT
  have sk := h.sk h3
  have gk := (h.gk h4).1
  have fr := fun i (hi : i < kb) => (h.frl (t7 i hi)).1
  have ob := h.oc t5
  have oR := h.oc t6
  obtain ⟨q0, ⟨q1, q2⟩, q3, q4, q5, q6, q7⟩ := h
  have cb := q5.2 b t5.1
  have cR := q5.2 Rb t6.1
  have nR : Rb ≠ a := fun e => by rw [e, q7] at t3; omega
  have eR := cR.2.2.2.1 nR
  exact ⟨⟨⟨q0, q2, sk⟩, gk, ⟨by rw [cb.1]; exact t1, by rw [cb.2.2.2.1 ab]; exact t2, by rw [cR.1]; exact t3, by rw [cR.2.1]; exact t4, ⟨ob, oR⟩, fun i hi => by rw [eR]; exact fr i hi⟩, fun i hi => by rw [eR]; exact h6 i hi, fun i j hi hj ij => by rw [eR]; exact h7 i j hi hj ij⟩, eR⟩
/-- the table that grew -/
theorem rv_te (hT : Te L W z g a R k M) (q : rvQ L W a M R k cnt M') : ∃ L' R' k', Gw L W a M L' M' ∧ Te L' W z g a R' k' M' ∧ (cnt ≤ k' ∧ k ≤ k') ∧ (∀ i, i < k → mR M' R' i = mR M R i) ∧ (∀ i, k ≤ i → i < k' → mR M' R' i = mZ M + 1 + 5 * (i - k) ∧ mI M' (mZ M + 1 + 5 * (i - k)) 2 = 1) ∧ ((M' = M ∧ L' = L ∧ R' = R ∧ k' = k) ∨ rvG L M R k L' M' R' k') := by
  obtain ⟨⟨h1, h2, h3⟩, h4, ⟨t1, t2, t3, t4, ⟨t5, t6⟩, t7⟩, h6, h7⟩ := id hT
  obtain ⟨L', R', k', q1, q2, q3, q4, q5, q6, q7, -, q9, q10, q11⟩ := q
  have gw : Gw L W a M L' M' := ⟨q1, ⟨h2, q2⟩, q3, q4, q7, t5.2.1, t1⟩
  have zS := h3.2.2.2.2.2.2
  have z26 : z + 26 < mZ M := (h2.lt zS.2.2.2).1
  have lt : ∀ i, i < k → mR M R i + 3 < mZ M := fun i hi => (h2.lt (t7 i hi).2.2).1
  refine ⟨L', R', k', gw, ⟨⟨q1, q2, gw.sk h3⟩, (gw.gk h4).1, q5, fun i hi => ?_, fun i j hi hj ij => ?_⟩, q6, q9, q10, q11⟩
  · by_cases c : i < k
    · rw [q9 i c]; exact h6 i c
    · rw [(q10 i (by omega) hi).1]
      unfold Rap Tpk T4 Tor T2
      omega
  · by_cases c1 : i < k
    · by_cases c2 : j < k
      · rw [q9 i c1, q9 j c2]; exact h7 i j c1 c2 ij
      · rw [q9 i c1, (q10 j (by omega) hj).1]
        have := lt i c1
        unfold Frd
        omega
    · by_cases c2 : j < k
      · rw [q9 j c2, (q10 i (by omega) hi).1]
        have := lt j c2
        unfold Frd
        omega
      · rw [(q10 i (by omega) hi).1, (q10 j (by omega) hj).1]
        unfold Frd
        omega
/-- what begin leaves behind -/
def begQ (L : List Nat) (W : Nat → Nat) (z g a R k cn : Nat) (M M' : mM) : Prop := ∃ L' R' k' M1, Gw L W a M L' M1 ∧ Te L' W z g a R' k' M1 ∧ (cn ≤ k' ∧ k ≤ k') ∧ ((M1 = M ∧ L' = L ∧ R' = R ∧ k' = k) ∨ rvG L M R k L' M1 R' k') ∧ (∀ i, i < k → mR M1 R' i = mR M R i) ∧ (∀ i, k ≤ i → i < k' → mR M1 R' i = mZ M + 1 + 5 * (i - k) ∧ mI M1 (mZ M + 1 + 5 * (i - k)) 2 = 1) ∧ NL L' W (Trw M1 R' cn) (Irw M1 R' cn) False z M1 M' ∧ bgQ M' R' cn ∧ bgV M' g R' cn
theorem f_begin (hT : Te L W z g a R k M) (hk : k ≤ 512) (hcn : cn ≤ 512) (e0 : mI M g 0 = ((cn : Nat) : Int)) (hWn : ∀ x, mZ M < x → 2 ≤ W x ∧ W x ≤ 20000) : Cv G y_Fs_begin (d + 4) [vr a, vr g] M (begQ L W z g a R k cn M) := by
  refine k_Fs_begin hT.1.1 ?_
  rw [e0]
  refine ⟨hT.2.1.1.1, hT.2.2.1.1, (f_Fs_reserve (d := d) hT.1.1 hT.1.2.1 hT.2.2.1 hk hcn hWn).mono (fun M3 q => ?_)⟩
  obtain ⟨L', R', k', gw, te, c, p1, p2, p3⟩ := rv_te hT q
  have g0 := (gw.gk hT.2.1).2 0 (by decide)
  rw [Nat.add_zero] at g0
  have k5 : k' ≤ 512 := by
    rcases p3 with ⟨-, -, -, e⟩ | ⟨-, e, -⟩ <;> omega
  have hm : ∀ {Q Q' : mM → Prop}, h_Fs_begin_10 G (d + 3) a g 0 M3 Q → (∀ M', Q M' → Q' M') → h_Fs_begin_10 G (d + 3) a g 0 M3 Q' := fun h hq => by
    unfold h_Fs_begin_10 at h ⊢
    exact mWm.mono h (fun r M' k => ⟨k.1, hq M' k.2⟩)
  refine ⟨gw.1, hm (s_bg10 (d := d + 2) te c.1 k5 (by rw [g0]; exact e0) cn 0 M3 (by omega) (by omega) (NL.refl gw.1 gw.2.1.2 (te.trw c.1) (te.irw c.1) te.1.2.2.z9) te rfl (by rw [g0]; exact e0) (fun i hi => absurd hi (by omega)) (fun i hi => absurd hi (by omega))) (fun M' q' => ⟨L', R', k', M3, gw, te, c, p3, p1, p2, q'.1, q'.2⟩)⟩
end NBG
