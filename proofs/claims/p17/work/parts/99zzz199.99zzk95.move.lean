section
/-! The Scales: one more move for all states. -/
section NBH
variable {G : mG} {d a b z n m w S B u g R R' Rb kb cn cnt cc bc f f' F s i k k' K x : Nat} {M M0 M' M1 M2 M3 : mM} {L L' L1 : List Nat} {W : Nat → Nat} {T I : Nat → Prop} {r : Prop}
/-- a game of cn states, cc commands -/
def GTT (M : mM) (g cn cc bc : Nat) : Prop := (cn ≤ 512 ∧ cc ≤ bc ∧ bc ≤ 4096) ∧ (∀ c, c < cc → cmdG M g cn bc c) ∧ (∀ j, j < cn → ∃ x y : Nat, mI M (g + 4) j = ((x : Nat) : Int) ∧ mI M (g + 4) (j + 1) = ((y : Nat) : Int) ∧ x ≤ y ∧ y ≤ cc ∧ y ≤ x + 60) ∧ mI M g 0 = ((cn : Nat) : Int)
theorem GTT.same (h : GTT M g cn cc bc) (e : ∀ i, i ≤ 9 → mI M' (g + i) = mI M (g + i)) : GTT M' g cn cc bc := by
  have e0 := e 0 (by decide)
  rw [Nat.add_zero] at e0
  exact ⟨h.1, fun c hc => (h.2.1 c hc).same e, fun j hj => by rw [e 4 (by decide)]; exact h.2.2.1 j hj, by rw [e0]; exact h.2.2.2⟩
/-- small rows, none above 1, all without a small factor -/
def Rok (M : mM) (R n : Nat) : Prop := Rsm M R n 16 ∧ Rle M R n ∧ ∀ i, i < n → mI M (mR M R i) 2 = 1
theorem Rok.cg (h : Rok M R n) (eR : mR M' R = mR M R) (e : ∀ i, i < n → nv M' (mR M R i + 1) = nv M (mR M R i + 1) ∧ nv M' (mR M R i + 3) = nv M (mR M R i + 3) ∧ mI M' (mR M R i) = mI M (mR M R i)) : Rok M' R n := by
  obtain ⟨h1, h2, h3⟩ := h
  refine ⟨fun i hi => ?_, fun i hi => ?_, fun i hi => ?_⟩
  · rw [eR, (e i hi).1, (e i hi).2.1]; exact h1 i hi
  · rw [eR, (e i hi).1, (e i hi).2.1]; exact h2 i hi
  · rw [eR, (e i hi).2.2]; exact h3 i hi
def Tmv (z : Nat) (M : mM) (R n x : Nat) : Prop := Tpk z x ∨ Trw M R n x
def Imv (z : Nat) (M : mM) (R n x : Nat) : Prop := Ipk z x ∨ Irw M R n x
/-- the move on its way -/
def MvI (L : List Nat) (W : Nat → Nat) (z g a R k b Rb kb cn cc bc : Nat) (M0 : mM) (i : Nat) (M : mM) : Prop := NL L W (Tmv z M0 R cn) (Imv z M0 R cn) True z M0 M ∧ Te L W z g a R k M ∧ Te L W z g b Rb kb M ∧ (mR M R = mR M0 R ∧ mR M Rb = mR M0 Rb) ∧ GTT M g cn cc bc ∧ Rok M Rb cn ∧ Rok M R i
/-- rows of the two tables lie apart -/
def Rsp (M : mM) (R k Rb kb : Nat) : Prop := ∀ i j, i < k → j < kb → Frd (mR M R i) (mR M Rb j)
theorem Rap.pk (h : Rap z f) : ¬ Tpk z (f + 1) ∧ ¬ Tpk z (f + 3) ∧ ¬ Ipk z f := ⟨h.1, h.2.1, fun e => e.elim h.2.2.1 h.2.2.2⟩
theorem Rap.fd (h : Rap z f) (hw : Ipk z w) : Frd f w := by
  obtain ⟨h1, h2, h3, h4⟩ := h
  unfold Tpk T2 at h1 h2
  unfold Frd
  rcases hw with e | e <;> rw [e] <;> omega
/-- a row is written -/
theorem mv_row (h : MvI L W z g a R k b Rb kb cn cc bc M0 i M) (hi : i < cn) (hcn : cn ≤ k) (hcb : cn ≤ kb) (hsp : Rsp M0 R k Rb kb) (q : NL L W (T2 (mR M R i)) (fun x => x = mR M R i) False z M M') (v3 : nv M' (mR M R i + 3) < 2 ^ (30 * 16)) (v1 : nv M' (mR M R i + 1) ≤ nv M' (mR M R i + 3) ∧ 0 < nv M' (mR M R i + 3)) (t2 : mI M' (mR M R i) 2 = 1) : MvI L W z g a R k b Rb kb cn cc bc M0 (i + 1) M' := by
  obtain ⟨hN, hA, hB, ⟨eR, eRb⟩, hG, hb, ha⟩ := h
  obtain ⟨p1, p2, p3, p4⟩ := hA.row hi hcn q
  have p1' : NL L W (Tmv z M0 R cn) (Imv z M0 R cn) True z M M' := p1.mono hA.1.2.1 (fun t ⟨j, hj, ht⟩ => Or.inr ⟨j, hj, by rw [← eR]; exact ht⟩) hN.2.1.1 (fun x ⟨j, hj, hx⟩ => Or.inr ⟨j, hj, by rw [← eR]; exact hx⟩) (fun x hx => by
    have := hN.2.1.2.1 x hx
    exact ⟨Nat.lt_of_lt_of_le this.1 hN.2.2.1.1.1, by rw [hN.kind this.1]; exact this.2⟩) (fun e => e.elim)
  obtain ⟨b1, b2, b3⟩ := hB.nl p1 p2.1.2.2 (fun x e => (hA.irw hcn x e).2)
  refine ⟨hN.trans p1', p2, b1, ⟨by rw [p4, eR], by rw [b3, eRb]⟩, hG.same p3, hb.cg b3 (fun j hj => ?_), ⟨fun j hj => ?_, fun j hj => ?_, fun j hj => ?_⟩⟩
  · have d : Frd (mR M Rb j) (mR M R i) := by rw [eR, eRb]; exact (hsp i j (by omega) (by omega)).sym
    have f := hB.2.2.1.2.2.2.2.2 j (by omega)
    exact ⟨(q.num hB.1.2.1 f.2.1 d.t2.1).2.2, (q.num hB.1.2.1 f.2.2 d.t2.2).2.2, (q.frp hB.1.2.1 f.1).2 d.1⟩
  · rw [p4]
    by_cases c : j = i
    · rw [c]; exact ⟨Int.le_of_lt v1.2, v3, Int.lt_of_le_of_lt v1.1 v3⟩
    · obtain ⟨k1, k2, k3⟩ := hA.keep (j := j) (by omega) (by omega) c q
      rw [k1, k2]; exact ha.1 j (by omega)
  · rw [p4]
    by_cases c : j = i
    · rw [c]; exact v1
    · obtain ⟨k1, k2, k3⟩ := hA.keep (j := j) (by omega) (by omega) c q
      rw [k1, k2]; exact ha.2.1 j (by omega)
  · rw [p4]
    by_cases c : j = i
    · rw [c]; exact t2
    · obtain ⟨k1, k2, k3⟩ := hA.keep (j := j) (by omega) (by omega) c q
      rw [k3]; exact ha.2.2 j (by omega)
/-- a step of the Scales alone -/
theorem mv_pk (h : MvI L W z g a R k b Rb kb cn cc bc M0 i M) (hic : i ≤ cn) (hcn : cn ≤ k) (hcb : cn ≤ kb) (q : NL L W (Tpk z) (Ipk z) True z M M') (sk : SK L M' z) : MvI L W z g a R k b Rb kb cn cc bc M0 i M' := by
  obtain ⟨hN, hA, hB, ⟨eR, eRb⟩, hG, hb, ha⟩ := h
  have q' : NL L W (Tmv z M0 R cn) (Imv z M0 R cn) True z M M' := q.mono hA.1.2.1 (fun t ht => Or.inl ht) hN.2.1.1 (fun x hx => Or.inl hx) (fun x hx => by
    have := hN.2.1.2.1 x hx
    exact ⟨Nat.lt_of_lt_of_le this.1 hN.2.2.1.1.1, by rw [hN.kind this.1]; exact this.2⟩) (fun e => e)
  obtain ⟨a1, a2, a3⟩ := hA.nl q sk (fun x e => (hA.1.2.2.ipk x e).2)
  obtain ⟨b1, b2, b3⟩ := hB.nl q sk (fun x e => (hA.1.2.2.ipk x e).2)
  have kp : ∀ {f : Nat}, FrL L M f → Rap z f → nv M' (f + 1) = nv M (f + 1) ∧ nv M' (f + 3) = nv M (f + 3) ∧ mI M' f = mI M f := fun hf hr => ⟨(q.num hA.1.2.1 hf.2.1 hr.pk.1).2.2, (q.num hA.1.2.1 hf.2.2 hr.pk.2.1).2.2, (q.frp hA.1.2.1 hf.1).2 hr.pk.2.2⟩
  exact ⟨hN.trans q', a1, b1, ⟨by rw [a3, eR], by rw [b3, eRb]⟩, hG.same a2, hb.cg b3 (fun j hj => kp (hB.2.2.1.2.2.2.2.2 j (by omega)) (hB.2.2.2.1 j (by omega))), ha.cg a3 (fun j hj => kp (hA.2.2.1.2.2.2.2.2 j (by omega)) (hA.2.2.2.1 j (by omega)))⟩
theorem tre_pk (hw : Ipk z w) {x : Nat} (hx : Tre z w x) : Tpk z x := by
  rcases hx with u | u
  · exact Or.inl u
  · rcases hw with e | e <;> rw [e] at u
    · exact Or.inr (Or.inr (Or.inr (Or.inl u)))
    · exact Or.inr (Or.inr (Or.inr (Or.inr u)))
theorem pw480 : (2 : Int) ^ 480 = 2 ^ (30 * 16) := by rw [show 30 * 16 = 480 by decide]
/-- the numbers on their way: n9 are those after the move -/
def MvX (g Rb R cn : Nat) (n9 : Nat → Rat) (M0 : mM) (i : Nat) (M : mM) : Prop := (∀ j, j ≤ 9 → mI M (g + j) = mI M0 (g + j)) ∧ (∀ j, j < cn → rwv M Rb j = rwv M0 Rb j) ∧ ∀ j, j < i → rwv M R j = n9 j
theorem mvx_row {n9 : Nat → Rat} (hx : MvX g Rb R cn n9 M0 i M) (h : MvI L W z g a R k b Rb kb cn cc bc M0 i M) (hi : i < cn) (hcn : cn ≤ k) (hcb : cn ≤ kb) (hsp : Rsp M0 R k Rb kb) (q : NL L W (T2 (mR M R i)) (fun x => x = mR M R i) False z M M') (e : rwv M' R i = n9 i) : MvX g Rb R cn n9 M0 (i + 1) M' := by
  obtain ⟨hN, hA, hB, ⟨eR, eRb⟩, hG, hb, ha⟩ := h
  obtain ⟨p1, p2, p3, p4⟩ := hA.row hi hcn q
  obtain ⟨b1, b2, b3⟩ := hB.nl p1 p2.1.2.2 (fun x e => (hA.irw hcn x e).2)
  refine ⟨fun j hj => by rw [p3 j hj, hx.1 j hj], fun j hj => ?_, fun j hj => ?_⟩
  · rw [← hx.2.1 j hj]
    have d : Frd (mR M Rb j) (mR M R i) := by rw [eR, eRb]; exact (hsp i j (by omega) (by omega)).sym
    have f := hB.2.2.1.2.2.2.2.2 j (by omega)
    exact rwv_cg b3 (q.num hB.1.2.1 f.2.1 d.t2.1).2.2 (q.num hB.1.2.1 f.2.2 d.t2.2).2.2
  · by_cases c : j = i
    · rw [c]; exact e
    · obtain ⟨k1, k2, k3⟩ := hA.keep (j := j) (by omega) (by omega) c q
      rw [← hx.2.2 j (by omega)]
      exact rwv_cg p4 k1 k2
theorem mvx_pk {n9 : Nat → Rat} (hx : MvX g Rb R cn n9 M0 i M) (h : MvI L W z g a R k b Rb kb cn cc bc M0 i M) (hic : i ≤ cn) (hcn : cn ≤ k) (hcb : cn ≤ kb) (q : NL L W (Tpk z) (Ipk z) True z M M') (sk : SK L M' z) : MvX g Rb R cn n9 M0 i M' := by
  obtain ⟨hN, hA, hB, ⟨eR, eRb⟩, hG, hb, ha⟩ := h
  obtain ⟨a1, a2, a3⟩ := hA.nl q sk (fun x e => (hA.1.2.2.ipk x e).2)
  obtain ⟨b1, b2, b3⟩ := hB.nl q sk (fun x e => (hA.1.2.2.ipk x e).2)
  have kp : ∀ {f : Nat}, FrL L M f → Rap z f → nv M' (f + 1) = nv M (f + 1) ∧ nv M' (f + 3) = nv M (f + 3) := fun hf hr => ⟨(q.num hA.1.2.1 hf.2.1 hr.pk.1).2.2, (q.num hA.1.2.1 hf.2.2 hr.pk.2.1).2.2⟩
  refine ⟨fun j hj => by rw [a2 j hj, hx.1 j hj], fun j hj => ?_, fun j hj => ?_⟩
  · rw [← hx.2.1 j hj]
    obtain ⟨k1, k2⟩ := kp (hB.2.2.1.2.2.2.2.2 j (by omega)) (hB.2.2.2.1 j (by omega))
    exact rwv_cg b3 k1 k2
  · rw [← hx.2.2 j hj]
    obtain ⟨k1, k2⟩ := kp (hA.2.2.1.2.2.2.2.2 j (by omega)) (hA.2.2.2.1 j (by omega))
    exact rwv_cg a3 k1 k2
/-- n9 are the numbers after one more move -/
def nxH (M : mM) (g Rb cn : Nat) (n9 : Nat → Rat) : Prop := ∀ j, j < cn → (mI M (g + 4) j = mI M (g + 4) (j + 1) → n9 j = rwv M Rb j) ∧ ∀ x y : Nat, mI M (g + 4) j = ((x : Nat) : Int) → mI M (g + 4) (j + 1) = ((y : Nat) : Int) → x < y → n9 j = bst9 (mI M (g + 2) j = 1) (fun i => wr9 (rwv M Rb) (cmm M g (x + i))) (y - 1 - x)
theorem nxH.same {n9 : Nat → Rat} (h : nxH M g Rb cn n9) (hG : GTT M g cn cc bc) (e : ∀ j, j ≤ 9 → mI M' (g + j) = mI M (g + j)) (ev : ∀ j, j < cn → rwv M' Rb j = rwv M Rb j) : nxH M' g Rb cn n9 := fun j hj => by
  refine ⟨fun u => by rw [ev j hj]; exact (h j hj).1 (by rw [← e 4 (by decide)]; exact u), fun x y u1 u2 u3 => ?_⟩
  rw [e 4 (by decide)] at u1 u2
  rw [(h j hj).2 x y u1 u2 u3, e 2 (by decide)]
  refine bst_cg _ (fun i hi => ?_)
  obtain ⟨x', y', g1, g2, g3, g4⟩ := hG.2.2.1 j hj
  rw [cmm_same e]
  exact wr_cg (fun b hb => (ev _ (cmm_lt (hG.2.1 (x + i) (by omega)) b hb)).symm)
/-- rows that are right fit -/
theorem Rok.fit (h : Rok M R n) (hi : i < n) (c : 0 ≤ nv M (mR M R i + 1)) : ft9 (rwv M R i) := by
  obtain ⟨a1, a2, a3⟩ := h.1 i hi
  obtain ⟨b1, b2⟩ := h.2.1 i hi
  have e := rwv_mul b2
  rw [← pw480] at a2 a3
  exact ⟨nv M (mR M R i + 1), nv M (mR M R i + 3), ⟨c, b2⟩, ⟨a3, a2⟩, e.symm⟩
/-- what a move leaves behind -/
def movQ (L : List Nat) (W : Nat → Nat) (z g a R k b Rb kb cn cc bc : Nat) (n9 : Nat → Rat) (M0 : mM) (x : Int) (M' : mM) : Prop := (x = 0 ∨ x = 1) ∧ ∃ i, i ≤ cn ∧ MvI L W z g a R k b Rb kb cn cc bc M0 i M' ∧ (x ≠ 0 → i = cn) ∧ MvX g Rb R cn n9 M0 i M' ∧ (x = 0 → i < cn ∧ ¬ ft9 (n9 i))
theorem s_mv11 {n9 : Nat → Rat} (hn : nxH M0 g Rb cn n9) (hcn : cn ≤ k) (hcb : cn ≤ kb) (hk : k ≤ 512) (hkb : kb ≤ 512) (hsp : Rsp M0 R k Rb kb) (hW : ∀ x, Tpk z x → B ≤ W x) (b1 : 300 ≤ B) (hB : B ≤ 14000) (hWr : ∀ i, i < k → 16 ≤ W (mR M0 R i + 1) ∧ 16 ≤ W (mR M0 R i + 3)) : ∀ (t i : Nat) (M : mM), cn ≤ i + t → i ≤ cn → MvI L W z g a R k b Rb kb cn cc bc M0 i M → MvX g Rb R cn n9 M0 i M → h_Sc_move_11 G (d + 7) z g b a i M (movQ L W z g a R k b Rb kb cn cc bc n9 M0) := by
  intro t
  induction t with
  | zero =>
    intro i M h1 h2 hI hX
    have ei : i = cn := by omega
    subst ei
    obtain ⟨hN, hA, hB', -, hG, -⟩ := id hI
    refine k_Sc_move_11 hN.ok ⟨by omega, by omega⟩ ?_
    rw [hG.2.2.2]
    exact ⟨hA.2.1.1.1, fun _ => ⟨Or.inr rfl, i, Nat.le_refl _, hI, fun _ => rfl, hX, fun u => absurd u (by decide)⟩, fun u => absurd (Int.le_refl _) u⟩
  | succ t ih =>
    intro i M h1 h2 hI hX
    by_cases ei : i = cn
    · exact ih i M (by omega) h2 hI hX
    have hi : i < cn := by omega
    obtain ⟨hN, hA, hBt, ⟨eR, eRb⟩, hG, hb, ha⟩ := id hI
    obtain ⟨x, y, x1, y1, xy, yc⟩ := hG.2.2.1 i hi
    obtain ⟨⟨hO, hF, hS⟩, ⟨⟨g1, ⟨r2, r4, -⟩, kk, ⟨n2, n4, -⟩⟩, -⟩, ⟨t1, t2, t3, t4, -, t6⟩, ap, -⟩ := id hA
    obtain ⟨-, -, ⟨s1, s2, s3, s4, -, s6⟩, apb, -⟩ := id hBt
    have fa := t6 i (by omega)
    have fb := s6 i (by omega)
    have wr := hWr i (by omega)
    rw [← eR] at wr
    have dab : Frd (mR M R i) (mR M Rb i) := by rw [eR, eRb]; exact hsp i i (by omega) (by omega)
    obtain ⟨hc1, hc2, hc3⟩ := hG.1
    refine k_Sc_move_11 hN.ok ⟨by omega, by omega⟩ ?_
    rw [hG.2.2.2, r4, n4, Int.toNat_natCast, show Int.toNat ((i : Int) + 1) = i + 1 by first | rfl | omega, x1, y1, t2, t4, s2, s4, r2, n2, show ((i : Int) + 1) = ((i + 1 : Nat) : Int) by first | rfl | omega]
    refine ⟨g1, fun u => absurd u (by omega), fun _ => ⟨kk 4 (by decide) (by decide), ⟨by omega, by omega⟩, ⟨by omega, by omega⟩, fun ec => ⟨t1, t3, ⟨by omega, by omega⟩, s1, s3, ⟨by omega, by omega⟩, fa.1.1, ?_⟩, fun ne => ⟨kk 2 (by decide) (by decide), ⟨by omega, by omega⟩, fun v32 e32 => ⟨hS.1.1, ?_⟩⟩⟩⟩
    · obtain ⟨sb1, sb2, sb3⟩ := hb.1 i hi
      have z1 := hF.szv fb.2.1 sb3
      have z3 := hF.szv fb.2.2 sb2
      refine (f_Fr_put1 (d := d + 5) hO hF fa fb dab.1 dab.2.1 dab.2.2 hS.z9 (by omega) (by omega)).mono (fun M26 q => ?_)
      obtain ⟨q1, q2, q3, q4⟩ := q
      have p4 := (hA.row hi hcn q1).2.2.2
      have er : rwv M26 R i = n9 i := by
        rw [(hn i hi).1 (by rw [← hX.1 4 (by decide), x1, y1, ec]), ← hX.2.1 i hi]
        unfold rwv
        rw [p4, q2, q3]
      refine ⟨q1.ok, ih (i + 1) M26 (by omega) (by omega) (mv_row hI hi hcn hcb hsp q1 (by rw [q3]; exact sb2) (by rw [q2, q3]; exact hb.2.1 i hi) (by rw [q4]; exact hb.2.2 i hi)) (mvx_row hX hI hi hcn hcb hsp q1 er)⟩
    · have v01 : i32 v32 := by rw [e32]; split <;> exact ⟨by decide, by decide⟩
      refine (f_pickX (d := d + 1) (S := 16) (B := B) v01 (hBt.pe hcb) hb.1 hW (by omega) (by omega) (show x < y by omega) (by omega) hc1 hc3 (fun c _ hc => hG.2.1 c (by omega))).mono (fun x39 M38 q => ?_)
      obtain ⟨⟨q1, q2, q3, q4, q5⟩, q6⟩ := q
      have q7 : fq9 M38 (mR M38 z 9) = n9 i := by
        rw [q6 hb.2.1, (hn i hi).2 x y (by rw [← hX.1 4 (by decide)]; exact x1) (by rw [← hX.1 4 (by decide)]; exact y1) (by omega)]
        unfold pkv
        have ep : (v32 ≠ 0) = (mI M0 (g + 2) i = 1) := propext ⟨fun w => by
          rw [← hX.1 2 (by decide)]
          refine Classical.byContradiction (fun w2 => w ?_)
          rw [e32, if_neg w2], fun w => by
          rw [← hX.1 2 (by decide)] at w
          rw [e32, if_pos w]
          decide⟩
        rw [ep]
        refine bst_cg _ (fun j hj => ?_)
        rw [cmm_same hX.1]
        have cm := hG.2.1 (x + j) (by omega)
        have cm0 : cmdG M0 g cn bc (x + j) := cm.same (fun j hj => (hX.1 j hj).symm)
        exact wr_cg (fun b hb => hX.2.1 _ (cmm_lt cm0 b hb))
      have I38 := mv_pk hI (by omega) hcn hcb q1 q2
      have X38 := mvx_pk hX hI (by omega) hcn hcb q1 q2
      obtain ⟨i9, i10, -⟩ := q2.bt
      have fw := q2.frl i9
      have F38 := q1.nf
      have z1 := F38.szv fw.2.1 q3.2.1
      have z3 := F38.szv fw.2.2 q3.1.2
      have nt4 : ¬ T4 z (mR M38 z 9 + 1) ∧ ¬ T4 z (mR M38 z 9 + 3) := by
        unfold T4
        rcases i9 with e | e <;> rw [e] <;> omega
      refine ⟨⟨by omega, by omega⟩, q1.ok, q2.1.1, (f_fits (d := d + 1) (s := 131) (t := mI M38 (mR M38 z 9) 2) ⟨q1.ok, F38, q2, fw⟩ nt4 rfl ⟨q3.2.2.1.1, by have := q3.2.2.1.2; omega⟩ (by omega) (by omega) (by decide) (fun x hx => by have := hW x (tre_pk i9 hx); omega)).mono (fun x43 M42 p => ?_)⟩
      obtain ⟨p1, p2, p3, p4, p5, p6, p7⟩ := p
      have sk42 := p1.sk F38 q2
      have p1' : NL L W (Tpk z) (Ipk z) True z M38 M42 := p1.mono F38 (fun t ht => tre_pk i9 ht) q2.tpk (fun x e => by rw [e]; exact i9) q2.ipk (fun e => e.elim)
      have I42 := mv_pk I38 (by omega) hcn hcb p1' sk42
      have X42 := mvx_pk X38 I38 (by omega) hcn hcb p1' sk42
      have V38 := (q3.2.2.2 hb.2.1).2
      have rz : mR M42 z = mR M38 z := (p1.2.2.1.2 z q2.1.2).2.2.2.1 (fun u => u.elim (fun u => (F38.nz q2.1.1 (q2.tpk z (tre_pk i9 u))).1 rfl) (fun u => u.2))
      refine ⟨m_b32 p4, p1.ok, fun e => ⟨Or.inl rfl, i, by omega, I42, fun u => absurd rfl u, X42, fun _ => ⟨hi, by rw [← q7]; exact (p7 V38).2 e⟩⟩, fun x0 => ?_⟩
      obtain ⟨-, hA2, -, ⟨eR2, -⟩, -⟩ := id I42
      obtain ⟨⟨o2, F2, S2⟩, -, ⟨u1, u2, u3, u4, -, u6⟩, ap2, -⟩ := id hA2
      have fa2 := u6 i (by omega)
      have fw2 := S2.frl i9
      have dw := (ap2 i (by omega)).fd i9
      have wr2 := hWr i (by omega)
      rw [← eR2] at wr2
      have b3 := p5 x0
      rw [pw480] at b3
      have b1' := p6 (q3.2.2.2 hb.2.1).1
      have b0' := p3 (q3.2.2.2 hb.2.1).2
      have y1 := F2.szv fw2.2.1 (Int.lt_of_le_of_lt b1' b3)
      have y3 := F2.szv fw2.2.2 b3
      rw [u2, u4, rz]
      refine ⟨u1, u3, ⟨by omega, by omega⟩, S2.1.1, fa2.1.1, (f_Fr_put1 (d := d + 5) o2 F2 fa2 fw2 dw.1 dw.2.1 dw.2.2 S2.z9 (by omega) (by omega)).mono (fun M52 q => ?_)⟩
      obtain ⟨j1, j2, j3, j4⟩ := q
      have r4 := (hA2.row hi hcn j1).2.2.2
      have er : rwv M52 R i = n9 i := by
        rw [← q7]
        unfold rwv fq9
        rw [r4, j2, j3]
        exact fv_of b0' (ic_ne (Int.mul_pos (show 0 < mI M38 (mR M38 z 9) 2 by have := q3.2.2.1.1; omega) V38)) (p7 V38).1
      exact ⟨j1.ok, ih (i + 1) M52 (by omega) (by omega) (mv_row I42 hi hcn hcb hsp j1 (by rw [j3]; exact b3) (by rw [j2, j3]; exact ⟨b1', b0'⟩) (by rw [j4]; exact p2)) (mvx_row X42 I42 hi hcn hcb hsp j1 er)⟩
/-- what a move leaves behind, growth and all -/
def moveQ (L : List Nat) (W : Nat → Nat) (z g a R k b Rb kb cn cc bc : Nat) (n9 : Nat → Rat) (M : mM) (x : Int) (M' : mM) : Prop := ∃ L' R' k' M1, Gw L W a M L' M1 ∧ Te L' W z g a R' k' M1 ∧ ((M1 = M ∧ L' = L ∧ R' = R ∧ k' = k) ∨ rvG L M R k L' M1 R' k') ∧ (cn ≤ k' ∧ k ≤ k' ∧ k' ≤ 512) ∧ (∀ i, i < k → mR M1 R' i = mR M R i) ∧ (∀ i, k ≤ i → i < k' → mR M1 R' i = mZ M + 1 + 5 * (i - k) ∧ mI M1 (mZ M + 1 + 5 * (i - k)) 2 = 1) ∧ movQ L' W z g a R' k' b Rb kb cn cc bc n9 M1 x M' ∧ ∀ j, j ≤ 9 → mI M1 (g + j) = mI M (g + j)
theorem f_move {n9 : Nat → Rat} (hn : nxH M g Rb cn n9) (hA : Te L W z g a R k M) (hB : Te L W z g b Rb kb M) (ab : b ≠ a) (hk : k ≤ 512) (hkb : kb ≤ 512) (hcb : cn ≤ kb) (hG : GTT M g cn cc bc) (hb : Rok M Rb cn) (hsp : Rsp M R k Rb kb) (hW : ∀ x, Tpk z x → B ≤ W x) (b1 : 300 ≤ B) (hB' : B ≤ 14000) (hWn : ∀ x, mZ M < x → 16 ≤ W x ∧ W x ≤ 20000) (hWr : ∀ i, i < k → 16 ≤ W (mR M R i + 1) ∧ 16 ≤ W (mR M R i + 3)) : Ci G y_Sc_move (d + 8) [vr z, vr g, vr b, vr a] M (moveQ L W z g a R k b Rb kb cn cc bc n9 M) := by
  refine k_Sc_move hA.1.1 ?_
  rw [hG.2.2.2]
  refine ⟨hA.2.1.1.1, hA.2.2.1.1, (f_Fs_reserve (d := d + 4) hA.1.1 hA.1.2.1 hA.2.2.1 hk hG.1.1 (fun x hx => by have := hWn x hx; omega)).mono (fun M3 q => ?_)⟩
  obtain ⟨L', R', k', gw, te, c, p1, p2, p3⟩ := rv_te hA q
  obtain ⟨teb, eRb⟩ := gw.te hB ab
  have k5 : k' ≤ 512 := by
    rcases p3 with ⟨-, -, -, e⟩ | ⟨-, e, -⟩ <;> omega
  have hm : ∀ {Q Q' : Int → mM → Prop}, h_Sc_move_11 G (d + 7) z g b a 0 M3 Q → (∀ x M', Q x M' → Q' x M') → h_Sc_move_11 G (d + 7) z g b a 0 M3 Q' := fun h hq => by
    unfold h_Sc_move_11 at h ⊢
    exact mWm.mono h (fun r M' k => by
      obtain ⟨x, e, t⟩ := k
      exact ⟨x, e, hq x M' t⟩)
  have sp : Rsp M3 R' k' Rb kb := fun i j hi hj => by
    rw [eRb]
    by_cases c1 : i < k
    · rw [p1 i c1]; exact hsp i j c1 hj
    · rw [(p2 i (by omega) hi).1]
      have := (hB.1.2.1.lt (hB.2.2.1.2.2.2.2.2 j hj).2.2).1
      unfold Frd
      omega
  have wr : ∀ i, i < k' → 16 ≤ W (mR M3 R' i + 1) ∧ 16 ≤ W (mR M3 R' i + 3) := fun i hi => by
    by_cases c1 : i < k
    · rw [p1 i c1]; exact hWr i c1
    · rw [(p2 i (by omega) hi).1]
      exact ⟨(hWn _ (by omega)).1, (hWn _ (by omega)).1⟩
  have rb3 : Rok M3 Rb cn := hb.cg eRb (fun i hi => by
    have f := hB.2.2.1.2.2.2.2.2 i (by omega)
    exact ⟨(gw.rf f.2.1).2.1, (gw.rf f.2.2).2.1, (gw.frl f).2⟩)
  have ev3 : ∀ j, j < cn → rwv M3 Rb j = rwv M Rb j := fun j hj => by
    have f := hB.2.2.1.2.2.2.2.2 j (by omega)
    exact rwv_cg eRb (gw.rf f.2.1).2.1 (gw.rf f.2.2).2.1
  have hn3 := hn.same hG (gw.gk hA.2.1).2 ev3
  have tL : ∀ t, Tmv z M3 R' cn t → t ∈ L' := fun t ht => ht.elim (te.1.2.2.tpk t) (te.trw c.1 t)
  have iL : ∀ x, Imv z M3 R' cn x → x < mZ M3 ∧ mK M3 x = 11 := fun x hx => hx.elim (te.1.2.2.ipk x) (te.irw c.1 x)
  refine ⟨gw.1, hm (s_mv11 (d := d) (B := B) hn3 c.1 hcb k5 hkb sp hW b1 hB' wr cn 0 M3 (by omega) (by omega) ⟨NL.refl gw.1 gw.2.1.2 tL iL te.1.2.2.z9, te, teb, ⟨rfl, rfl⟩, hG.same (gw.gk hA.2.1).2, rb3, fun i hi => absurd hi (by omega), fun i hi => absurd hi (by omega), fun i hi => absurd hi (by omega)⟩ ⟨fun _ _ => rfl, fun _ _ => rfl, fun j hj => absurd hj (by omega)⟩) (fun x M' q' => ⟨L', R', k', M3, gw, te, p3, ⟨c.1, c.2, k5⟩, p1, p2, q', (gw.gk hA.2.1).2⟩)⟩
end NBH
end
section
/-! The Residues: inverses, rows. -/
section NBI
variable {G : mG} {d e n m i k rows : Nat} {M M0 M' M1 M2 M3 : mM} {P a b x y X Y : Int}
/-- on the way to an inverse -/
def InvI (P a b x y : Int) : Prop := (0 ≤ a ∧ a ≤ P) ∧ (0 ≤ b ∧ b ≤ P) ∧ ∃ X Y, (0 ≤ X ∧ X ≤ P) ∧ (0 ≤ Y ∧ Y ≤ P) ∧ ((x = X ∧ y = -Y) ∨ (x = -X ∧ y = Y)) ∧ a * Y + b * X = P
theorem inv_st (h : InvI P a b x y) (hb : 0 < b) : InvI P b (a - a / b * b) y (x - a / b * y) := by
  obtain ⟨⟨a0, a1⟩, ⟨b0, b1⟩, X, Y, ⟨X0, X1⟩, ⟨Y0, Y1⟩, s, e⟩ := h
  have q0 : 0 ≤ a / b := Int.ediv_nonneg a0 b0
  have r0 : 0 ≤ a - a / b * b := by have := Int.ediv_mul_le a (show b ≠ 0 by omega); omega
  have r1 : a - a / b * b < b := by have := Int.lt_ediv_add_one_mul_self a hb; rw [Int.add_mul, Int.one_mul] at this; omega
  have qY := Int.mul_nonneg q0 Y0
  generalize a / b = q at *
  have e' : b * (X + q * Y) + (a - q * b) * Y = P := by
    rw [Int.mul_add, Int.sub_mul, Int.mul_assoc, Int.mul_left_comm b q Y]
    have : b * X = b * X := rfl
    omega
  have rY := Int.mul_nonneg r0 Y0
  have bX := Int.mul_le_mul_of_nonneg_right (show 1 ≤ b by omega) (show 0 ≤ X + q * Y by omega)
  refine ⟨⟨b0, b1⟩, ⟨r0, by omega⟩, Y, X + q * Y, ⟨Y0, Y1⟩, ⟨by omega, by omega⟩, ?_, e'⟩
  rcases s with ⟨s1, s2⟩ | ⟨s1, s2⟩
  · refine Or.inr ⟨s2, ?_⟩
    rw [s1, s2, Int.mul_neg]
    omega
  · refine Or.inl ⟨s2, ?_⟩
    rw [s1, s2]
    omega
theorem InvI.bd (h : InvI P a b x y) (hP : P < 1073741824) : (i64 a ∧ i64 b ∧ i64 x ∧ i64 y) ∧ (-P ≤ x ∧ x ≤ P) := by
  obtain ⟨⟨a0, a1⟩, ⟨b0, b1⟩, X, Y, ⟨X0, X1⟩, ⟨Y0, Y1⟩, s, -⟩ := h
  unfold i64
  omega
theorem s_Re_inverse {v : Int} (hv : 0 ≤ v ∧ v ≤ P) (hP : 0 < P ∧ P < 1073741824) (hO : mOk M) : Ci G y_Re_inverse d [vi v, vi P] M (fun r M' => M' = M ∧ 0 ≤ r ∧ r ≤ P) := by
  refine k_Re_inverse hO ⟨by omega, by omega⟩ ⟨by omega, by omega⟩ ?_
  suffices HH : ∀ (t i : Nat) (a b x y : Int), 100 ≤ i + t → i ≤ 100 → InvI P a b x y → h_Re_inverse_16 G d P a b x y i M (fun r M' => M' = M ∧ 0 ≤ r ∧ r ≤ P) from
    HH 100 0 v P 1 0 (by omega) (by omega) ⟨hv, ⟨by omega, by omega⟩, 1, 0, ⟨by omega, by omega⟩, ⟨by omega, by omega⟩, Or.inl ⟨rfl, rfl⟩, by omega⟩
  have fin : ∀ {a b x y : Int}, InvI P a b x y → ∀ v7 : Int, v7 = (if (0 ≤ cmpL x 0) then x else x + P) → M = M ∧ 0 ≤ v7 ∧ v7 ≤ P := fun {a b x y} h v7 e7 => by
    have := h.bd hP.2
    have c : (0 ≤ cmpL x 0) ↔ 0 ≤ x := by
      unfold cmpL; split
      · constructor <;> intro h <;> omega
      · split <;> constructor <;> intro h <;> omega
    refine ⟨rfl, ?_⟩
    by_cases u : 0 ≤ cmpL x 0
    · rw [if_pos u] at e7
      have := c.1 u
      omega
    · rw [if_neg u] at e7
      have : ¬ 0 ≤ x := fun w => u (c.2 w)
      omega
  intro t
  induction t with
  | zero =>
    intro i a b x y h1 h2 hI
    obtain ⟨⟨b1, b2, b3, b4⟩, -⟩ := hI.bd hP.2
    exact k_Re_inverse_16 hO ⟨by omega, by omega⟩ b1 b2 b3 b4 ⟨by omega, by omega⟩ ⟨fun _ => fin hI, fun u => absurd (Or.inl (by omega)) u⟩
  | succ t ih =>
    intro i a b x y h1 h2 hI
    obtain ⟨⟨b1, b2, b3, b4⟩, -⟩ := hI.bd hP.2
    refine k_Re_inverse_16 hO ⟨by omega, by omega⟩ b1 b2 b3 b4 ⟨by omega, by omega⟩ ⟨fun _ => fin hI, fun u => ?_⟩
    have b0 : b ≠ 0 := fun w => u (Or.inr (j_c0.2 w))
    have a0 := hI.1.1
    have bb := hI.2.1.1
    rw [Int.tdiv_eq_ediv_of_nonneg a0, show ((i : Int) + 1) = ((i + 1 : Nat) : Int) by first | rfl | omega]
    exact ⟨b0, ih (i + 1) _ _ _ _ (by omega) (by omega) (inv_st hI (by omega))⟩
/-- the Residues' tables -/
def Rk (M : mM) (e : Nat) : Prop := mK M e = 12 ∧ (mR M e 0 = e + 1 ∧ mR M e 1 = e + 2 ∧ mR M e 2 = e + 3 ∧ mR M e 3 = e + 4 ∧ mR M e 4 = e + 5 ∧ mR M e 5 = e + 6 ∧ mR M e 6 = e + 7) ∧ (mK M (e + 1) = 30 ∧ mK M (e + 2) = 34 ∧ mK M (e + 3) = 30 ∧ mK M (e + 4) = 30 ∧ mK M (e + 5) = 30 ∧ mK M (e + 6) = 30) ∧ (mN M (e + 1) = 1640 ∧ mN M (e + 2) = 41 ∧ mN M (e + 3) = 1640 ∧ mN M (e + 4) = 40 ∧ mN M (e + 5) = 41 ∧ mN M (e + 6) = 41)
theorem Rk.fi {S : Nat → Prop} (h : Rk M e) (f : FI S M M') : Rk M' e := by
  unfold Rk at h ⊢
  rw [f.1, f.2.1, f.2.2.1]
  exact h
/-- residues in the table -/
def Wk9 (M : mM) (e : Nat) (P : Int) (N : Nat) : Prop := ∀ j, j < N → 0 ≤ mI M (e + 3) j ∧ mI M (e + 3) j < P
theorem wk_ui {j N : Nat} {v : Int} (h : Wk9 M e P N) (hv : 0 ≤ v ∧ v < P) (q : M' = mUI M (e + 3) j v) : Wk9 M' e P N := fun i hi => by
  rw [mI_ui _ i q]
  by_cases c : e + 3 = e + 3 ∧ i = j
  · rw [if_pos c]; exact hv
  · rw [if_neg c]; exact h i hi
theorem s_Re_swapRows {N p q : Nat} (hP : P < 1073741824) (h : Rk M e) (hw : Wk9 M e P N) (hN : N ≤ 1640) (hp : p + 41 ≤ N) (hq : q + 41 ≤ N) (hO : mOk M) : Cv G y_Re_swapRows d [vr e, vi p, vi q] M (fun M' => mOk M' ∧ FI (fun x => x = e + 3) M M' ∧ Wk9 M' e P N) := by
  refine k_Re_swapRows hO ⟨by omega, by omega⟩ ⟨by omega, by omega⟩ ?_
  suffices HH : ∀ (t i : Nat) (M1 : mM), 41 ≤ i + t → i ≤ 41 → mOk M1 → FI (fun x => x = e + 3) M M1 → Wk9 M1 e P N → h_Re_swapRows_2 G d e p q i M1 (fun M' => mOk M' ∧ FI (fun x => x = e + 3) M M' ∧ Wk9 M' e P N) from HH 41 0 M (by omega) (by omega) hO FI.refl hw
  intro t
  induction t with
  | zero =>
    intro i M1 h1 h2 o F w
    exact k_Re_swapRows_2 o ⟨by omega, by omega⟩ ⟨by omega, by omega⟩ ⟨by omega, by omega⟩ ⟨fun _ => ⟨o, F, w⟩, fun u => absurd (by omega) u⟩
  | succ t ih =>
    intro i M1 h1 h2 o F w
    refine k_Re_swapRows_2 o ⟨by omega, by omega⟩ ⟨by omega, by omega⟩ ⟨by omega, by omega⟩ ⟨fun _ => ⟨o, F, w⟩, fun u => ?_⟩
    have k1 := h.fi F
    have r2 := k1.2.1.2.2.1
    have n3 := k1.2.2.2.2.2.1
    have c3 := k1.2.2.1.2.2.1
    have wp := w (p + i) (by omega)
    have wq := w (q + i) (by omega)
    rw [r2, n3, show ((p : Nat) : Int) + ((i : Nat) : Int) = ((p + i : Nat) : Int) by first | rfl | omega, show ((q : Nat) : Int) + ((i : Nat) : Int) = ((q + i : Nat) : Int) by first | rfl | omega, Int.toNat_natCast, Int.toNat_natCast]
    refine ⟨k1.1, c3, ⟨by omega, by omega⟩, ⟨by omega, by omega⟩, ⟨by omega, by omega⟩, fun M8 e8 => ?_⟩
    have f8 : FI (fun x => x = e + 3) M1 M8 := by rw [e8]; exact FI.ui rfl
    rw [f8.1, f8.2.1, f8.2.2.1, r2, n3]
    refine ⟨c3, ⟨by omega, by omega⟩, fun M12 e12 => ?_⟩
    have f12 : FI (fun x => x = e + 3) M8 M12 := by rw [e12]; exact FI.ui rfl
    rw [show ((i : Int) + 1) = ((i + 1 : Nat) : Int) by first | rfl | omega]
    exact ih (i + 1) M12 (by omega) (by omega) (by rw [e12]; exact mOk_UI (by rw [e8]; exact mOk_UI o ⟨by omega, by omega⟩) ⟨by omega, by omega⟩) ((F.trans f8).trans f12) (wk_ui (wk_ui w wq e8) wp e12)
theorem tm_b {x : Int} (hx : 0 ≤ x) (hP : 0 < P) : Int.tmod x P = x % P ∧ 0 ≤ x % P ∧ x % P < P := ⟨Int.tmod_eq_emod_of_nonneg hx, Int.emod_nonneg _ (by omega), Int.emod_lt_of_pos _ hP⟩
theorem pr_b {x y z : Int} (hP : P < 1073741824) (hx : 0 ≤ x ∧ x ≤ P) (hy : 0 ≤ y ∧ y ≤ P) (hz : 0 ≤ z ∧ z ≤ P) : 0 ≤ z + x * y ∧ i64 (z + x * y) := by
  have h1 := Int.mul_nonneg hx.1 hy.1
  have h2 : x * y ≤ 1073741824 * y := Int.mul_le_mul_of_nonneg_right (by omega) hy.1
  unfold i64
  omega
end NBI
end
section
/-! The Residues: elimination, substitution. -/
section NBJ
variable {G : mG} {d e n m i k rows : Nat} {M M0 M' M1 M2 M3 : mM} {P a b x y X Y : Int}
/-- columns that are columns -/
def Co9 (M : mM) (e fl : Nat) : Prop := ∀ c, c < fl → 0 ≤ mI M (e + 5) c ∧ mI M (e + 5) c < 41
def S35 (e x : Nat) : Prop := x = e + 3 ∨ x = e + 5
/-- one row is cleared -/
theorem s_cb105 {k i fl N : Nat} {fa : Int} {Q : mM → Prop} (hP : 0 < P ∧ P < 1073741824) (h : Rk M e) (hk : k < rows) (hi : i < rows) (hr : rows ≤ 40) (hfl : fl ≤ 40) (eN : N = rows * 41) (hf : 0 ≤ fa ∧ fa ≤ P)
    (hQ : ∀ M', mOk M' → FI (S35 e) M M' → Wk9 M' e P N → Co9 M' e fl → h_Re_clearBelow_53 G d e k rows P fl ((i + 1 : Nat) : Int) M' Q) : ∀ (t c : Nat) (M1 : mM), fl ≤ c + t → c ≤ fl → mOk M1 → FI (S35 e) M M1 → Wk9 M1 e P N → Co9 M1 e fl → h_Re_clearBelow_105 G d e k rows P fl i fa c M1 Q := by
  intro t
  induction t with
  | zero =>
    intro c M1 h1 h2 o F w co
    rw [show ((i + 1 : Nat) : Int) = (i : Int) + 1 by first | rfl | omega] at hQ
    exact k_Re_clearBelow_105 o ⟨by omega, by omega⟩ ⟨by omega, by omega⟩ ⟨by omega, by omega⟩ ⟨by omega, by omega⟩ ⟨by omega, by omega⟩ ⟨by omega, by omega⟩ ⟨by omega, by omega⟩ ⟨fun _ => hQ M1 o F w co, fun u => absurd (by omega) u⟩
  | succ t ih =>
    intro c M1 h1 h2 o F w co
    refine k_Re_clearBelow_105 o ⟨by omega, by omega⟩ ⟨by omega, by omega⟩ ⟨by omega, by omega⟩ ⟨by omega, by omega⟩ ⟨by omega, by omega⟩ ⟨by omega, by omega⟩ ⟨by omega, by omega⟩ ⟨fun _ => ?_, fun u => ?_⟩
    · have := hQ M1 o F w co
      rw [show ((i + 1 : Nat) : Int) = (i : Int) + 1 by first | rfl | omega] at this
      exact this
    · have k1 := h.fi F
      obtain ⟨e0, ⟨-, -, r2, -, r4, -⟩, ⟨-, -, k3, -, k5, -⟩, ⟨-, -, n3, -, n5, -⟩⟩ := id k1
      obtain ⟨j, ej⟩ : ∃ j : Nat, mI M1 (e + 5) c = ((j : Nat) : Int) := ⟨(mI M1 (e + 5) c).toNat, by have := co c (by omega); omega⟩
      have jb := co c (by omega)
      rw [ej] at jb
      have w1 := w (i * 41 + j) (by omega)
      have w2 := w (k * 41 + j) (by omega)
      obtain ⟨p1, p2⟩ := pr_b hP.2 hf ⟨w2.1, by omega⟩ ⟨w1.1, by omega⟩
      obtain ⟨t1, t2, t3⟩ := tm_b p1 hP.1
      rw [r2, r4, n3, n5, Int.toNat_natCast, ej, show ((i : Nat) : Int) * 41 + ((j : Nat) : Int) = ((i * 41 + j : Nat) : Int) by first | rfl | omega, show ((k : Nat) : Int) * 41 + ((j : Nat) : Int) = ((k * 41 + j : Nat) : Int) by first | rfl | omega, Int.toNat_natCast, Int.toNat_natCast, t1]
      refine ⟨e0, k5, ⟨by omega, by omega⟩, k3, ⟨by omega, by omega⟩, ⟨by omega, by omega⟩, p2, by omega, ⟨by omega, by omega⟩, ⟨by omega, by omega⟩, fun M64 e64 => ?_⟩
      have f64 : FI (fun x => x = e + 3) M1 M64 := by rw [e64]; exact FI.ui rfl
      rw [show ((c : Int) + 1) = ((c + 1 : Nat) : Int) by first | rfl | omega]
      exact ih (c + 1) M64 (by omega) (by omega) (by rw [e64]; exact mOk_UI o ⟨by omega, by omega⟩) (F.trans (f64.mono (fun _ u => Or.inl u))) (wk_ui w ⟨t2, t3⟩ e64) (fun c' hc => by rw [f64.2.2.2.2.2.2 (e + 5) (show ¬ e + 5 = e + 3 by first | rfl | omega)]; exact co c' hc)
/-- the rows below -/
theorem s_cb53 {k fl N : Nat} (hP : 0 < P ∧ P < 1073741824) (h : Rk M e) (hk : k < rows) (hr : rows ≤ 40) (hfl : fl ≤ 40) (eN : N = rows * 41) (hv : 0 ≤ mI M (e + 4) k ∧ mI M (e + 4) k ≤ P) : ∀ (t i : Nat) (M1 : mM), rows ≤ i + t → i ≤ rows → mOk M1 → FI (S35 e) M M1 → Wk9 M1 e P N → Co9 M1 e fl → h_Re_clearBelow_53 G d e k rows P fl i M1 (fun M' => mOk M' ∧ FI (S35 e) M M' ∧ Wk9 M' e P N) := by
  intro t
  induction t with
  | zero =>
    intro i M1 h1 h2 o F w co
    exact k_Re_clearBelow_53 o ⟨by omega, by omega⟩ ⟨by omega, by omega⟩ ⟨by omega, by omega⟩ ⟨by omega, by omega⟩ ⟨by omega, by omega⟩ ⟨fun _ => ⟨o, F, w⟩, fun u => absurd (by omega) u⟩
  | succ t ih =>
    intro i M1 h1 h2 o F w co
    refine k_Re_clearBelow_53 o ⟨by omega, by omega⟩ ⟨by omega, by omega⟩ ⟨by omega, by omega⟩ ⟨by omega, by omega⟩ ⟨by omega, by omega⟩ ⟨fun _ => ⟨o, F, w⟩, fun u => ?_⟩
    have k1 := h.fi F
    obtain ⟨e0, ⟨-, -, r2, r3, -⟩, ⟨-, -, k3, k4, -⟩, ⟨-, -, n3, n4, -⟩⟩ := id k1
    have i4 : mI M1 (e + 4) = mI M (e + 4) := F.2.2.2.2.2.2 (e + 4) (fun u => by unfold S35 at u; omega)
    have w1 := w (i * 41 + k) (by omega)
    obtain ⟨p1, p2⟩ := pr_b hP.2 ⟨w1.1, Int.le_of_lt w1.2⟩ hv ⟨Int.le_refl 0, by omega⟩
    rw [Int.zero_add] at p1 p2
    obtain ⟨t1, t2, t3⟩ := tm_b p1 hP.1
    rw [r2, r3, n3, n4, i4, show ((i : Nat) : Int) * 41 + ((k : Nat) : Int) = ((i * 41 + k : Nat) : Int) by first | rfl | omega, Int.toNat_natCast, Int.toNat_natCast, t1, show ((i : Int) + 1) = ((i + 1 : Nat) : Int) by first | rfl | omega]
    refine ⟨e0, k3, ⟨by omega, by omega⟩, fun _ => ih (i + 1) M1 (by omega) (by omega) o F w co, fun _ => ⟨k4, ⟨by omega, by omega⟩, p2, by omega, ?_⟩⟩
    exact s_cb105 (M := M1) hP k1 hk (by omega) hr hfl eN ⟨by omega, by omega⟩ (fun M' o' F' w' co' => ih (i + 1) M' (by omega) (by omega) o' (F.trans F') w' co') fl 0 M1 (by omega) (by omega) o FI.refl w co
theorem s_Re_clearBelow {k N : Nat} (hP : 0 < P ∧ P < 1073741824) (h : Rk M e) (hk : k < rows) (hr : rows ≤ 40) (eN : N = rows * 41) (hv : 0 ≤ mI M (e + 4) k ∧ mI M (e + 4) k ≤ P) (hw : Wk9 M e P N) (hO : mOk M) : Cv G y_Re_clearBelow d [vr e, vi k, vi rows, vi P] M (fun M' => mOk M' ∧ FI (S35 e) M M' ∧ Wk9 M' e P N) := by
  refine k_Re_clearBelow hO ⟨by omega, by omega⟩ ⟨by omega, by omega⟩ ⟨by omega, by omega⟩ ?_
  suffices HH : ∀ (t j fl : Nat) (M1 : mM), 41 ≤ j + t → k + 1 ≤ j → j ≤ 41 → fl ≤ j - (k + 1) → mOk M1 → FI (S35 e) M M1 → Wk9 M1 e P N → Co9 M1 e fl → h_Re_clearBelow_8 G d e k rows P fl j M1 (fun M' => mOk M' ∧ FI (S35 e) M M' ∧ Wk9 M' e P N) from by
    rw [show ((k : Int) + 1) = ((k + 1 : Nat) : Int) by first | rfl | omega]
    exact HH 41 (k + 1) 0 M (by omega) (by omega) (by omega) (by omega) hO FI.refl hw (fun c hc => absurd hc (by omega))
  intro t
  induction t with
  | zero =>
    intro j fl M1 h1 h2 h3 h4 o F w co
    refine k_Re_clearBelow_8 o ⟨by omega, by omega⟩ ⟨by omega, by omega⟩ ⟨by omega, by omega⟩ ⟨by omega, by omega⟩ ⟨by omega, by omega⟩ ⟨fun _ => ?_, fun u => absurd (by omega) u⟩
    rw [show ((k : Int) + 1) = ((k + 1 : Nat) : Int) by first | rfl | omega]
    exact s_cb53 hP h hk hr (by omega) eN hv rows (k + 1) M1 (by omega) (by omega) o F w co
  | succ t ih =>
    intro j fl M1 h1 h2 h3 h4 o F w co
    refine k_Re_clearBelow_8 o ⟨by omega, by omega⟩ ⟨by omega, by omega⟩ ⟨by omega, by omega⟩ ⟨by omega, by omega⟩ ⟨by omega, by omega⟩ ⟨fun u => ?_, fun u => ?_⟩
    · rw [show ((k : Int) + 1) = ((k + 1 : Nat) : Int) by first | rfl | omega]
      exact s_cb53 hP h hk hr (by omega) eN hv rows (k + 1) M1 (by omega) (by omega) o F w co
    · have k1 := h.fi F
      obtain ⟨e0, ⟨-, -, r2, -, r4, -⟩, ⟨-, -, k3, -, k5, -⟩, ⟨-, -, n3, -, n5, -⟩⟩ := id k1
      rw [r2, r4, n3, n5, show ((k : Nat) : Int) * 41 + ((j : Nat) : Int) = ((k * 41 + j : Nat) : Int) by first | rfl | omega, Int.toNat_natCast, Int.toNat_natCast, show ((j : Int) + 1) = ((j + 1 : Nat) : Int) by first | rfl | omega]
      refine ⟨e0, k3, ⟨by omega, by omega⟩, fun _ => ⟨k5, by omega, by omega⟩, fun v15 e15 M16 e16 => ?_⟩
      by_cases c : mI M1 (e + 3) (k * 41 + j) = 0
      · rw [if_pos c] at e15 e16
        rw [e15, e16]
        exact ⟨o, ih (j + 1) fl M1 (by omega) (by omega) (by omega) (by omega) o F w co⟩
      · rw [if_neg c] at e15 e16
        have f16 : FI (fun x => x = e + 5) M1 M16 := by rw [e16]; exact FI.ui rfl
        have o16 : mOk M16 := by rw [e16]; exact mOk_UI o ⟨by omega, by omega⟩
        rw [e15, show ((fl : Int) + 1) = ((fl + 1 : Nat) : Int) by first | rfl | omega]
        refine ⟨o16, ih (j + 1) (fl + 1) M16 (by omega) (by omega) (by omega) (by omega) o16 (F.trans (f16.mono (fun _ u => Or.inr u))) (fun i hi => by rw [f16.2.2.2.2.2.2 (e + 3) (show ¬ e + 3 = e + 5 by first | rfl | omega)]; exact w i hi) (fun c' hc => ?_)⟩
        rw [mI_ui _ c' e16]
        by_cases c2 : c' = fl
        · rw [if_pos ⟨rfl, c2⟩]; omega
        · rw [if_neg (fun u => c2 u.2)]; exact co c' (by omega)
end NBJ
end
section
/-! The Residues: elimination and substitution, the whole. -/
section NBK
variable {G : mG} {d e n m i k rows : Nat} {M M0 M' M1 M2 M3 : mM} {P a b x y X Y : Int}
def S36 (e x : Nat) : Prop := x = e + 3 ∨ x = e + 4 ∨ x = e + 5 ∨ x = e + 6
/-- entries of equations -/
def Ent9 (M : mM) (e N : Nat) : Prop := ∀ j, j < N → -1000000000 ≤ mI M (e + 1) j ∧ mI M (e + 1) j ≤ 1000000000
def Iv9 (M : mM) (e : Nat) (P : Int) (k : Nat) : Prop := ∀ j, j < k → 0 ≤ mI M (e + 4) j ∧ mI M (e + 4) j ≤ P
def elQ (M : mM) (e rows : Nat) (P : Int) (x : Int) (M' : mM) : Prop := mOk M' ∧ FI (S36 e) M M' ∧ (x = 0 ∨ x = 1) ∧ (x ≠ 0 → Wk9 M' e P (rows * 41) ∧ Iv9 M' e P rows ∧ 0 ≤ mI M' (e + 6) rows ∧ mI M' (e + 6) rows ≤ P)
def elI (M : mM) (e rows : Nat) (P : Int) (k : Nat) (M1 : mM) : Prop := mOk M1 ∧ FI (S36 e) M M1 ∧ Wk9 M1 e P (rows * 41) ∧ Iv9 M1 e P k
theorem s_el125 {dt : Int} (hP : 1000000000 < P ∧ P < 1073741824) (h : Rk M e) (hr : rows ≤ 40) (hk : k < rows) (hd : 0 ≤ dt ∧ dt ≤ P) (hI : elI M e rows P k M1)
    (hQ : ∀ M' dt', elI M e rows P (k + 1) M' → 0 ≤ dt' ∧ dt' ≤ P → h_Re_eliminate_53 G d e rows P dt' ((k + 1 : Nat) : Int) M' (elQ M e rows P)) : h_Re_eliminate_125 G d e rows P dt k M1 (elQ M e rows P) := by
  obtain ⟨o, F, w, iv⟩ := hI
  have k1 := h.fi F
  obtain ⟨e0, ⟨-, -, r2, r3, -⟩, ⟨-, -, k3, k4, -⟩, ⟨-, -, n3, n4, -⟩⟩ := id k1
  have w1 := w (k * 41 + k) (by omega)
  obtain ⟨p1, p2⟩ := pr_b hP.2 hd ⟨w1.1, Int.le_of_lt w1.2⟩ ⟨Int.le_refl 0, by omega⟩
  rw [Int.zero_add] at p1 p2
  obtain ⟨t1, t2, t3⟩ := tm_b p1 (show 0 < P by omega)
  refine k_Re_eliminate_125 o ⟨by omega, by omega⟩ ⟨by omega, by omega⟩ ⟨by omega, by omega⟩ ⟨by omega, by omega⟩ ?_
  rw [r2, r3, n3, show ((k : Nat) : Int) * 41 + ((k : Nat) : Int) = ((k * 41 + k : Nat) : Int) by first | rfl | omega, Int.toNat_natCast, Int.toNat_natCast, t1, show ((k : Int) + 1) = ((k + 1 : Nat) : Int) by first | rfl | omega]
  refine ⟨e0, k3, ⟨by omega, by omega⟩, p2, by omega, ⟨by omega, by omega⟩, (s_Re_inverse (d := d) ⟨w1.1, Int.le_of_lt w1.2⟩ ⟨by omega, hP.2⟩ o).mono (fun x64 M63 q => ?_)⟩
  obtain ⟨e63, x0, x1⟩ := q
  rw [e63, n4]
  refine ⟨⟨by omega, by omega⟩, o, k4, ⟨by omega, by omega⟩, fun M68 e68 => ?_⟩
  have f68 : FI (fun x => x = e + 4) M1 M68 := by rw [e68]; exact FI.ui rfl
  have o68 : mOk M68 := by rw [e68]; exact mOk_UI o ⟨by omega, by omega⟩
  have k68 := k1.fi f68
  have w68 : Wk9 M68 e P (rows * 41) := fun j hj => by rw [f68.2.2.2.2.2.2 (e + 3) (show ¬ e + 3 = e + 4 by first | rfl | omega)]; exact w j hj
  have v68 : mI M68 (e + 4) k = x64 := by rw [mI_ui _ k e68, if_pos ⟨rfl, rfl⟩]
  have iv68 : Iv9 M68 e P (k + 1) := fun j hj => by
    rw [mI_ui _ j e68]
    by_cases c : j = k
    · rw [if_pos ⟨rfl, c⟩]; exact ⟨x0, x1⟩
    · rw [if_neg (fun u => c u.2)]; exact iv j (by omega)
  refine ⟨k68.1, (s_Re_clearBelow (d := d) ⟨by omega, hP.2⟩ k68 hk hr rfl (by rw [v68]; exact ⟨x0, x1⟩) w68 o68).mono (fun M71 q => ?_)⟩
  obtain ⟨o71, F71, w71⟩ := q
  refine ⟨o71, hQ M71 _ ⟨o71, (F.trans (f68.mono (fun _ u => Or.inr (Or.inl u)))).trans (F71.mono (fun _ u => u.elim Or.inl (fun u => Or.inr (Or.inr (Or.inl u))))), w71, fun j hj => ?_⟩ ⟨t2, Int.le_of_lt t3⟩⟩
  rw [F71.2.2.2.2.2.2 (e + 4) (fun u => by unfold S35 at u; omega)]
  exact iv68 j hj
theorem s_el63 {dt : Int} (hP : 1000000000 < P ∧ P < 1073741824) (h : Rk M e) (hr : rows ≤ 40) (hk : k < rows) (hd : 0 ≤ dt ∧ dt ≤ P) (hI : elI M e rows P k M1)
    (hQ : ∀ M' dt', elI M e rows P (k + 1) M' → 0 ≤ dt' ∧ dt' ≤ P → h_Re_eliminate_53 G (d + 1) e rows P dt' ((k + 1 : Nat) : Int) M' (elQ M e rows P)) : ∀ (t p : Nat), rows ≤ p + t → k ≤ p → p ≤ rows → h_Re_eliminate_63 G (d + 1) e rows P dt k p M1 (elQ M e rows P) := by
  obtain ⟨o, F, w, iv⟩ := id hI
  have k1 := h.fi F
  obtain ⟨e0, ⟨-, -, r2, -⟩, ⟨-, -, k3, -⟩, ⟨-, -, n3, -⟩⟩ := id k1
  intro t
  induction t with
  | zero =>
    intro p h1 h2 h3
    have ep : p = rows := by omega
    subst ep
    exact k_Re_eliminate_63 o ⟨by omega, by omega⟩ ⟨by omega, by omega⟩ ⟨by omega, by omega⟩ ⟨by omega, by omega⟩ ⟨by omega, by omega⟩ ⟨fun u => absurd (Int.le_refl _) u, fun _ => ⟨fun _ => ⟨o, F, Or.inl rfl, fun u => absurd rfl u⟩, fun u => absurd rfl u⟩, fun u => absurd (Or.inl (Int.le_refl _)) u⟩
  | succ t ih =>
    intro p h1 h2 h3
    refine k_Re_eliminate_63 o ⟨by omega, by omega⟩ ⟨by omega, by omega⟩ ⟨by omega, by omega⟩ ⟨by omega, by omega⟩ ⟨by omega, by omega⟩ ?_
    rw [r2, n3, show ((p : Nat) : Int) * 41 + ((k : Nat) : Int) = ((p * 41 + k : Nat) : Int) by first | rfl | omega, Int.toNat_natCast, show ((p : Int) + 1) = ((p + 1 : Nat) : Int) by first | rfl | omega]
    refine ⟨fun u => ⟨e0, k3, ⟨by omega, by omega⟩⟩, fun _ => ⟨fun _ => ⟨o, F, Or.inl rfl, fun u => absurd rfl u⟩, fun ne => ⟨fun _ => s_el125 hP h hr hk hd hI hQ, fun u => ⟨e0, ?_⟩⟩⟩, fun u => ?_⟩
    · rw [show ((p : Nat) : Int) * 41 = ((p * 41 : Nat) : Int) by first | rfl | omega, show ((k : Nat) : Int) * 41 = ((k * 41 : Nat) : Int) by first | rfl | omega]
      refine (s_Re_swapRows (d := d + 1) (N := rows * 41) hP.2 k1 w (by omega) (by omega) (by omega) o).mono (fun M50 q => ?_)
      obtain ⟨o50, F50, w50⟩ := q
      refine ⟨o50, s_el125 hP h hr hk ⟨by omega, by omega⟩ ⟨o50, F.trans (F50.mono (fun _ u => Or.inl u)), w50, fun j hj => ?_⟩ hQ⟩
      rw [F50.2.2.2.2.2.2 (e + 4) (show ¬ e + 4 = e + 3 by first | rfl | omega)]
      exact iv j hj
    · refine ih (p + 1) (by omega) (by omega) ?_
      by_cases c : (rows : Int) ≤ p
      · exact absurd (Or.inl c) u
      · omega
theorem s_el53 (hP : 1000000000 < P ∧ P < 1073741824) (h : Rk M e) (hr : rows ≤ 40) : ∀ (t k : Nat) (dt : Int) (M1 : mM), rows ≤ k + t → k ≤ rows → 0 ≤ dt ∧ dt ≤ P → elI M e rows P k M1 → h_Re_eliminate_53 G (d + 1) e rows P dt k M1 (elQ M e rows P) := by
  have fin : ∀ (k : Nat) (dt : Int) (M1 : mM), k = rows → 0 ≤ dt ∧ dt ≤ P → elI M e rows P k M1 → mK M1 e = 12 ∧ mK M1 (mR M1 e 5) = 30 ∧ ((0 : Int) ≤ rows ∧ (rows : Int) < (mN M1 (mR M1 e 5) : Int)) ∧ i32 dt ∧ ∀ M35, M35 = mUI M1 (mR M1 e 5) (Int.toNat rows) dt → elQ M e rows P 1 M35 := by
    intro k dt M1 ek hd hI
    obtain ⟨o, F, w, iv⟩ := hI
    have k1 := h.fi F
    obtain ⟨e0, ⟨-, -, -, -, -, r5, -⟩, ⟨-, -, -, -, -, k6⟩, ⟨-, -, -, -, -, n6⟩⟩ := id k1
    rw [r5, n6, Int.toNat_natCast]
    refine ⟨e0, k6, ⟨by omega, by omega⟩, ⟨by omega, by omega⟩, fun M35 e35 => ?_⟩
    have f35 : FI (fun x => x = e + 6) M1 M35 := by rw [e35]; exact FI.ui rfl
    refine ⟨by rw [e35]; exact mOk_UI o ⟨by omega, by omega⟩, F.trans (f35.mono (fun _ u => Or.inr (Or.inr (Or.inr u)))), Or.inr rfl, fun _ => ⟨fun j hj => by rw [f35.2.2.2.2.2.2 (e + 3) (show ¬ e + 3 = e + 6 by first | rfl | omega)]; exact w j hj, fun j hj => by rw [f35.2.2.2.2.2.2 (e + 4) (show ¬ e + 4 = e + 6 by first | rfl | omega)]; exact iv j (by omega), by rw [mI_ui _ rows e35, if_pos ⟨rfl, rfl⟩]; exact hd⟩⟩
  intro t
  induction t with
  | zero =>
    intro k dt M1 h1 h2 hd hI
    exact k_Re_eliminate_53 hI.1 ⟨by omega, by omega⟩ ⟨by omega, by omega⟩ ⟨by omega, by omega⟩ ⟨by omega, by omega⟩ ⟨fun _ => fin k dt M1 (by omega) hd hI, fun u => absurd (by omega) u⟩
  | succ t ih =>
    intro k dt M1 h1 h2 hd hI
    refine k_Re_eliminate_53 hI.1 ⟨by omega, by omega⟩ ⟨by omega, by omega⟩ ⟨by omega, by omega⟩ ⟨by omega, by omega⟩ ⟨fun u => fin k dt M1 (by omega) hd hI, fun u => ?_⟩
    exact s_el63 hP h hr (by omega) hd hI (fun M' dt' hI' hd' => ih (k + 1) dt' M' (by omega) (by omega) hd' hI') rows k (by omega) (Nat.le_refl _) (by omega)
theorem s_Re_eliminate (hP : 1000000000 < P ∧ P < 1073741824) (h : Rk M e) (hr : rows ≤ 40) (he : Ent9 M e (rows * 41)) (hO : mOk M) : Ci G y_Re_eliminate (d + 2) [vr e, vi rows, vi P] M (elQ M e rows P) := by
  refine k_Re_eliminate hO ⟨by omega, by omega⟩ ⟨by omega, by omega⟩ ?_
  suffices HH : ∀ (t i : Nat) (M1 : mM), rows * 41 ≤ i + t → i ≤ rows * 41 → mOk M1 → FI (S36 e) M M1 → Wk9 M1 e P i → h_Re_eliminate_2 G (d + 1) e rows P i M1 (elQ M e rows P) from HH (rows * 41) 0 M (by omega) (by omega) hO FI.refl (fun j hj => absurd hj (by omega))
  intro t
  induction t with
  | zero =>
    intro i M1 h1 h2 o F w
    have ei : i = rows * 41 := by omega
    subst ei
    refine k_Re_eliminate_2 o ⟨by omega, by omega⟩ ⟨by omega, by omega⟩ ⟨by omega, by omega⟩ ⟨⟨by omega, by omega⟩, fun _ => ?_, fun u => absurd (by omega) u⟩
    exact s_el53 hP h hr rows 0 1 M1 (by omega) (by omega) ⟨by omega, by omega⟩ ⟨o, F, w, fun j hj => absurd hj (by omega)⟩
  | succ t ih =>
    intro i M1 h1 h2 o F w
    by_cases ei : i = rows * 41
    · exact ih i M1 (by omega) h2 o F w
    have k1 := h.fi F
    obtain ⟨e0, ⟨r0, -, r2, -⟩, ⟨k0, -, k3, -⟩, ⟨n1, -, n3, -⟩⟩ := id k1
    have i1 : mI M1 (e + 1) = mI M (e + 1) := F.2.2.2.2.2.2 (e + 1) (fun u => by unfold S36 at u; omega)
    have en := he i (by omega)
    refine k_Re_eliminate_2 o ⟨by omega, by omega⟩ ⟨by omega, by omega⟩ ⟨by omega, by omega⟩ ?_
    rw [r0, r2, n1, n3, i1, Int.toNat_natCast, show ((i : Int) + 1) = ((i + 1 : Nat) : Int) by first | rfl | omega]
    refine ⟨⟨by omega, by omega⟩, fun u => absurd u (by omega), fun _ => ⟨e0, k0, ⟨by omega, by omega⟩, ⟨fun _ => ⟨by omega, by omega⟩, fun _ => ⟨by omega, by omega⟩⟩, fun v14 e14 => ?_⟩⟩
    have vb : 0 ≤ v14 ∧ v14 < P := by
      by_cases c : 0 ≤ mI M (e + 1) i
      · rw [if_pos c] at e14; omega
      · rw [if_neg c] at e14; omega
    refine ⟨k3, ⟨by omega, by omega⟩, ⟨by omega, by omega⟩, fun M20 e20 => ?_⟩
    have f20 : FI (fun x => x = e + 3) M1 M20 := by rw [e20]; exact FI.ui rfl
    refine ih (i + 1) M20 (by omega) (by omega) (by rw [e20]; exact mOk_UI o ⟨by omega, by omega⟩) (F.trans (f20.mono (fun _ u => Or.inl u))) (fun j hj => ?_)
    rw [mI_ui _ j e20]
    by_cases c : j = i
    · rw [if_pos ⟨rfl, c⟩]; exact vb
    · rw [if_neg (fun u => c u.2)]; exact w j (by omega)
end NBK
end
section
/-! The Residues: substitution, remainders put together, systems settled. -/
section NBL
variable {G : mG} {d e z n m i k rows B : Nat} {M M0 M' M1 M2 M3 : mM} {P a b x y X Y : Int} {L : List Nat} {W : Nat → Nat}
/-- residues from i on -/
def Rd9 (M : mM) (e : Nat) (P : Int) (i n : Nat) : Prop := ∀ j, i ≤ j → j ≤ n → 0 ≤ mI M (e + 6) j ∧ mI M (e + 6) j ≤ P
theorem s_su111 (hP : 1000000000 < P ∧ P < 1073741824) (h : Rk M e) (hr : rows ≤ 40) : ∀ (t i : Nat) (M1 : mM), rows ≤ i + t → i ≤ rows → mOk M1 → FI (fun x => x = e + 6) M M1 → Rd9 M1 e P 0 rows → h_Re_substitute_111 G d e rows P i M1 (fun M' => mOk M' ∧ FI (fun x => x = e + 6) M M' ∧ Rd9 M' e P 0 rows) := by
  intro t
  induction t with
  | zero =>
    intro i M1 h1 h2 o F r
    exact k_Re_substitute_111 o ⟨by omega, by omega⟩ ⟨by omega, by omega⟩ ⟨by omega, by omega⟩ ⟨fun _ => ⟨o, F, r⟩, fun u => absurd (by omega) u⟩
  | succ t ih =>
    intro i M1 h1 h2 o F r
    refine k_Re_substitute_111 o ⟨by omega, by omega⟩ ⟨by omega, by omega⟩ ⟨by omega, by omega⟩ ⟨fun _ => ⟨o, F, r⟩, fun u => ?_⟩
    obtain ⟨e0, ⟨-, -, -, -, -, r5, -⟩, ⟨-, -, -, -, -, k6⟩, ⟨-, -, -, -, -, n6⟩⟩ := h.fi F
    obtain ⟨p1, p2⟩ := pr_b hP.2 (r i (by omega) (by omega)) (r rows (by omega) (by omega)) ⟨Int.le_refl 0, by omega⟩
    rw [Int.zero_add] at p1 p2
    obtain ⟨t1, t2, t3⟩ := tm_b p1 (show 0 < P by omega)
    rw [r5, n6, Int.toNat_natCast, Int.toNat_natCast, t1, show ((i : Int) + 1) = ((i + 1 : Nat) : Int) by first | rfl | omega]
    refine ⟨e0, k6, ⟨by omega, by omega⟩, ⟨by omega, by omega⟩, p2, by omega, ⟨by omega, by omega⟩, ⟨by omega, by omega⟩, fun M64 e64 => ?_⟩
    have f64 : FI (fun x => x = e + 6) M1 M64 := by rw [e64]; exact FI.ui rfl
    refine ih (i + 1) M64 (by omega) (by omega) (by rw [e64]; exact mOk_UI o ⟨by omega, by omega⟩) (F.trans f64) (fun j h0 hj => ?_)
    rw [mI_ui _ j e64]
    by_cases c : e + 6 = e + 6 ∧ j = i
    · rw [if_pos c]; exact ⟨t2, Int.le_of_lt t3⟩
    · rw [if_neg c]; exact r j h0 hj
theorem s_su28 {Q : mM → Prop} (hP : 1000000000 < P ∧ P < 1073741824) (h : Rk M1 e) (hr : rows ≤ 40) (hi : i < rows) (o : mOk M1) (w : Wk9 M1 e P (rows * 41)) (iv : Iv9 M1 e P rows) (r : Rd9 M1 e P (i + 1) rows)
    (hQ : ∀ M30 v, 0 ≤ v ∧ v ≤ P → M30 = mUI M1 (e + 6) i v → h_Re_substitute_4 G d e rows P ((i : Int) + (-1)) M30 Q) : ∀ (t j : Nat) (s : Int), rows ≤ j + t → i + 1 ≤ j → j ≤ rows → 0 ≤ s ∧ s ≤ P → h_Re_substitute_28 G d e rows P i s j M1 Q := by
  obtain ⟨e0, ⟨-, -, r2, r3, -, r5, -⟩, ⟨-, -, k3, k4, -, k6⟩, ⟨-, -, n3, n4, -, n6⟩⟩ := id h
  have fin : ∀ (s : Int), 0 ≤ s ∧ s ≤ P → mK M1 e = 12 ∧ mK M1 (mR M1 e 3) = 30 ∧ ((0 : Int) ≤ i ∧ (i : Int) < (mN M1 (mR M1 e 3) : Int)) ∧ i64 (s * (mI M1 (mR M1 e 3) (Int.toNat i))) ∧ P ≠ 0 ∧ mK M1 (mR M1 e 5) = 30 ∧ ((0 : Int) ≤ i ∧ (i : Int) < (mN M1 (mR M1 e 5) : Int)) ∧ i32 (Int.tmod (s * (mI M1 (mR M1 e 3) (Int.toNat i))) P) ∧ ∀ M30, M30 = mUI M1 (mR M1 e 5) (Int.toNat i) (Int.tmod (s * (mI M1 (mR M1 e 3) (Int.toNat i))) P) → h_Re_substitute_4 G d e rows P ((i : Int) + (-1)) M30 Q := by
    intro s hs
    obtain ⟨p1, p2⟩ := pr_b hP.2 hs (iv i hi) ⟨Int.le_refl 0, by omega⟩
    rw [Int.zero_add] at p1 p2
    obtain ⟨t1, t2, t3⟩ := tm_b p1 (show 0 < P by omega)
    rw [r3, r5, n4, n6, Int.toNat_natCast, t1]
    exact ⟨e0, k4, ⟨by omega, by omega⟩, p2, by omega, k6, ⟨by omega, by omega⟩, ⟨by omega, by omega⟩, fun M30 e30 => hQ M30 _ ⟨t2, Int.le_of_lt t3⟩ e30⟩
  intro t
  induction t with
  | zero =>
    intro j s h1 h2 h3 hs
    exact k_Re_substitute_28 o ⟨by omega, by omega⟩ ⟨by omega, by omega⟩ ⟨by omega, by omega⟩ ⟨by omega, by omega⟩ ⟨by omega, by omega⟩ ⟨fun _ => fin s hs, fun u => absurd (by omega) u⟩
  | succ t ih =>
    intro j s h1 h2 h3 hs
    refine k_Re_substitute_28 o ⟨by omega, by omega⟩ ⟨by omega, by omega⟩ ⟨by omega, by omega⟩ ⟨by omega, by omega⟩ ⟨by omega, by omega⟩ ⟨fun _ => fin s hs, fun u => ?_⟩
    have w1 := w (i * 41 + j) (by omega)
    have rj := r j (by omega) (by omega)
    obtain ⟨p1, p2⟩ := pr_b hP.2 ⟨w1.1, Int.le_of_lt w1.2⟩ (show 0 ≤ P - mI M1 (e + 6) j ∧ P - mI M1 (e + 6) j ≤ P by omega) hs
    obtain ⟨t1, t2, t3⟩ := tm_b p1 (show 0 < P by omega)
    rw [r2, r5, n3, n6, show ((i : Nat) : Int) * 41 + ((j : Nat) : Int) = ((i * 41 + j : Nat) : Int) by first | rfl | omega, Int.toNat_natCast, Int.toNat_natCast, t1, show ((j : Int) + 1) = ((j + 1 : Nat) : Int) by first | rfl | omega]
    refine ⟨e0, k3, ⟨by omega, by omega⟩, fun _ => ⟨k6, ⟨by omega, by omega⟩, ⟨by omega, by omega⟩, p2, by omega⟩, fun v41 e41 => ih (j + 1) v41 (by omega) (by omega) (by omega) ?_⟩
    by_cases c : cmpL (mI M1 (e + 3) (i * 41 + j)) 0 = 0
    · rw [if_pos c] at e41; rw [e41]; exact hs
    · rw [if_neg c] at e41; rw [e41]; exact ⟨t2, Int.le_of_lt t3⟩
theorem s_Re_substitute (hP : 1000000000 < P ∧ P < 1073741824) (h : Rk M e) (hr : rows ≤ 40) (hw : Wk9 M e P (rows * 41)) (hiv : Iv9 M e P rows) (hd : 0 ≤ mI M (e + 6) rows ∧ mI M (e + 6) rows ≤ P) (hO : mOk M) : Cv G y_Re_substitute d [vr e, vi rows, vi P] M (fun M' => mOk M' ∧ FI (fun x => x = e + 6) M M' ∧ Rd9 M' e P 0 rows) := by
  refine k_Re_substitute hO ⟨by omega, by omega⟩ ⟨by omega, by omega⟩ ?_
  suffices HH : ∀ (i : Nat) (M1 : mM), i ≤ rows → mOk M1 → FI (fun x => x = e + 6) M M1 → Rd9 M1 e P i rows → h_Re_substitute_4 G d e rows P ((i : Int) - 1) M1 (fun M' => mOk M' ∧ FI (fun x => x = e + 6) M M' ∧ Rd9 M' e P 0 rows) from HH rows M (Nat.le_refl _) hO FI.refl (fun j h1 h2 => by rw [show j = rows by first | rfl | omega]; exact hd)
  intro i
  induction i with
  | zero =>
    intro M1 h2 o F r
    exact k_Re_substitute_4 o ⟨by omega, by omega⟩ ⟨by omega, by omega⟩ ⟨by omega, by omega⟩ ⟨fun _ => s_su111 hP h hr rows 0 M1 (by omega) (by omega) o F r, fun u => absurd (by omega) u⟩
  | succ i ih =>
    intro M1 h2 o F r
    have k1 := h.fi F
    obtain ⟨e0, ⟨-, -, r2, -⟩, ⟨-, -, k3, -⟩, ⟨-, -, n3, -⟩⟩ := id k1
    have w1 : Wk9 M1 e P (rows * 41) := fun j hj => by rw [F.2.2.2.2.2.2 (e + 3) (show ¬ e + 3 = e + 6 by first | rfl | omega)]; exact hw j hj
    have iv1 : Iv9 M1 e P rows := fun j hj => by rw [F.2.2.2.2.2.2 (e + 4) (show ¬ e + 4 = e + 6 by first | rfl | omega)]; exact hiv j hj
    have wi := w1 (i * 41 + 40) (by omega)
    refine k_Re_substitute_4 o ⟨by omega, by omega⟩ ⟨by omega, by omega⟩ ⟨by omega, by omega⟩ ⟨fun u => absurd u (by omega), fun _ => ?_⟩
    rw [show ((i + 1 : Nat) : Int) - 1 = ((i : Nat) : Int) by first | rfl | omega, r2, n3, show ((i : Nat) : Int) * 41 + 40 = ((i * 41 + 40 : Nat) : Int) by first | rfl | omega, Int.toNat_natCast, show ((i : Int) + 1) = ((i + 1 : Nat) : Int) by first | rfl | omega]
    refine ⟨e0, k3, ⟨by omega, by omega⟩, s_su28 hP k1 hr (by omega) o w1 iv1 r (fun M30 v hv e30 => ?_) rows (i + 1) _ (by omega) (Nat.le_refl _) (by omega) ⟨wi.1, Int.le_of_lt wi.2⟩⟩
    rw [show ((i : Nat) : Int) + (-1) = ((i : Nat) : Int) - 1 by first | rfl | omega]
    refine ih M30 (by omega) (by rw [e30]; exact mOk_UI o ⟨by omega, by omega⟩) (F.trans (by rw [e30]; exact FI.ui rfl)) (fun j h1 h3 => ?_)
    rw [mI_ui _ j e30]
    by_cases c : j = i
    · rw [if_pos ⟨rfl, c⟩]; exact hv
    · rw [if_neg (fun u => c u.2)]; exact r j (by omega) h3
/-- the Residues' places -/
def RsK (L : List Nat) (M : mM) (e : Nat) : Prop := Rk M e ∧ (∀ i, i ≤ 6 → Oc L M (e + i)) ∧ (∀ i, i < 41 → mR M (e + 2) i = e + 9 + 2 * i ∧ e + 9 + 2 * i ∈ L) ∧ e + 7 ∈ L
/-- the numbers of the Residues -/
def Trs (e x : Nat) : Prop := x = e + 7 ∨ ∃ i, i < 41 ∧ x = e + 9 + 2 * i
theorem RsK.tl (h : RsK L M e) : ∀ t, Trs e t → t ∈ L := fun t ht => by
  rcases ht with u | ⟨i, hi, u⟩
  · rw [u]; exact h.2.2.2
  · rw [u]; exact (h.2.2.1 i hi).2
theorem RsK.kd (h : RsK L M e) (hi : i ≤ 6) : mK M (e + i) ≠ 9 ∧ mK M (e + i) ≠ 11 := by
  obtain ⟨⟨k0, -, ⟨k1, k2, k3, k4, k5, k6⟩, -⟩, -⟩ := h
  rcases (show i = 0 ∨ i = 1 ∨ i = 2 ∨ i = 3 ∨ i = 4 ∨ i = 5 ∨ i = 6 by first | rfl | omega) with u | u | u | u | u | u | u <;> rw [u]
  · rw [Nat.add_zero, k0]; decide
  · rw [k1]; decide
  · rw [k2]; decide
  · rw [k3]; decide
  · rw [k4]; decide
  · rw [k5]; decide
  · rw [k6]; decide
/-- other cells under a change of numbers alone -/
theorem NC.oth {T : Nat → Prop} {x : Nat} (h : NC L W T M M') (hx : Oc L M x) : (mK M' x = mK M x ∧ mN M' x = mN M x ∧ mR M' x = mR M x ∧ mI M' x = mI M x) := by
  obtain ⟨-, h2, h3, h4, -⟩ := h
  obtain ⟨a1, a2, a3, a4, a5⟩ := h3.2 x hx.1
  refine ⟨a1, a2, a4 (fun u => hx.2.1 (h2 x u)), a5 ?_⟩
  rintro (u | ⟨t, ht, u⟩)
  · exact hx.2.1 (h2 x u)
  · exact hx.2.2 t (h2 t ht) u.symm
theorem NC.ocx {T : Nat → Prop} {x : Nat} (h : NC L W T M M') (hF : NF L W M) (hx : Oc L M x) : Oc L M' x := by
  refine ⟨Nat.lt_of_lt_of_le hx.1 h.2.2.1.1.1, hx.2.1, fun a ha u => ?_⟩
  by_cases c : T a
  · rcases h.2.2.2.1 a c with q | q
    · exact hx.2.2 a ha (by rw [← q]; exact u)
    · have := hx.1
      omega
  · rw [(h.num hF ha c).1] at u
    exact hx.2.2 a ha u
theorem RsK.nc {T : Nat → Prop} (h : RsK L M e) (k : NC L W T M M') (hF : NF L W M) : RsK L M' e ∧ ∀ i, i ≤ 6 → mI M' (e + i) = mI M (e + i) := by
  obtain ⟨⟨k0, r, ⟨k1, k2, k3, k4, k5, k6⟩, n⟩, o, p, q⟩ := h
  have c := fun i (hi : i ≤ 6) => k.oth (o i hi)
  have c0 := c 0 (by decide)
  rw [Nat.add_zero] at c0
  refine ⟨⟨⟨by rw [c0.1]; exact k0, by rw [c0.2.2.1]; exact r, ?_, ?_⟩, fun i hi => k.ocx hF (o i hi), fun i hi => by rw [(c 2 (by decide)).2.2.1]; exact p i hi, q⟩, fun i hi => (c i hi).2.2.2⟩
  · rw [(c 1 (by decide)).1, (c 2 (by decide)).1, (c 3 (by decide)).1, (c 4 (by decide)).1, (c 5 (by decide)).1, (c 6 (by decide)).1]
    exact ⟨k1, k2, k3, k4, k5, k6⟩
  · rw [(c 1 (by decide)).2.1, (c 2 (by decide)).2.1, (c 3 (by decide)).2.1, (c 4 (by decide)).2.1, (c 5 (by decide)).2.1, (c 6 (by decide)).2.1]
    exact n
end NBL
end
section
/-! The Residues: systems settled. -/
section NBM
variable {G : mG} {d e z n m i k rows B u bits x : Nat} {M M0 M' M1 M2 M3 : mM} {P a b y X Y : Int} {L : List Nat} {W : Nat → Nat}
/-- what the Residues may change -/
def NR (L : List Nat) (W : Nat → Nat) (e : Nat) (M M' : mM) : Prop := (mOk M' ∧ NF L W M') ∧ FA (fun x => nsS M (Trs e) x ∨ S36 e x) (Trs e) M M' ∧ (∀ t, Trs e t → mR M' t 0 = mR M t 0 ∨ mZ M ≤ mR M' t 0) ∧ RmN L M M'
theorem NR.ok (h : NR L W e M M') : mOk M' := h.1.1
theorem NR.nf (h : NR L W e M M') : NF L W M' := h.1.2
theorem NR.refl (hO : mOk M) (hF : NF L W M) : NR L W e M M := ⟨⟨hO, hF⟩, FA.refl, fun _ _ => Or.inl rfl, RmN.refl⟩
theorem NR.trans (h : NR L W e M M1) (k : NR L W e M1 M2) : NR L W e M M2 := by
  obtain ⟨-, h3, h4, h5⟩ := h
  obtain ⟨k1, k3, k4, k5⟩ := k
  refine ⟨k1, h3.trans2 k3 ?_ (fun _ _ y => y), fun t ht => ?_, h5.trans k5⟩
  · intro x hx u
    rcases u with (u | ⟨t, ht, u⟩) | u
    · exact Or.inl (Or.inl u)
    · rcases h4 t ht with q | q
      · exact Or.inl (Or.inr ⟨t, ht, by rw [u, q]⟩)
      · omega
    · exact Or.inr u
  · rcases k4 t ht with q | q
    · rw [q]; exact h4 t ht
    · exact Or.inr (Nat.le_trans h3.1.1 q)
theorem RsK.ncr {T : Nat → Prop} (h : RsK L M e) (k : NC L W T M M') (hF : NF L W M) (hT : ∀ t, T t → Trs e t) : NR L W e M M' := by
  have k' := k.mono hT h.tl hF
  exact ⟨k'.1, k'.2.2.1.mono (fun x _ u => Or.inl u) (fun _ _ u => u), k'.2.2.2.1, k'.2.2.2.2⟩
theorem RsK.s36 (h : RsK L M e) : ∀ x, S36 e x → Oc L M x := fun x u => by
  rcases u with u | u | u | u
  · rw [u]; exact h.2.1 3 (by decide)
  · rw [u]; exact h.2.1 4 (by decide)
  · rw [u]; exact h.2.1 5 (by decide)
  · rw [u]; exact h.2.1 6 (by decide)
/-- the residues' tables change -/
theorem RsK.fir (h : RsK L M e) (f : FI (S36 e) M M') (o : mOk M') (hF : NF L W M) : NR L W e M M' ∧ RsK L M' e ∧ (∀ a, a ∈ L → nv M' a = nv M a) ∧ mI M' (e + 1) = mI M (e + 1) := by
  have oc := h.s36
  have nt' : ∀ a, a ∈ L → Nt M' a (mR M a 0) (cp M a) (sz M a) := fun a ha => (hF.nt ha).fi f (fun u => (oc a u).2.1 ha) (fun u => (oc _ u).2.2 a ha rfl)
  have cc : ∀ a, cp M' a = cp M a := fun a => by unfold cp; rw [f.2.2.1, f.2.1]
  have nf : NF L W M' := ⟨hF.1, fun a ha => ⟨(nt' a ha).nn, by rw [cc]; exact (hF.2.1 a ha).2.1, (hF.2.1 a ha).2.2⟩, fun a b ha hb u => hF.2.2 a b ha hb (by rw [← f.2.2.1]; exact u)⟩
  refine ⟨⟨⟨o, nf⟩, f.fa.mono (fun x _ u => Or.inr u) (fun _ _ u => u), fun t _ => Or.inl (by rw [f.2.2.1]), ?_⟩, ⟨h.1.fi f, fun i hi => ⟨by rw [f.2.2.2.2.1]; exact (h.2.1 i hi).1, (h.2.1 i hi).2.1, fun a ha u => (h.2.1 i hi).2.2 a ha (by rw [← f.2.2.1]; exact u)⟩, fun i hi => by rw [f.2.2.1]; exact h.2.2.1 i hi, h.2.2.2⟩, fun a ha => ?_, f.2.2.2.2.2.2 (e + 1) (fun u => by unfold S36 at u; omega)⟩
  · unfold RmN
    rw [show cp M' = cp M from funext cc, f.2.2.2.2.1, f.2.2.2.2.2.1]
    exact ⟨Nat.le_refl _, Nat.le_refl _⟩
  · rw [(nt' a ha).nv]
    unfold nv
    rw [f.2.2.2.2.2.2 _ (fun u => (oc _ u).2.2 a ha rfl)]
theorem tr_ne {i j : Nat} (h : i ≠ j) : e + 9 + 2 * i ≠ e + 9 + 2 * j := by omega
theorem tr_n7 : e + 9 + 2 * i ≠ e + 7 := by omega
/-- small numbers, all below the modulus -/
def Rm9 (M : mM) (e rows : Nat) (mo : Int) : Prop := nv M (e + 7) = mo ∧ 0 < mo ∧ ∀ i, i ≤ rows → nv M (e + 9 + 2 * i) < mo
theorem s_cm17 {inv mo : Int} (hP : 1000000000 < P ∧ P < 1073741824) (hr : rows ≤ 40) (hK : RsK L M e) (hF : NF L W M) (hm : Rm9 M e rows mo) (hu : mo < 2 ^ (30 * u)) (u38 : u ≤ 38) (hW : ∀ x, Trs e x → 40 ≤ W x) (hrd : Rd9 M e P 0 rows) (hi : 0 ≤ inv ∧ inv ≤ P) : ∀ (t i : Nat) (M1 : mM), rows + 1 ≤ i + t → i ≤ rows + 1 → NC L W (Trs e) M M1 → RsK L M1 e → Rd9 M1 e P 0 rows → nv M1 (e + 7) = mo → (∀ j, j < i → nv M1 (e + 9 + 2 * j) < P * mo) → (∀ j, i ≤ j → j ≤ rows → nv M1 (e + 9 + 2 * j) < mo) → h_Re_combine_17 G (d + 3) e rows P inv i M1 (fun M' => NC L W (Trs e) M M' ∧ RsK L M' e ∧ mI M' (e + 1) = mI M (e + 1) ∧ Rm9 M' e rows (P * mo)) := by
  have e1' : ∀ {M1 : mM}, NC L W (Trs e) M M1 → mI M1 (e + 1) = mI M (e + 1) := fun k => (hK.nc k hF).2 1 (by decide)
  have fin : ∀ (i : Nat) (M1 : mM), i = rows + 1 → NC L W (Trs e) M M1 → RsK L M1 e → nv M1 (e + 7) = mo → (∀ j, j < i → nv M1 (e + 9 + 2 * j) < P * mo) → mK M1 e = 12 ∧ mK M1 (mR M1 e 6) = 10 ∧ Cv G y_Na_multiply (d + 3) [vr (mR M1 e 6), vi P] M1 (fun M13 => mOk M13 ∧ (NC L W (Trs e) M M13 ∧ RsK L M13 e ∧ mI M13 (e + 1) = mI M (e + 1) ∧ Rm9 M13 e rows (P * mo))) := by
    intro i M1 ei hN k1 v7 dn'
    obtain ⟨⟨e0, ⟨-, -, -, -, -, -, r6⟩, -, -⟩, o, p, m7⟩ := id k1
    have F1 := hN.nf
    have s7 := F1.szv m7 (show nv M1 (e + 7) < 2 ^ (30 * u) by rw [v7]; exact hu)
    rw [r6]
    refine ⟨e0, F1.kd m7, (f_multiply (d := d + 1) ⟨by omega, hP.2⟩ hN.ok F1 m7 (by have := hW (e + 7) (Or.inl rfl); omega)).mono (fun M13 q => ?_)⟩
    obtain ⟨c, v⟩ := q
    have c' := c.mono (T' := Trs e) (fun t ht => Or.inl ht) k1.tl F1
    have N2 := hN.trans c'
    rw [v7] at v
    exact ⟨c.ok, N2, (k1.nc c F1).1, e1' N2, v, Int.mul_pos (by omega) hm.2.1, fun j hj => by rw [c.v F1 (p j (by omega)).2 tr_n7]; exact dn' j (by omega)⟩
  intro t
  induction t with
  | zero =>
    intro i M1 h1 h2 hN k1 rd v7 dn' up
    exact k_Re_combine_17 hN.ok ⟨by omega, by omega⟩ ⟨by omega, by omega⟩ ⟨by omega, by omega⟩ ⟨by omega, by omega⟩ ⟨fun _ => fin i M1 (by omega) hN k1 v7 dn', fun u => absurd (by omega) u⟩
  | succ t ih =>
    intro i M1 h1 h2 hN k1 rd v7 dn' up
    by_cases ei : i = rows + 1
    · exact ih i M1 (by omega) h2 hN k1 rd v7 dn' up
    obtain ⟨⟨e0, ⟨-, r1, -, -, -, r5, r6⟩, ⟨-, k2, -, -, -, k6⟩, ⟨-, n2, -, -, -, n6⟩⟩, o, p, m7⟩ := id k1
    have F1 := hN.nf
    obtain ⟨pi, mi⟩ := p i (by omega)
    have ri := rd i (by omega) (by omega)
    have vi0 := up i (Nat.le_refl _) (by omega)
    have s7 := F1.szv m7 (show nv M1 (e + 7) < 2 ^ (30 * u) by rw [v7]; exact hu)
    have si := F1.szv mi (Int.lt_trans vi0 hu)
    have wi := hW _ (Or.inr ⟨i, by omega, rfl⟩)
    refine k_Re_combine_17 hN.ok ⟨by omega, by omega⟩ ⟨by omega, by omega⟩ ⟨by omega, by omega⟩ ⟨by omega, by omega⟩ ⟨fun u => absurd u (by omega), fun _ => ?_⟩
    rw [r5, r1, n6, n2, Int.toNat_natCast, pi]
    refine ⟨e0, k6, ⟨by omega, by omega⟩, k2, ⟨by omega, by omega⟩, F1.kd mi, (s_Na_modulo (d := d + 3) ⟨by omega, hP.2⟩ hN.ok (F1.nt mi)).mono (fun x23 M22 q => ?_)⟩
    obtain ⟨e22, x0, x1⟩ := q
    rw [e22, r1, n2, pi, r6]
    have q0 : 0 ≤ mI M1 (e + 6) i + P - x23 := by omega
    obtain ⟨t1, t2, t3⟩ := tm_b (P := P) q0 (by omega)
    rw [t1]
    obtain ⟨p1, p2⟩ := pr_b hP.2 ⟨t2, Int.le_of_lt t3⟩ hi ⟨Int.le_refl 0, by omega⟩
    rw [Int.zero_add] at p1 p2
    obtain ⟨t4, t5, t6⟩ := tm_b (P := P) p1 (by omega)
    rw [t4]
    refine ⟨⟨by omega, by omega⟩, hN.ok, e0, k2, ⟨by omega, by omega⟩, ⟨by omega, by omega⟩, by omega, p2, by omega, F1.kd mi, (f_add (d := d) ⟨t5, by omega⟩ hN.ok F1 mi m7 tr_n7 (by omega) (by omega)).mono (fun M33 q => ?_)⟩
    obtain ⟨c, v⟩ := q
    have c' := c.mono (T' := Trs e) (fun t ht => Or.inr ⟨i, by omega, ht⟩) k1.tl F1
    obtain ⟨k33, i33⟩ := k1.nc c F1
    rw [show ((i : Int) + 1) = ((i + 1 : Nat) : Int) by first | rfl | omega]
    have v7' := (c.v F1 m7 (fun e => tr_n7 e.symm)).trans v7
    refine ⟨c.ok, ih (i + 1) M33 (by omega) (by omega) (hN.trans c') k33 (fun j h1 h2 => by rw [i33 6 (by decide)]; exact rd j h1 h2) v7' (fun j hj => ?_) (fun j hj1 hj2 => by rw [c.v F1 (p j (by omega)).2 (tr_ne (by omega))]; exact up j (by omega) hj2)⟩
    by_cases cj : j = i
    · rw [cj, v, v7]
      have := Int.mul_le_mul_of_nonneg_right (show (mI M1 (e + 6) i + P - x23) % P * inv % P + 1 ≤ P by omega) (Int.le_of_lt hm.2.1)
      rw [Int.add_mul, Int.one_mul] at this
      omega
    · rw [c.v F1 (p j (by omega)).2 (tr_ne cj)]
      exact dn' j (by omega)
theorem s_Re_combine {mo : Int} (hP : 1000000000 < P ∧ P < 1073741824) (hr : rows ≤ 40) (hO : mOk M) (hK : RsK L M e) (hF : NF L W M) (hm : Rm9 M e rows mo) (hu : mo < 2 ^ (30 * u)) (u38 : u ≤ 38) (hW : ∀ x, Trs e x → 40 ≤ W x) (hrd : Rd9 M e P 0 rows) : Cv G y_Re_combine (d + 4) [vr e, vi rows, vi P] M (fun M' => NC L W (Trs e) M M' ∧ RsK L M' e ∧ mI M' (e + 1) = mI M (e + 1) ∧ Rm9 M' e rows (P * mo)) := by
  obtain ⟨⟨e0, ⟨-, -, -, -, -, -, r6⟩, -, -⟩, o, p, m7⟩ := id hK
  refine k_Re_combine hO ⟨by omega, by omega⟩ ⟨by omega, by omega⟩ ?_
  rw [r6]
  refine ⟨e0, hF.kd m7, (s_Na_modulo (d := d + 3) ⟨by omega, hP.2⟩ hO (hF.nt m7)).mono (fun x4 M3 q => ?_)⟩
  obtain ⟨e3, x0, x1⟩ := q
  rw [e3]
  refine ⟨⟨by omega, by omega⟩, hO, (s_Re_inverse (d := d + 3) ⟨x0, Int.le_of_lt x1⟩ ⟨by omega, hP.2⟩ hO).mono (fun x7 M6 q => ?_)⟩
  obtain ⟨e6, y0, y1⟩ := q
  rw [e6]
  exact ⟨⟨by omega, by omega⟩, hO, s_cm17 hP hr hK hF hm hu u38 hW hrd ⟨y0, y1⟩ (rows + 1) 0 M (by omega) (by omega) (NC.refl hO hF hK.tl) hK hrd hm.1 (fun j hj => absurd hj (by omega)) (fun j _ hj => hm.2.2 j hj)⟩
theorem prL_b : ∀ i, i < 36 → 1000000000 < prL.getD i 0 ∧ prL.getD i 0 < 1073741824 := by decide
/-- what settling leaves behind -/
def settQ (L : List Nat) (W : Nat → Nat) (e rows bits : Nat) (M M' : mM) : Prop := NR L W e M M' ∧ RsK L M' e ∧ ∀ i, i ≤ rows → nv M' (e + 9 + 2 * i) < 2 ^ (bits + 30)
theorem s_se33 (hr : rows ≤ 40) (hb : bits ≤ 1000) (hF0 : NF L W M) (hE : Ent9 M e (rows * 41)) (hW : ∀ x, Trs e x → 40 ≤ W x) : ∀ (t i : Nat) (mo : Int) (M1 : mM), 36 ≤ i + t → i ≤ 36 → NR L W e M M1 → RsK L M1 e → mI M1 (e + 1) = mI M (e + 1) → Rm9 M1 e rows mo → mo < 2 ^ (30 * (i + 1)) → mo < 2 ^ (bits + 30) → h_Re_settle_33 G (d + 4) e rows bits i M1 (settQ L W e rows bits M) := by
  intro t
  induction t with
  | zero =>
    intro i mo M1 h1 h2 hN k1 i1 hm hu hb'
    exact k_Re_settle_33 hN.ok ⟨by omega, by omega⟩ ⟨by omega, by omega⟩ ⟨by omega, by omega⟩ ⟨fun _ => ⟨hN, k1, fun j hj => Int.lt_trans (hm.2.2 j hj) hb'⟩, fun u => absurd (by omega) u⟩
  | succ t ih =>
    intro i mo M1 h1 h2 hN k1 i1 hm hu hb'
    have done : settQ L W e rows bits M M1 := ⟨hN, k1, fun j hj => Int.lt_trans (hm.2.2 j hj) hb'⟩
    refine k_Re_settle_33 hN.ok ⟨by omega, by omega⟩ ⟨by omega, by omega⟩ ⟨by omega, by omega⟩ ⟨fun _ => done, fun u => ?_⟩
    have F1 := hN.nf
    obtain ⟨⟨e0, ⟨-, -, -, -, -, -, r6⟩, -, -⟩, o, p, m7⟩ := id k1
    have cb := F1.cb m7
    have sc := F1.sc m7
    rw [r6, Int.toNat_natCast, show ((i : Int) + 1) = ((i + 1 : Nat) : Int) by first | rfl | omega]
    refine ⟨e0, F1.kd m7, (s_Na_bits (d := d + 3) hN.ok (F1.nt m7)).mono (fun x20 M19 q => ?_)⟩
    obtain ⟨e19, nb, en, n1, n2, -⟩ := q
    have n2' : nv M1 (e + 7) < 2 ^ nb := n2
    rw [hm.1] at n2'
    rw [e19]
    refine ⟨⟨by omega, by omega⟩, hN.ok, fun _ => done, fun nl => ⟨⟨by omega, by omega⟩, e0, ?_⟩⟩
    obtain ⟨P1, P2⟩ := prL_b i (by omega)
    generalize prL.getD i 0 = P at *
    have mb : mo < 2 ^ bits := Int.lt_of_lt_of_le n2' (p2m (by omega))
    have pm1 : P * mo < 2 ^ (30 * (i + 1 + 1)) := by
      rw [p30, Int.mul_comm]
      have := Int.mul_le_mul_of_nonneg_left (show P ≤ 1073741824 by omega) (Int.le_of_lt hm.2.1)
      omega
    have pm2 : P * mo < 2 ^ (bits + 30) := by
      rw [Int.pow_add, Int.mul_comm, show (2 : Int) ^ 30 = 1073741824 by decide]
      have := Int.mul_le_mul_of_nonneg_left (show P ≤ 1073741824 by omega) (Int.le_of_lt hm.2.1)
      omega
    refine (s_Re_eliminate (d := d + 2) ⟨P1, P2⟩ k1.1 hr (fun j hj => by rw [i1]; exact hE j hj) hN.ok).mono (fun x27 M26 q => ?_)
    obtain ⟨o26, f26, x01, el⟩ := q
    obtain ⟨n26, k26, v26, i26⟩ := k1.fir f26 o26 F1
    have N26 := hN.trans n26
    have m26 : Rm9 M26 e rows mo := ⟨by rw [v26 _ m7]; exact hm.1, hm.2.1, fun j hj => by rw [v26 _ (p j (by omega)).2]; exact hm.2.2 j hj⟩
    refine ⟨m_b32 x01, o26, fun _ => ih (i + 1) mo M26 (by omega) (by omega) N26 k26 (by rw [i26]; exact i1) m26 (Int.lt_of_lt_of_le hu (p30m (by omega))) hb', fun x0 => ⟨⟨by omega, by omega⟩, k26.1.1, ?_⟩⟩
    obtain ⟨w26, iv26, d26⟩ := el x0
    refine (s_Re_substitute (d := d + 4) ⟨P1, P2⟩ k26.1 hr w26 iv26 d26 o26).mono (fun M35 q => ?_)
    obtain ⟨o35, f35, rd35⟩ := q
    obtain ⟨n35, k35, v35, i35⟩ := k26.fir (f35.mono (fun _ u => Or.inr (Or.inr (Or.inr u)))) o35 N26.nf
    have N35 := N26.trans n35
    have m35 : Rm9 M35 e rows mo := ⟨by rw [v35 _ m7]; exact m26.1, hm.2.1, fun j hj => by rw [v35 _ (p j (by omega)).2]; exact m26.2.2 j hj⟩
    refine ⟨o35, ⟨by omega, by omega⟩, k35.1.1, (s_Re_combine (d := d) (u := i + 1) ⟨P1, P2⟩ hr o35 k35 N35.nf m35 hu (by omega) hW rd35).mono (fun M40 q => ?_)⟩
    obtain ⟨c40, k40, i40, m40⟩ := q
    exact ⟨c40.ok, ih (i + 1) (P * mo) M40 (by omega) (by omega) (N35.trans (k35.ncr c40 N35.nf (fun _ h => h))) k40 (by rw [i40, i35, i26]; exact i1) m40 pm1 pm2⟩
/-- a system is settled -/
theorem s_Re_settle (hr : rows ≤ 40) (hb : bits ≤ 1000) (hO : mOk M) (hF : NF L W M) (hK : RsK L M e) (hE : Ent9 M e (rows * 41)) (hW : ∀ x, Trs e x → 40 ≤ W x) : Cv G y_Re_settle (d + 5) [vr e, vi rows, vi bits] M (settQ L W e rows bits M) := by
  obtain ⟨⟨e0, ⟨-, -, -, -, -, -, r6⟩, -, -⟩, o, p, m7⟩ := id hK
  refine k_Re_settle hO ⟨by omega, by omega⟩ ⟨by omega, by omega⟩ ?_
  rw [r6]
  refine ⟨e0, hF.kd m7, (f_put0 (d := d + 4) ⟨by decide, by decide⟩ hO hF m7).mono (fun M3 q => ?_)⟩
  obtain ⟨c3, v3⟩ := q
  have k3 := (hK.nc c3 hF)
  refine ⟨c3.ok, ?_⟩
  suffices HH : ∀ (t i : Nat) (M1 : mM), rows + 1 ≤ i + t → i ≤ rows + 1 → NR L W e M M1 → RsK L M1 e → mI M1 (e + 1) = mI M (e + 1) → nv M1 (e + 7) = 1 → (∀ j, j < i → nv M1 (e + 9 + 2 * j) = 0) → h_Re_settle_10 G (d + 4) e rows bits i M1 (settQ L W e rows bits M) from
    HH (rows + 1) 0 M3 (by omega) (by omega) (hK.ncr c3 hF (fun t ht => Or.inl ht)) k3.1 (k3.2 1 (by decide)) v3 (fun j hj => absurd hj (by omega))
  intro t
  induction t with
  | zero =>
    intro i M1 h1 h2 hN k1 i1 v7 z
    refine k_Re_settle_10 hN.ok ⟨by omega, by omega⟩ ⟨by omega, by omega⟩ ⟨by omega, by omega⟩ ⟨fun _ => ?_, fun u => absurd (by omega) u⟩
    have b1 : (1 : Int) < 2 ^ (bits + 30) := by
      rw [Int.pow_add]
      have h1 : (0 : Int) < 2 ^ bits := Int.pow_pos (by decide)
      have h2 : (2 : Int) ^ 30 = 1073741824 := by decide
      omega
    exact s_se33 hr hb hF hE hW 36 0 1 M1 (by omega) (by omega) hN k1 i1 ⟨v7, by decide, fun j hj => by rw [z j (by omega)]; decide⟩ (by decide) b1
  | succ t ih =>
    intro i M1 h1 h2 hN k1 i1 v7 z
    by_cases ei : i = rows + 1
    · exact ih i M1 (by omega) h2 hN k1 i1 v7 z
    obtain ⟨⟨e0, ⟨-, r1, -⟩, ⟨-, k2, -⟩, ⟨-, n2, -⟩⟩, o, p, m7⟩ := id k1
    obtain ⟨pi, mi⟩ := p i (by omega)
    have F1 := hN.nf
    refine k_Re_settle_10 hN.ok ⟨by omega, by omega⟩ ⟨by omega, by omega⟩ ⟨by omega, by omega⟩ ⟨fun u => absurd u (by omega), fun _ => ?_⟩
    rw [r1, n2, Int.toNat_natCast, pi, show ((i : Int) + 1) = ((i + 1 : Nat) : Int) by first | rfl | omega]
    refine ⟨e0, k2, ⟨by omega, by omega⟩, F1.kd mi, (f_put0 (d := d + 4) ⟨by decide, by decide⟩ hN.ok F1 mi).mono (fun M12 q => ?_)⟩
    obtain ⟨c, v⟩ := q
    obtain ⟨k12, i12⟩ := k1.nc c F1
    refine ⟨c.ok, ih (i + 1) M12 (by omega) (by omega) (hN.trans (k1.ncr c F1 (fun t ht => Or.inr ⟨i, by omega, ht⟩))) k12 (by rw [i12 1 (by decide)]; exact i1) ((c.v F1 m7 (fun e => tr_n7 e.symm)).trans v7) (fun j hj => ?_)⟩
    by_cases cj : j = i
    · rw [cj]; exact v
    · rw [c.v F1 (p j (by omega)).2 (tr_ne cj)]; exact z j (by omega)
end NBM
end
section
/-! The class's Solver: its tables; which commands are left, which states are unknown. -/
section NBN
variable {G : mG} {d s g cn cc bc i k n c lo hi : Nat} {M M0 M' M1 M2 M3 : mM}
/-- the Solver's tables -/
def SoT (M : mM) (s g : Nat) : Prop := (mK M s = 8 ∧ g + 22 < s) ∧ (mR M s 0 = s + 1 ∧ mR M s 1 = s + 29 ∧ mR M s 2 = s + 30 ∧ mR M s 3 = g ∧ mR M s 4 = s + 31 ∧ mR M s 5 = s + 122 ∧ mR M s 6 = s + 123 ∧ mR M s 7 = s + 124 ∧ mR M s 8 = s + 125 ∧ mR M s 9 = s + 126 ∧ mR M s 15 = s + 128 ∧ mR M s 16 = s + 129 ∧ mR M s 17 = s + 130) ∧ (mK M (s + 29) = 30 ∧ mK M (s + 30) = 30 ∧ mK M (s + 122) = 30 ∧ mK M (s + 123) = 30 ∧ mK M (s + 124) = 30 ∧ mK M (s + 125) = 30 ∧ mK M (s + 126) = 30 ∧ mK M (s + 128) = 31 ∧ mK M (s + 129) = 30) ∧ (mN M (s + 29) = 512 ∧ mN M (s + 30) = 512 ∧ mN M (s + 122) = 512 ∧ mN M (s + 123) = 512 ∧ mN M (s + 124) = 512 ∧ mN M (s + 125) = 40 ∧ mN M (s + 126) = 40 ∧ mN M (s + 128) = 4097 ∧ mN M (s + 129) = 512)
theorem SoT.fi {S : Nat → Prop} (h : SoT M s g) (f : FI S M M') : SoT M' s g := by
  unfold SoT at h ⊢
  rw [f.1, f.2.1, f.2.2.1]
  exact h
theorem GK9.fi {S : Nat → Prop} (h : GK9 M g) (f : FI S M M') : GK9 M' g := by
  unfold GK9 at h ⊢
  rw [f.1, f.2.1, f.2.2.1]
  exact h
/-- the Solver's and the game's tables -/
def SG (M : mM) (s g cn cc bc : Nat) : Prop := mOk M ∧ SoT M s g ∧ GK9 M g ∧ (mR M g 3 = g + 3 ∧ mN M (g + 3) = 512) ∧ GTT M g cn cc bc
theorem SG.fi {S : Nat → Prop} (h : SG M s g cn cc bc) (f : FI S M M') (o : mOk M') (hS : ∀ i, i ≤ 9 → ¬ S (g + i)) : SG M' s g cn cc bc := by
  obtain ⟨h1, h2, h3, h4, h5⟩ := h
  exact ⟨o, h2.fi f, h3.fi f, by rw [f.2.1, f.2.2.1]; exact h4, h5.same (fun i hi => f.2.2.2.2.2.2 _ (hS i hi))⟩
/-- each state's commands that are left -/
def LHs (M : mM) (s cn cc : Nat) : Prop := ∀ k, k < cn → ∃ lo hi : Nat, mI M (s + 122) k = ((lo : Nat) : Int) ∧ mI M (s + 123) k = ((hi : Nat) : Int) ∧ lo ≤ hi ∧ hi ≤ cc ∧ hi ≤ lo + 60
/-- the choices of a player that is kept -/
def Tld (M : mM) (g cn : Nat) (kp : Int) : Prop := kp ≠ 0 → ∀ k, k < cn → mI M (g + 2) k = kp → ∀ x y : Nat, mI M (g + 4) k = ((x : Nat) : Int) → mI M (g + 4) (k + 1) = ((y : Nat) : Int) → 0 ≤ mI M (g + 3) k ∧ mI M (g + 3) k < ((y : Nat) : Int) - ((x : Nat) : Int)
def LHx (M M' : mM) (s g n : Nat) : Prop := ∀ k, k < n → mI M' (s + 122) k = mI M (g + 4) k ∧ mI M' (s + 123) k = mI M (g + 4) (k + 1)
def S56 (s x : Nat) : Prop := x = s + 122 ∨ x = s + 123
theorem s_So_leaveCommands {kp : Int} (hkp : i32 kp) (h : SG M s g cn cc bc) (ht : Tld M g cn kp) : Cv G y_So_leaveCommands d [vr s, vi kp] M (fun M' => FI (S56 s) M M' ∧ SG M' s g cn cc bc ∧ LHs M' s cn cc ∧ (kp = 0 → LHx M M' s g cn)) := by
  refine k_So_leaveCommands h.1 hkp ?_
  have gs := h.2.1.1.2
  have nS : ∀ i, i ≤ 9 → ¬ S56 s (g + i) := fun i hi u => by unfold S56 at u; omega
  suffices HH : ∀ (t k : Nat) (M1 : mM), cn ≤ k + t → k ≤ cn → FI (S56 s) M M1 → SG M1 s g cn cc bc → LHs M1 s k cc → (kp = 0 → LHx M M1 s g k) → h_So_leaveCommands_2 G d s kp k M1 (fun M' => FI (S56 s) M M' ∧ SG M' s g cn cc bc ∧ LHs M' s cn cc ∧ (kp = 0 → LHx M M' s g cn)) from HH cn 0 M (by omega) (by omega) FI.refl h (fun k hk => absurd hk (by omega)) (fun _ k hk => absurd hk (by omega))
  intro t
  induction t with
  | zero =>
    intro k M1 h1 h2 F hg L X
    have ek : k = cn := by omega
    subst ek
    obtain ⟨o, ⟨⟨s0, -⟩, ⟨-, -, -, r3, -⟩, -⟩, hG, -, hT⟩ := id hg
    refine k_So_leaveCommands_2 o hkp ⟨by have := hT.1.1; omega, by have := hT.1.1; omega⟩ ?_
    rw [r3, hT.2.2.2]
    exact ⟨s0, hG.1, fun _ => ⟨F, hg, L, X⟩, fun u => absurd (Int.le_refl _) u⟩
  | succ t ih =>
    intro k M1 h1 h2 F hg L X
    by_cases ek : k = cn
    · exact ih k M1 (by omega) h2 F hg L X
    have hk : k < cn := by omega
    obtain ⟨o, ⟨⟨s0, -⟩, ⟨-, -, -, r3, -, r5, r6, -⟩, ⟨-, -, k5, k6, -⟩, ⟨-, -, n5, n6, -⟩⟩, ⟨g0, ⟨q2, q4, -⟩, gk, ⟨m2, m4, -⟩⟩, ⟨q3, m3⟩, hT⟩ := id hg
    obtain ⟨x, y, x1, y1, xy, yc⟩ := hT.2.2.1 k hk
    obtain ⟨hc1, hc2, hc3⟩ := hT.1
    have e2 : mI M1 (g + 2) = mI M (g + 2) := F.2.2.2.2.2.2 _ (nS 2 (by decide))
    have e3 : mI M1 (g + 3) = mI M (g + 3) := F.2.2.2.2.2.2 _ (nS 3 (by decide))
    have e4 : mI M1 (g + 4) = mI M (g + 4) := F.2.2.2.2.2.2 _ (nS 4 (by decide))
    refine k_So_leaveCommands_2 o hkp ⟨by omega, by omega⟩ ?_
    rw [r3, hT.2.2.2, q2, q4, q3, m2, m4, m3, r5, n5, Int.toNat_natCast, x1, show Int.toNat ((k : Int) + 1) = k + 1 by first | rfl | omega]
    refine ⟨s0, g0, fun u => absurd u (by omega), fun _ => ⟨fun _ => ⟨gk 2 (by decide) (by decide), ⟨by omega, by omega⟩⟩, fun v15 e15 => ⟨gk 4 (by decide) (by decide), ⟨by omega, by omega⟩, fun _ => ⟨gk 3 (by decide) (by decide), ⟨by omega, by omega⟩⟩, fun v25 e25 => ?_⟩⟩⟩
    have vb : (v15 = 0 ∧ v25 = 0) ∨ (v15 ≠ 0 ∧ 0 ≤ v25 ∧ v25 < ((y : Nat) : Int) - ((x : Nat) : Int)) := by
      by_cases c : (kp = 0) ∨ (¬ (mI M1 (g + 2) k = kp))
      · rw [if_pos c] at e15
        rw [e15, if_pos rfl] at e25
        exact Or.inl ⟨e15, e25⟩
      · rw [if_neg c] at e15
        rw [e15, if_neg (by decide)] at e25
        have k0 : kp ≠ 0 := fun u => c (Or.inl u)
        have k2 : mI M1 (g + 2) k = kp := Classical.byContradiction (fun u => c (Or.inr u))
        have := ht k0 k hk (by rw [← e2]; exact k2) x y (by rw [← e4]; exact x1) (by rw [← e4]; exact y1)
        rw [← e3, ← e25] at this
        exact Or.inr ⟨by rw [e15]; decide, this⟩
    obtain ⟨v, ev⟩ : ∃ v : Nat, v25 = ((v : Nat) : Int) := ⟨v25.toNat, by omega⟩
    subst ev
    refine ⟨k5, ⟨by omega, by omega⟩, ⟨by omega, by omega⟩, fun M31 e31 => ?_⟩
    have f31 : FI (fun z => z = s + 122) M1 M31 := by rw [e31]; exact FI.ui rfl
    have n4 : g + 4 ≠ s + 122 := by omega
    have l31 : mI M31 (s + 122) k = ((x + v : Nat) : Int) := by rw [mI_ui _ k e31, if_pos ⟨rfl, rfl⟩]; omega
    rw [f31.1, f31.2.1, f31.2.2.1, r3, r5, r6, q4, m4, n5, n6, l31, f31.2.2.2.2.2.2 (g + 4) n4, y1]
    refine ⟨⟨fun _ => ⟨g0, gk 4 (by decide) (by decide), ⟨by omega, by omega⟩⟩, fun _ => ⟨k5, ⟨by omega, by omega⟩⟩⟩, fun v39 e39 => ?_⟩
    obtain ⟨hi, eh, h1', h2'⟩ : ∃ hi : Nat, v39 = ((hi : Nat) : Int) ∧ x + v ≤ hi ∧ hi ≤ cc ∧ hi ≤ x + v + 60 := by
      rcases vb with ⟨c0, c1⟩ | ⟨c0, c1, c2⟩
      · rw [if_pos c0] at e39
        exact ⟨y, e39, by omega, by omega, by omega⟩
      · rw [if_neg c0] at e39
        exact ⟨x + v + 1, by rw [e39]; omega, by omega, by omega, by omega⟩
    refine ⟨k6, ⟨by omega, by omega⟩, ⟨by omega, by omega⟩, fun M45 e45 => ?_⟩
    have f45 : FI (fun z => z = s + 123) M31 M45 := by rw [e45]; exact FI.ui rfl
    have ff : FI (S56 s) M1 M45 := (f31.mono (fun _ u => Or.inl u)).trans (f45.mono (fun _ u => Or.inr u))
    have o45 : mOk M45 := by rw [e45]; exact mOk_UI (by rw [e31]; exact mOk_UI o ⟨by omega, by omega⟩) ⟨by omega, by omega⟩
    rw [show ((k : Int) + 1) = ((k + 1 : Nat) : Int) by first | rfl | omega]
    refine ih (k + 1) M45 (by omega) (by omega) (F.trans ff) (hg.fi ff o45 nS) (fun j hj => ?_) (fun k0 j hj => ?_)
    rotate_left
    · by_cases c : j = k
      · rw [c]
        rw [if_pos (Or.inl k0)] at e15
        have v0 : v = 0 := by
          rcases vb with y | y
          · omega
          · exact absurd e15 y.1
        rw [if_pos e15] at e39
        refine ⟨?_, ?_⟩
        · rw [f45.2.2.2.2.2.2 (s + 122) (show ¬ s + 122 = s + 123 by first | rfl | omega), l31, ← e4, x1, v0, Nat.add_zero]
        · rw [mI_ui _ k e45, if_pos ⟨rfl, rfl⟩, e39, ← e4, y1]
      · obtain ⟨a1, a2⟩ := X k0 j (by omega)
        exact ⟨by rw [f45.2.2.2.2.2.2 (s + 122) (show ¬ s + 122 = s + 123 by first | rfl | omega), mI_ui _ j e31, if_neg (fun u => c u.2)]; exact a1, by rw [mI_ui _ j e45, if_neg (fun u => c u.2), f31.2.2.2.2.2.2 (s + 123) (show ¬ s + 123 = s + 122 by first | rfl | omega)]; exact a2⟩
    by_cases c : j = k
    · rw [c]
      exact ⟨x + v, hi, by rw [f45.2.2.2.2.2.2 (s + 122) (show ¬ s + 122 = s + 123 by first | rfl | omega)]; exact l31, by rw [mI_ui _ k e45, if_pos ⟨rfl, rfl⟩]; exact eh, h1', h2'⟩
    · obtain ⟨l, h', a1, a2, a3⟩ := L j (by omega)
      exact ⟨l, h', by rw [f45.2.2.2.2.2.2 (s + 122) (show ¬ s + 122 = s + 123 by first | rfl | omega), mI_ui _ j e31, if_neg (fun u => c u.2)]; exact a1, by rw [mI_ui _ j e45, if_neg (fun u => c u.2), f31.2.2.2.2.2.2 (s + 123) (show ¬ s + 123 = s + 122 by first | rfl | omega)]; exact a2, a3⟩
/-- which unknown state a state is -/
def Slo (M : mM) (s un : Nat) : Prop := ∀ k, k < 512 → mI M (s + 124) k = -1 ∨ (0 ≤ mI M (s + 124) k ∧ mI M (s + 124) k < un)
end NBN
end
section
/-! The class's Solver: the unknown states, their weights. -/
section NBO
variable {G : mG} {d s g cn cc bc i k n c lo hi un : Nat} {M M0 M' M1 M2 M3 : mM}
/-- the unknown states -/
def Unk (M : mM) (s cn un : Nat) : Prop := mI M s 10 = ((un : Nat) : Int) ∧ un ≤ 40 ∧ Slo M s un ∧ ∀ i, i < un → ∃ k c lo hi : Nat, mI M (s + 125) i = ((k : Nat) : Int) ∧ k < cn ∧ mI M (s + 126) i = ((c : Nat) : Int) ∧ mI M (s + 122) k = ((lo : Nat) : Int) ∧ mI M (s + 123) k = ((hi : Nat) : Int) ∧ lo ≤ c ∧ c < hi
def Sun (s x : Nat) : Prop := x = s ∨ x = s + 124 ∨ x = s + 125 ∨ x = s + 126
theorem sun_g (h : SG M s g cn cc bc) : ∀ i, i ≤ 9 → ¬ Sun s (g + i) := fun i hi u => by
  have := h.2.1.1.2
  unfold Sun at u
  omega
end NBO
end
section
/-! The class's Solver: weights; numbers of ways. -/
section NBP
variable {G : mG} {d s g cn cc bc i k n c lo hi un : Nat} {M M0 M' M1 M2 M3 : mM}
def wsu (wt : Nat → Nat) : Nat → Nat
  | 0 => 0
  | n + 1 => wsu wt n + wt n
theorem wsu_cg {f h : Nat → Nat} : ∀ n, (∀ i, i < n → f i = h i) → wsu f n = wsu h n
  | 0, _ => rfl
  | n + 1, e => by
    show wsu f n + f n = wsu h n + h n
    rw [wsu_cg n (fun i hi => e i (by omega)), e n (by omega)]
theorem wsu_le {f h : Nat → Nat} : ∀ n, (∀ i, i < n → f i ≤ h i) → wsu f n ≤ wsu h n
  | 0, _ => Nat.le_refl _
  | n + 1, e => Nat.add_le_add (wsu_le n (fun i hi => e i (by omega))) (e n (by omega))
/-- every command that is left for the unknown state i has a multiple below 2^w -/
def wtO (M : mM) (s g i w : Nat) : Prop := ∀ k lo hi c : Nat, mI M (s + 125) i = ((k : Nat) : Int) → mI M (s + 122) k = ((lo : Nat) : Int) → mI M (s + 123) k = ((hi : Nat) : Int) → lo ≤ c → c < hi → mI M (g + 6) c < 2 ^ w
theorem s_nlz0 (hO : mOk M) : Ci G y_JI_nlz d [vi 0] M (fun r M' => M' = M ∧ r = 32) := k_JI_nlz hO ⟨by decide, by decide⟩ ⟨fun u => absurd u (by decide), fun _ v41 e41 => ⟨rfl, by rw [e41, if_pos rfl]⟩⟩
end NBP
end
section
/-! The class's Solver: comesOn and wayFrom exactly. -/
section NBX
variable {G : mG} {d s g cn cc bc i k n c lo hi un : Nat} {M M0 M' M1 M2 M3 : mM}
/-- a state is marked, or a target -/
def jmk (M : mM) (s g j : Nat) : Prop := mI M (s + 124) j ≠ -1 ∨ mI M (g + 2) j = 3
/-- a command has a branch to one -/
def ldC (M : mM) (s g c : Nat) : Prop := ∃ i : Nat, mI M (g + 7) c ≤ i ∧ (i : Int) < mI M (g + 7) (c + 1) ∧ jmk M s g (mI M (g + 8) i).toNat
theorem x_So_comesOn (h : SG M s g cn cc bc) (hc : c < cc) : Ci G y_So_comesOn d [vr s, vi c] M (fun r M' => M' = M ∧ (r = 0 ∨ r = 1) ∧ (r = 1 ↔ ldC M s g c)) := by
  obtain ⟨o, ⟨⟨s0, -⟩, ⟨-, -, -, r3, -, -, -, r7, -⟩, ⟨-, -, -, -, k7, -⟩, ⟨-, -, -, -, n7, -⟩⟩, ⟨g0, ⟨q2, -, -, q7, q8, -⟩, gk, ⟨m2, -, -, m7, m8, -⟩⟩, -, hT⟩ := id h
  obtain ⟨hc1, hc2, hc3⟩ := hT.1
  obtain ⟨x, y, mu, e1, e2, ⟨xy, -⟩, yb, br, -⟩ := hT.2.1 c hc
  have no : ∀ j : Nat, y ≤ j → (∀ i : Nat, x ≤ i → i < j → ¬ jmk M s g (mI M (g + 8) i).toNat) → ¬ ldC M s g c := fun j hj hn u => by
    obtain ⟨i, u1, u2, u3⟩ := u
    rw [e1] at u1
    rw [e2] at u2
    exact hn i (by omega) (by omega) u3
  refine k_So_comesOn o ⟨by omega, by omega⟩ ?_
  rw [r3, q7, m7, Int.toNat_natCast, e1]
  refine ⟨s0, g0, gk 7 (by decide) (by decide), ⟨by omega, by omega⟩, ?_⟩
  suffices HH : ∀ (t i : Nat), y ≤ i + t → x ≤ i → i ≤ y → (∀ i' : Nat, x ≤ i' → i' < i → ¬ jmk M s g (mI M (g + 8) i').toNat) → h_So_comesOn_10 G d s c i M (fun r M' => M' = M ∧ (r = 0 ∨ r = 1) ∧ (r = 1 ↔ ldC M s g c)) from HH (y - x) x (by omega) (Nat.le_refl _) (by omega) (fun i' a b => absurd b (by omega))
  intro t
  induction t with
  | zero =>
    intro i h1 h2 h3 hn
    refine k_So_comesOn_10 o ⟨by omega, by omega⟩ ⟨by omega, by omega⟩ ?_
    rw [r3, q7, m7, show Int.toNat ((c : Int) + 1) = c + 1 by first | rfl | omega, e2]
    exact ⟨s0, g0, gk 7 (by decide) (by decide), ⟨by omega, by omega⟩, fun _ => ⟨rfl, Or.inl rfl, fun z => absurd z (by decide), fun z => absurd z (no i (by omega) hn)⟩, fun u => absurd (by omega) u⟩
  | succ t ih =>
    intro i h1 h2 h3 hn
    refine k_So_comesOn_10 o ⟨by omega, by omega⟩ ⟨by omega, by omega⟩ ?_
    rw [r3, q7, m7, show Int.toNat ((c : Int) + 1) = c + 1 by first | rfl | omega, e2]
    refine ⟨s0, g0, gk 7 (by decide) (by decide), ⟨by omega, by omega⟩, fun z => ⟨rfl, Or.inl rfl, fun z => absurd z (by decide), fun w => absurd w (no i (by omega) hn)⟩, fun u => ?_⟩
    obtain ⟨b1, b2, b3⟩ := br i h2 (by omega)
    rw [q8, m8, r7, n7, q2, m2, Int.toNat_natCast, show ((i : Int) + 1) = ((i + 1 : Nat) : Int) by first | rfl | omega]
    refine ⟨gk 8 (by decide) (by decide), ⟨by omega, by omega⟩, k7, ⟨by omega, by omega⟩, fun _ => ⟨gk 2 (by decide) (by decide), ⟨by omega, by omega⟩⟩, fun z => ⟨rfl, Or.inr rfl, fun _ => ⟨i, by rw [e1]; omega, by rw [e2]; omega, z⟩, fun _ => rfl⟩, fun z => ih (i + 1) (by omega) (by omega) (by omega) (fun i' a b => ?_)⟩
    by_cases c9 : i' = i
    · rw [c9]
      exact z
    · exact hn i' a (by omega)
/-- whether a state comes on: its commands from lo to hi -/
def coC (M : mM) (s g k lo hi : Nat) : Prop := (mI M (g + 2) k = 1 ∧ ∃ c : Nat, lo ≤ c ∧ c < hi ∧ ldC M s g c) ∨ (mI M (g + 2) k ≠ 1 ∧ lo < hi ∧ ∀ c : Nat, lo ≤ c → c < hi → ldC M s g c)
def wayX (M : mM) (s g k : Nat) (x : Int) (M' : mM) : Prop := M' = M ∧ ∃ lo hi : Nat, (mI M (s + 122) k = ((lo : Nat) : Int) ∧ mI M (s + 123) k = ((hi : Nat) : Int)) ∧ ((x = -1 ∧ ¬ coC M s g k lo hi) ∨ (coC M s g k lo hi ∧ ∃ c : Nat, x = ((c : Nat) : Int) ∧ lo ≤ c ∧ c < hi))
theorem x_So_wayFrom (h : SG M s g cn cc bc) (hL : LHs M s cn cc) (hk : k < cn) : Ci G y_So_wayFrom (d + 1) [vr s, vi k] M (wayX M s g k) := by
  obtain ⟨o, ⟨⟨s0, -⟩, ⟨-, -, -, r3, -, r5, r6, -⟩, ⟨-, -, k5, k6, -⟩, ⟨-, -, n5, n6, -⟩⟩, ⟨g0, ⟨q2, -⟩, gk, ⟨m2, -⟩⟩, -, hT⟩ := id h
  obtain ⟨hc1, hc2, hc3⟩ := hT.1
  obtain ⟨lo, hi, e1, e2, lh, hb⟩ := hL k hk
  refine k_So_wayFrom o ⟨by omega, by omega⟩ ?_
  rw [r3, q2, m2, r5, n5, Int.toNat_natCast, e1]
  refine ⟨s0, g0, gk 2 (by decide) (by decide), ⟨by omega, by omega⟩, fun v6 e6 => ⟨k5, ⟨by omega, by omega⟩, ?_⟩⟩
  have v01 : (v6 = 1 ∧ mI M (g + 2) k = 1) ∨ (v6 = 0 ∧ mI M (g + 2) k ≠ 1) := by
    by_cases z : mI M (g + 2) k = 1
    · rw [if_pos z] at e6
      exact Or.inl ⟨e6, z⟩
    · rw [if_neg z] at e6
      exact Or.inr ⟨e6, z⟩
  have vb : v6 = 0 ∨ v6 = 1 := by omega
  clear e6
  suffices HH : ∀ (t c : Nat), hi ≤ c + t → lo ≤ c → c ≤ hi → (∀ c' : Nat, lo ≤ c' → c' < c → (v6 = 1 → ¬ ldC M s g c') ∧ (v6 = 0 → ldC M s g c')) → h_So_wayFrom_26 G d s k v6 c M (wayX M s g k) from HH (hi - lo) lo (by omega) (Nat.le_refl _) lh (fun c' a b => absurd b (by omega))
  have fin : ∀ c : Nat, hi ≤ c → (∀ c' : Nat, lo ≤ c' → c' < c → (v6 = 1 → ¬ ldC M s g c') ∧ (v6 = 0 → ldC M s g c')) → ∀ v31 : Int, v31 = (if ((¬ (v6 = 0)) ∨ ((lo : Int) = (hi : Int))) then (-1) else ((lo : Nat) : Int)) → wayX M s g k v31 M := fun c hc hn v31 e31 => by
    refine ⟨rfl, lo, hi, ⟨e1, e2⟩, ?_⟩
    rcases v01 with ⟨v1, z⟩ | ⟨v1, z⟩
    · rw [if_pos (Or.inl (by omega))] at e31
      refine Or.inl ⟨e31, fun u => ?_⟩
      rcases u with ⟨-, c', u1, u2, u3⟩ | ⟨u1, -⟩
      · exact (hn c' u1 (by omega)).1 v1 u3
      · exact u1 z
    · by_cases w : lo = hi
      · rw [if_pos (Or.inr (by omega))] at e31
        refine Or.inl ⟨e31, fun u => ?_⟩
        rcases u with ⟨u1, -⟩ | ⟨-, u1, -⟩
        · exact z u1
        · omega
      · rw [if_neg (by omega)] at e31
        exact Or.inr ⟨Or.inr ⟨z, by omega, fun c' a b => (hn c' a (by omega)).2 v1⟩, lo, e31, Nat.le_refl _, by omega⟩
  intro t
  induction t with
  | zero =>
    intro c h1 h2 h3 hn
    refine k_So_wayFrom_26 o ⟨by omega, by omega⟩ (m_b32 vb) ⟨by omega, by omega⟩ ?_
    rw [r6, n6, r5, n5, Int.toNat_natCast, e2, e1]
    exact ⟨s0, k6, ⟨by omega, by omega⟩, fun _ => ⟨fun _ => ⟨k5, ⟨by omega, by omega⟩, ⟨by omega, by omega⟩, fun _ => ⟨by omega, by omega⟩⟩, fin c (by omega) hn⟩, fun u => absurd (by omega) u⟩
  | succ t ih =>
    intro c h1 h2 h3 hn
    refine k_So_wayFrom_26 o ⟨by omega, by omega⟩ (m_b32 vb) ⟨by omega, by omega⟩ ?_
    rw [r6, n6, r5, n5, Int.toNat_natCast, e2, e1]
    refine ⟨s0, k6, ⟨by omega, by omega⟩, fun z => ⟨fun _ => ⟨k5, ⟨by omega, by omega⟩, ⟨by omega, by omega⟩, fun _ => ⟨by omega, by omega⟩⟩, fin c (by omega) hn⟩, fun u => (x_So_comesOn (d := d) h (show c < cc by omega)).mono (fun x M' q => ?_)⟩
    obtain ⟨e, x01, xi⟩ := q
    rw [e]
    refine ⟨m_b32 x01, o, fun xe v45 e45 => ⟨rfl, lo, hi, ⟨e1, e2⟩, ?_⟩, fun xe => ?_⟩
    · rcases v01 with ⟨v1, z⟩ | ⟨v1, z⟩
      · rw [if_neg (by omega)] at e45
        exact Or.inr ⟨Or.inl ⟨z, c, h2, by omega, xi.mp (by omega)⟩, c, e45, h2, by omega⟩
      · rw [if_pos v1] at e45
        refine Or.inl ⟨e45, fun w => ?_⟩
        rcases w with ⟨w1, -⟩ | ⟨-, -, w1⟩
        · exact z w1
        · have := xi.mpr (w1 c h2 (by omega))
          omega
    · rw [show ((c : Int) + 1) = ((c + 1 : Nat) : Int) by first | rfl | omega]
      refine ih (c + 1) (by omega) (by omega) (by omega) (fun c' a b => ?_)
      by_cases c9 : c' = c
      · rw [c9]
        refine ⟨fun v1 w => ?_, fun v1 => xi.mp (by omega)⟩
        have := xi.mpr w
        omega
      · exact hn c' a (by omega)
end NBX
end
section
/-! The class's Solver: the marks exactly. -/
section NBY
variable {G : mG} {d s g cn cc bc i k n c lo hi un : Nat} {M M0 M' M1 M2 M3 : mM}
theorem sm_up9 {h h' : Nat → Int} {k : Nat} {v : Int} (h0 : h k = 0) (h1 : h' k = v) (e : ∀ j, j ≠ k → h' j = h j) : ∀ n, k < n → sm h' n = sm h n + v
  | 0, u => absurd u (by omega)
  | n + 1, u => by
    show sm h' n + h' n = sm h n + h n + v
    by_cases c : k = n
    · rw [← c, h0, h1, sm_congr (f := h') (g := h) k (fun j hj => e j (by omega))]
      omega
    · rw [sm_up9 h0 h1 e n (by omega), e n (by omega)]
      omega
/-- marked with a slot below b, or a target -/
def jmb (M : mM) (s g : Nat) (b : Int) (j : Nat) : Prop := (mI M (s + 124) j ≠ -1 ∧ mI M (s + 124) j < b) ∨ mI M (g + 2) j = 3
def ldB (M : mM) (s g : Nat) (b : Int) (c : Nat) : Prop := ∃ i : Nat, mI M (g + 7) c ≤ i ∧ (i : Int) < mI M (g + 7) (c + 1) ∧ jmb M s g b (mI M (g + 8) i).toNat
def coB (M : mM) (s g : Nat) (b : Int) (k lo hi : Nat) : Prop := (mI M (g + 2) k = 1 ∧ ∃ c : Nat, lo ≤ c ∧ c < hi ∧ ldB M s g b c) ∨ (mI M (g + 2) k ≠ 1 ∧ lo < hi ∧ ∀ c : Nat, lo ≤ c → c < hi → ldB M s g b c)
/-- each marked state was marked when it came on by those before it -/
def mkB (M : mM) (s g cn : Nat) : Prop := ∀ k, k < cn → mI M (s + 124) k ≠ -1 → ∃ lo hi : Nat, (mI M (s + 122) k = ((lo : Nat) : Int) ∧ mI M (s + 123) k = ((hi : Nat) : Int)) ∧ coB M s g (mI M (s + 124) k) k lo hi
/-- sums over the unknown states -/
def smU (M : mM) (s cn un : Nat) : Prop := ∀ f : Nat → Int, sm (fun i => f (mI M (s + 125) i).toNat) un = sm (fun k => if mI M (s + 124) k = -1 then 0 else f k) cn
theorem coC.b {b : Int} (h : coC M s g k lo hi) (m : ∀ c, lo ≤ c → c < hi → ldC M s g c → ldB M' s g b c) (e : mI M' (g + 2) k = mI M (g + 2) k) : coB M' s g b k lo hi := by
  rcases h with ⟨h1, c, h2, h3, h4⟩ | ⟨h1, h2, h3⟩
  · exact Or.inl ⟨by rw [e]; exact h1, c, h2, h3, m c h2 h3 h4⟩
  · exact Or.inr ⟨by rw [e]; exact h1, h2, fun c a b => m c a b (h3 c a b)⟩
theorem coB.cg {b : Int} (h : coB M s g b k lo hi) (e2 : mI M' (g + 2) = mI M (g + 2)) (e7 : mI M' (g + 7) = mI M (g + 7)) (e8 : mI M' (g + 8) = mI M (g + 8)) (e : ∀ j, mI M (s + 124) j ≠ -1 → mI M' (s + 124) j = mI M (s + 124) j) : coB M' s g b k lo hi := by
  have m : ∀ c, ldB M s g b c → ldB M' s g b c := fun c u => by
    obtain ⟨i, u1, u2, u3⟩ := u
    refine ⟨i, by rw [e7]; exact u1, by rw [e7]; exact u2, ?_⟩
    rw [e8]
    rcases u3 with ⟨u3, u4⟩ | u3
    · exact Or.inl ⟨by rw [e _ u3]; exact u3, by rw [e _ u3]; exact u4⟩
    · exact Or.inr (by rw [e2]; exact u3)
  rcases h with ⟨h1, c, h2, h3, h4⟩ | ⟨h1, h2, h3⟩
  · exact Or.inl ⟨by rw [e2]; exact h1, c, h2, h3, m c h4⟩
  · exact Or.inr ⟨by rw [e2]; exact h1, h2, fun c a b => m c (h3 c a b)⟩
/-- a state is marked -/
theorem mk_step (hT : GTT M g cn cc bc) (hs : Slo M s un) (hb : mkB M s g cn) (hm : smU M s cn un) (hk : k < cn) (h0 : mI M (s + 124) k = -1) (hl : mI M (s + 122) k = ((lo : Nat) : Int) ∧ mI M (s + 123) k = ((hi : Nat) : Int)) (hh : hi ≤ cc) (hc : coC M s g k lo hi) (eg : ∀ i, i ≤ 9 → mI M' (g + i) = mI M (g + i)) (e122 : mI M' (s + 122) = mI M (s + 122)) (e123 : mI M' (s + 123) = mI M (s + 123)) (e124 : ∀ j, mI M' (s + 124) j = if j = k then ((un : Nat) : Int) else mI M (s + 124) j) (e125 : ∀ j, mI M' (s + 125) j = if j = un then ((k : Nat) : Int) else mI M (s + 125) j) : mkB M' s g cn ∧ smU M' s cn (un + 1) := by
  have e2 := eg 2 (by decide)
  have e7 := eg 7 (by decide)
  have e8 := eg 8 (by decide)
  have old : ∀ j, mI M (s + 124) j ≠ -1 → mI M' (s + 124) j = mI M (s + 124) j := fun j hj => by
    rw [e124, if_neg (fun u => hj (by rw [u]; exact h0))]
  refine ⟨fun j hj u => ?_, fun f => ?_⟩
  · rw [e122, e123]
    by_cases c9 : j = k
    · subst c9
      refine ⟨lo, hi, hl, ?_⟩
      rw [e124, if_pos rfl]
      refine hc.b (fun c a b w => ?_) (by rw [e2])
      obtain ⟨i, w1, w2, w3⟩ := w
      obtain ⟨x, y, mu, f1, f2, -, -, br, -⟩ := hT.2.1 c (by omega)
      rw [f1] at w1
      rw [f2] at w2
      have bb := br i (by omega) (by omega)
      have cn5 := hT.1.1
      refine ⟨i, by rw [e7, f1]; exact w1, by rw [e7, f2]; exact w2, ?_⟩
      rw [e8]
      rcases w3 with w3 | w3
      · refine Or.inl ⟨by rw [old _ w3]; exact w3, ?_⟩
        rw [old _ w3]
        rcases hs (mI M (g + 8) i).toNat (by omega) with z | z
        · exact absurd z w3
        · exact z.2
      · exact Or.inr (by rw [e2]; exact w3)
    · rw [e124, if_neg c9] at u
      obtain ⟨lo', hi', l1, l2⟩ := hb j hj u
      refine ⟨lo', hi', l1, ?_⟩
      rw [e124, if_neg c9]
      exact l2.cg e2 e7 e8 old
  · show sm (fun i => f (mI M' (s + 125) i).toNat) un + f (mI M' (s + 125) un).toNat = _
    rw [e125, if_pos rfl, Int.toNat_natCast, sm_congr (g := fun i => f (mI M (s + 125) i).toNat) un (fun j hj => by rw [e125, if_neg (by omega)]), hm f]
    refine (sm_up9 (h := fun k => if mI M (s + 124) k = -1 then 0 else f k) (k := k) ?_ ?_ (fun j hj => ?_) cn hk).symm
    · show (if mI M (s + 124) k = -1 then 0 else f k) = 0
      rw [if_pos h0]
    · show (if mI M' (s + 124) k = -1 then 0 else f k) = f k
      rw [e124, if_pos rfl, if_neg (by omega)]
    · show (if mI M' (s + 124) j = -1 then 0 else f j) = (if mI M (s + 124) j = -1 then 0 else f j)
      rw [e124, if_neg hj]
end NBY
end
section
/-! The class's Solver: the unknown states exactly. -/
section NBZ
variable {G : mG} {d s g cn cc bc i k n c lo hi un : Nat} {M M0 M' M1 M2 M3 : mM}
/-- nothing from k on comes on -/
def noM (M : mM) (s g cn k : Nat) : Prop := ∀ j, k ≤ j → j < cn → mI M (s + 124) j = -1 → ∀ lo hi : Nat, mI M (s + 122) j = ((lo : Nat) : Int) → mI M (s + 123) j = ((hi : Nat) : Int) → ¬ coC M s g j lo hi
def fuX (M0 : mM) (s g cn cc bc un : Nat) (M : mM) : Prop := FI (Sun s) M0 M ∧ SG M s g cn cc bc ∧ LHs M s cn cc ∧ Unk M s cn un ∧ mkB M s g cn ∧ smU M s cn un
/-- found all, or one too many -/
def fuR (M0 : mM) (s g cn cc bc : Nat) (x : Int) (M : mM) : Prop := ∃ un, fuX M0 s g cn cc bc un M ∧ ((x = 1 ∧ noM M s g cn 0) ∨ (x = 0 ∧ un = 40 ∧ ∃ k, k < cn ∧ mI M (s + 124) k = -1 ∧ ∃ lo hi : Nat, mI M (s + 122) k = ((lo : Nat) : Int) ∧ mI M (s + 123) k = ((hi : Nat) : Int) ∧ coC M s g k lo hi))
theorem x_fu63 {l1 l2 x : Int} (h1 : l1 = 0 ∨ l1 = 1) (h2 : 0 ≤ l2 ∧ l2 ≤ 512) (hk : k < cn) (hI : fuX M0 s g cn cc bc un M) (hx : x = -1 ∨ (mI M (s + 124) k = -1 ∧ ∃ lo hi c : Nat, (mI M (s + 122) k = ((lo : Nat) : Int) ∧ mI M (s + 123) k = ((hi : Nat) : Int)) ∧ coC M s g k lo hi ∧ x = ((c : Nat) : Int) ∧ lo ≤ c ∧ c < hi))
    (hQ0 : x = -1 → h_So_findUnknown_40 G d s l1 l2 ((k : Int) - 1) M (fuR M0 s g cn cc bc)) (hQ1 : ∀ M', fuX M0 s g cn cc bc (un + 1) M' → h_So_findUnknown_40 G d s 1 l2 ((k : Int) - 1) M' (fuR M0 s g cn cc bc)) : h_So_findUnknown_63 G d s l1 l2 k x M (fuR M0 s g cn cc bc) := by
  have hI0 := hI
  obtain ⟨F, hg, hL, ⟨u1, u2, u3, u4⟩, hb, hm⟩ := hI
  obtain ⟨o, ⟨⟨s0, gs⟩, ⟨-, -, -, -, -, -, -, r7, r8, r9, -⟩, ⟨-, -, -, -, k7, k8, k9, -⟩, ⟨-, -, -, -, n7, n8, n9, -⟩⟩, -, -, hT⟩ := id hg
  obtain ⟨hc1, hc2, hc3⟩ := hT.1
  have xi : i32 x := by
    rcases hx with e | ⟨-, lo, hi, c, ⟨e1, e2⟩, -, e3, e4, e5⟩
    · rw [e]; exact ⟨by decide, by decide⟩
    · obtain ⟨lo', hi', f1, f2, f3, f4⟩ := hL k hk
      exact ⟨by omega, by omega⟩
  refine k_So_findUnknown_63 o (m_b32 h1) ⟨by omega, by omega⟩ ⟨by omega, by omega⟩ xi ⟨fun z => by
    have := hQ0 z
    rw [show ((k : Int) - 1) = (k : Int) + (-1) by first | rfl | omega] at this
    exact this, fun xn => ?_⟩
  obtain ⟨k0, lo, hi, c, ⟨e1, e2⟩, hco, e3, e4, e5⟩ := hx.resolve_left xn
  obtain ⟨lo', hi', f1, f2, f3, f4⟩ := hL k hk
  rw [u1]
  refine ⟨s0, fun z => ⟨un, hI0, Or.inr ⟨rfl, by omega, k, hk, k0, lo, hi, e1, e2, hco⟩⟩, fun ne => ?_⟩
  rw [r7, n7, Int.toNat_natCast]
  refine ⟨k7, ⟨by omega, by omega⟩, fun M41 e41 => ?_⟩
  have f41 : FI (fun z => z = s + 124) M M41 := by rw [e41]; exact FI.ui rfl
  rw [f41.1, f41.2.1, f41.2.2.1, r8, n8, f41.2.2.2.2.2.2 s (show ¬ s = s + 124 by first | rfl | omega), u1, Int.toNat_natCast]
  refine ⟨k8, ⟨by omega, by omega⟩, fun M45 e45 => ?_⟩
  have f45 : FI (fun z => z = s + 125) M41 M45 := by rw [e45]; exact FI.ui rfl
  rw [f45.1, f45.2.1, f45.2.2.1, f41.1, f41.2.1, f41.2.2.1, r9, n9, f45.2.2.2.2.2.2 s (show ¬ s = s + 125 by first | rfl | omega), f41.2.2.2.2.2.2 s (show ¬ s = s + 124 by first | rfl | omega), u1, Int.toNat_natCast]
  refine ⟨k9, ⟨by omega, by omega⟩, fun M49 e49 => ?_⟩
  have f49 : FI (fun z => z = s + 126) M45 M49 := by rw [e49]; exact FI.ui rfl
  rw [f49.2.2.2.2.2.2 s (show ¬ s = s + 126 by first | rfl | omega), f45.2.2.2.2.2.2 s (show ¬ s = s + 125 by first | rfl | omega), f41.2.2.2.2.2.2 s (show ¬ s = s + 124 by first | rfl | omega), u1]
  refine ⟨⟨by omega, by omega⟩, fun M52 e52 => ?_⟩
  have f52 : FI (fun z => z = s) M49 M52 := by rw [e52]; exact FI.ui rfl
  have ff : FI (Sun s) M M52 := (((f41.mono (fun _ u => Or.inr (Or.inl u))).trans (f45.mono (fun _ u => Or.inr (Or.inr (Or.inl u))))).trans (f49.mono (fun _ u => Or.inr (Or.inr (Or.inr u))))).trans (f52.mono (fun _ u => Or.inl u))
  have o52 : mOk M52 := by rw [e52]; exact mOk_UI (by rw [e49]; exact mOk_UI (by rw [e45]; exact mOk_UI (by rw [e41]; exact mOk_UI o ⟨by omega, by omega⟩) ⟨by omega, by omega⟩) xi) ⟨by omega, by omega⟩
  have i122 : mI M52 (s + 122) = mI M (s + 122) := ff.2.2.2.2.2.2 _ (fun u => by unfold Sun at u; omega)
  have i123 : mI M52 (s + 123) = mI M (s + 123) := ff.2.2.2.2.2.2 _ (fun u => by unfold Sun at u; omega)
  have i124 : ∀ j, mI M52 (s + 124) j = if j = k then ((un : Nat) : Int) else mI M (s + 124) j := fun j => by
    rw [f52.2.2.2.2.2.2 _ (show ¬ s + 124 = s by first | rfl | omega), f49.2.2.2.2.2.2 _ (show ¬ s + 124 = s + 126 by first | rfl | omega), f45.2.2.2.2.2.2 _ (show ¬ s + 124 = s + 125 by first | rfl | omega), mI_ui _ j e41]
    by_cases cj : j = k
    · rw [if_pos ⟨rfl, cj⟩, if_pos cj]
    · rw [if_neg (fun u => cj u.2), if_neg cj]
  have i125 : ∀ j, mI M52 (s + 125) j = if j = un then ((k : Nat) : Int) else mI M (s + 125) j := fun j => by
    rw [f52.2.2.2.2.2.2 _ (show ¬ s + 125 = s by first | rfl | omega), f49.2.2.2.2.2.2 _ (show ¬ s + 125 = s + 126 by first | rfl | omega), mI_ui _ j e45]
    by_cases cj : j = un
    · rw [if_pos ⟨rfl, cj⟩, if_pos cj]
    · rw [if_neg (fun u => cj u.2), if_neg cj, f41.2.2.2.2.2.2 _ (show ¬ s + 125 = s + 124 by first | rfl | omega)]
  have i126 : ∀ j, mI M52 (s + 126) j = if j = un then x else mI M (s + 126) j := fun j => by
    rw [f52.2.2.2.2.2.2 _ (show ¬ s + 126 = s by first | rfl | omega), mI_ui _ j e49]
    by_cases cj : j = un
    · rw [if_pos ⟨rfl, cj⟩, if_pos cj]
    · rw [if_neg (fun u => cj u.2), if_neg cj, f45.2.2.2.2.2.2 _ (show ¬ s + 126 = s + 125 by first | rfl | omega), f41.2.2.2.2.2.2 _ (show ¬ s + 126 = s + 124 by first | rfl | omega)]
  obtain ⟨hb', hm'⟩ := mk_step (M' := M52) hT u3 hb hm hk k0 ⟨e1, e2⟩ (by omega) hco (fun i hi => ff.2.2.2.2.2.2 _ (sun_g hg i hi)) i122 i123 i124 i125
  have := hQ1 M52 ⟨F.trans ff, hg.fi ff o52 (sun_g hg), fun j hj => by rw [i122, i123]; exact hL j hj, ⟨by rw [mI_ui s 10 e52, if_pos ⟨rfl, rfl⟩]; omega, by omega, fun j hj => ?_, fun j hj => ?_⟩, hb', hm'⟩
  · rw [show ((k : Int) - 1) = (k : Int) + (-1) by first | rfl | omega] at this
    exact this
  · rw [i124]
    by_cases cj : j = k
    · rw [if_pos cj]; exact Or.inr ⟨by omega, by omega⟩
    · rw [if_neg cj]
      rcases u3 j hj with e | e
      · exact Or.inl e
      · exact Or.inr ⟨e.1, by omega⟩
  · rw [i125, i126, i122, i123]
    by_cases cj : j = un
    · rw [if_pos cj, if_pos cj]
      exact ⟨k, c, lo, hi, rfl, hk, e3, e1, e2, e4, e5⟩
    · rw [if_neg cj, if_neg cj]
      exact u4 j (by omega)
theorem x_fu40 {l2 : Int} {u0 : Nat} (h2 : 0 ≤ l2 ∧ l2 ≤ 512) (hQ : ∀ (l1' : Int) (un : Nat) (M' : mM), fuX M0 s g cn cc bc un M' → ((l1' = 0 ∧ noM M' s g cn 0) ∨ (l1' = 1 ∧ u0 < un)) → h_So_findUnknown_17 G (d + 1) s l1' (l2 + 1) M' (fuR M0 s g cn cc bc)) : ∀ (k : Nat) (l1 : Int) (un : Nat) (M : mM), k ≤ cn → u0 ≤ un → ((l1 = 0 ∧ noM M s g cn k) ∨ (l1 = 1 ∧ u0 < un)) → fuX M0 s g cn cc bc un M → h_So_findUnknown_40 G (d + 1) s l1 l2 ((k : Int) - 1) M (fuR M0 s g cn cc bc) := by
  intro k
  induction k with
  | zero =>
    intro l1 un M hk hu h1 hI
    exact k_So_findUnknown_40 hI.2.1.1 (m_b32 (by omega)) ⟨by omega, by omega⟩ ⟨by omega, by omega⟩ ⟨fun _ => hQ l1 un M hI h1, fun u => absurd (by omega) u⟩
  | succ k ih =>
    intro l1 un M hk hu h1 hI
    obtain ⟨F, hg, hL, ⟨u1, u2, u3, u4⟩, hb, hm⟩ := id hI
    obtain ⟨o, ⟨⟨s0, gs⟩, ⟨-, -, -, -, -, -, -, r7, -⟩, ⟨-, -, -, -, k7, -⟩, ⟨-, -, -, -, n7, -⟩⟩, -, -, hT⟩ := id hg
    obtain ⟨hc1, hc2, hc3⟩ := hT.1
    have hl : l1 = 0 ∨ l1 = 1 := by omega
    rw [show ((k + 1 : Nat) : Int) - 1 = ((k : Nat) : Int) by first | rfl | omega]
    refine k_So_findUnknown_40 o (m_b32 hl) ⟨by omega, by omega⟩ ⟨by omega, by omega⟩ ⟨fun u => absurd u (by omega), fun _ => ?_⟩
    have ext : (mI M (s + 124) k = -1 → ∀ lo hi : Nat, mI M (s + 122) k = ((lo : Nat) : Int) → mI M (s + 123) k = ((hi : Nat) : Int) → ¬ coC M s g k lo hi) → ((l1 = 0 ∧ noM M s g cn k) ∨ (l1 = 1 ∧ u0 < un)) := fun z => by
      rcases h1 with ⟨a1, a2⟩ | a1
      · refine Or.inl ⟨a1, fun j j1 j2 j3 lo hi j4 j5 => ?_⟩
        by_cases c9 : j = k
        · subst c9
          exact z j3 lo hi j4 j5
        · exact a2 j (by omega) j2 j3 lo hi j4 j5
      · exact Or.inr a1
    rw [r7, n7, Int.toNat_natCast]
    refine ⟨s0, k7, ⟨by omega, by omega⟩, fun z => (x_So_wayFrom (d := d) hg hL (show k < cn by omega)).mono (fun x M' q => ?_), fun z => x_fu63 hl h2 (by omega) hI (Or.inl rfl) (fun _ => ih l1 un M (by omega) hu (ext (fun w => absurd w z)) hI) (fun M' hI' => ih 1 (un + 1) M' (by omega) (by omega) (Or.inr ⟨rfl, by omega⟩) hI')⟩
    obtain ⟨e, lo, hi, ⟨e1, e2⟩, hx⟩ := q
    rw [e]
    obtain ⟨lo', hi', f1, f2, f3, f4⟩ := hL k (by omega)
    have xi : i32 x := by
      rcases hx with ⟨e, -⟩ | ⟨-, c, e3, e4, e5⟩
      · rw [e]; exact ⟨by decide, by decide⟩
      · exact ⟨by omega, by omega⟩
    refine ⟨xi, o, x_fu63 hl h2 (by omega) hI ?_ (fun xe => ih l1 un M (by omega) hu (ext (fun _ lo2 hi2 a1 a2 => ?_)) hI) (fun M' hI' => ih 1 (un + 1) M' (by omega) (by omega) (Or.inr ⟨rfl, by omega⟩) hI')⟩
    · rcases hx with ⟨y, -⟩ | ⟨y, c, e3, e4, e5⟩
      · exact Or.inl y
      · exact Or.inr ⟨z, lo, hi, c, ⟨e1, e2⟩, y, e3, e4, e5⟩
    · have el : lo2 = lo := by rw [e1] at a1; omega
      have eh : hi2 = hi := by rw [e2] at a2; omega
      subst el
      subst eh
      rcases hx with ⟨-, y⟩ | ⟨-, c, e3, -⟩
      · exact y
      · omega
theorem x_So_findUnknown (h : SG M s g cn cc bc) (hL : LHs M s cn cc) : Ci G y_So_findUnknown (d + 2) [vr s] M (fuR M s g cn cc bc) := by
  obtain ⟨o, ⟨⟨s0, gs⟩, ⟨-, -, -, -, -, -, -, r7, -⟩, ⟨-, -, -, -, k7, -⟩, ⟨-, -, -, -, n7, -⟩⟩, -, -, hT⟩ := id h
  refine k_So_findUnknown o ⟨s0, fun M2 e2 => ?_⟩
  have f2 : FI (fun z => z = s) M M2 := by rw [e2]; exact FI.ui rfl
  have o2 : mOk M2 := by rw [e2]; exact mOk_UI o ⟨by decide, by decide⟩
  rw [f2.2.2.1, r7]
  refine (s_JA_fill (d := d + 1) o2 (by rw [f2.1]; exact k7) (by rw [f2.2.1, n7]; decide) ⟨by decide, by decide⟩).mono (fun M4 q => ?_)
  obtain ⟨o4, f4, i4⟩ := q
  rw [f2.2.1, n7] at i4
  have ff : FI (Sun s) M M4 := (f2.mono (fun _ u => Or.inl u)).trans (f4.mono (fun _ u => Or.inr (Or.inl u)))
  have z9 : ∀ (f : Nat → Int) (n : Nat), n ≤ 512 → sm (fun k => if mI M4 (s + 124) k = -1 then 0 else f k) n = 0 := fun f n => by
    induction n with
    | zero => exact fun _ => rfl
    | succ n ih =>
      intro hn
      show sm (fun k => if mI M4 (s + 124) k = -1 then 0 else f k) n + (if mI M4 (s + 124) n = -1 then 0 else f n) = 0
      rw [ih (by omega), if_pos (i4 n (by omega))]
      all_goals rfl
  have cn5 := hT.1.1
  have I4 : fuX M s g cn cc bc 0 M4 := ⟨ff, h.fi ff o4 (sun_g h), fun j hj => by rw [ff.2.2.2.2.2.2 (s + 122) (fun u => by unfold Sun at u; omega), ff.2.2.2.2.2.2 (s + 123) (fun u => by unfold Sun at u; omega)]; exact hL j hj, ⟨by rw [f4.2.2.2.2.2.2 s (show ¬ s = s + 124 by first | rfl | omega), mI_ui s 10 e2, if_pos ⟨rfl, rfl⟩]; rfl, by decide, fun k hk => Or.inl (i4 k hk), fun i hi => absurd hi (by omega)⟩, fun k hk u => absurd (i4 k (by omega)) u, fun f => (z9 f cn cn5).symm⟩
  refine ⟨o4, ?_⟩
  suffices HH : ∀ (t sw : Nat) (l1 : Int) (un : Nat) (M1 : mM), 513 ≤ sw + t → sw ≤ 513 → ((l1 = 0 ∧ noM M1 s g cn 0) ∨ (l1 = 1 ∧ sw ≤ un)) → fuX M s g cn cc bc un M1 → h_So_findUnknown_17 G (d + 1) s l1 sw M1 (fuR M s g cn cc bc) from HH 513 0 1 0 M4 (by omega) (by omega) (Or.inr ⟨rfl, Nat.le_refl _⟩) I4
  intro t
  induction t with
  | zero =>
    intro sw l1 un M1 h1 h2 hl hI
    have u40 := hI.2.2.2.1.2.1
    have lb : l1 = 0 ∨ l1 = 1 := by omega
    have fin : (512 : Int) < sw ∨ l1 = 0 → fuR M s g cn cc bc 1 M1 := fun u => ⟨un, hI, Or.inl ⟨rfl, by
      rcases hl with hl | hl
      · exact hl.2
      · exfalso
        omega⟩⟩
    exact k_So_findUnknown_17 hI.2.1.1 (m_b32 lb) ⟨by omega, by omega⟩ ⟨fin, fun u => absurd (Or.inl (by omega)) u⟩
  | succ t ih =>
    intro sw l1 un M1 h1 h2 hl hI
    have u40 := hI.2.2.2.1.2.1
    have lb : l1 = 0 ∨ l1 = 1 := by omega
    have fin : (512 : Int) < sw ∨ l1 = 0 → fuR M s g cn cc bc 1 M1 := fun u => ⟨un, hI, Or.inl ⟨rfl, by
      rcases hl with hl | hl
      · exact hl.2
      · exfalso
        omega⟩⟩
    refine k_So_findUnknown_17 hI.2.1.1 (m_b32 lb) ⟨by omega, by omega⟩ ⟨fin, fun u => ?_⟩
    obtain ⟨-, ⟨⟨s0', -⟩, ⟨-, -, -, r3, -⟩, -⟩, ⟨g0, -⟩, -, hT'⟩ := id hI.2.1
    rw [r3, hT'.2.2.2]
    have sl : sw ≤ 512 := by
      by_cases c : (512 : Int) < sw
      · exact absurd (Or.inl c) u
      · omega
    refine ⟨s0', g0, x_fu40 (u0 := un) ⟨by omega, by omega⟩ (fun l1' un' M' hI' h1' => ?_) cn 0 un M1 (Nat.le_refl _) (Nat.le_refl _) (Or.inl ⟨rfl, fun j j1 j2 => absurd j2 (by omega)⟩) hI⟩
    rw [show ((sw : Int) + 1) = ((sw + 1 : Nat) : Int) by first | rfl | omega]
    refine ih (sw + 1) l1' un' M' (by omega) (by omega) ?_ hI'
    rcases h1' with y | ⟨y1, y2⟩
    · exact Or.inl y
    · refine Or.inr ⟨y1, ?_⟩
      have : l1 = 1 := by
        rcases lb with z | z
        · exact absurd (Or.inr z) u
        · exact z
      omega
end NBZ
end
section
/-! The class's Solver: the weights exactly. -/
section NBW
variable {G : mG} {d s g cn cc bc i k n c lo hi un : Nat} {M M0 M' M1 M2 M3 : mM}
theorem p2m9 : ∀ (w v : Nat), v ≤ w → (2 : Int) ^ v ≤ 2 ^ w ∧ (0 : Int) < 2 ^ w
  | 0, v, h => by
    have e : v = 0 := by omega
    rw [e]
    exact ⟨Int.le_refl _, by decide⟩
  | w + 1, v, h => by
    have e : (2 : Int) ^ (w + 1) = 2 ^ w * 2 := Int.pow_succ 2 w
    have p := (p2m9 w 0 (by omega)).2
    by_cases c : v = w + 1
    · rw [c]
      exact ⟨Int.le_refl _, by rw [e]; omega⟩
    · have q := (p2m9 w v (by omega)).1
      exact ⟨by rw [e]; omega, by rw [e]; omega⟩
theorem wt_1 : wtA9 1 1 := by
  refine ⟨by decide, fun v hv => ?_⟩
  have e : v = 0 := by omega
  rw [e]
  decide
/-- gr is the greatest multiple of the commands from lo to c, at least 1 -/
def gmC (M : mM) (g lo c : Nat) (gr : Int) : Prop := (∀ c', lo ≤ c' → c' < c → mI M (g + 6) c' ≤ gr) ∧ (gr = 1 ∨ ∃ c', lo ≤ c' ∧ c' < c ∧ mI M (g + 6) c' = gr)
theorem gmC.step {gr v mu : Int} (h : gmC M g lo c gr) (hc : lo ≤ c) (e : mI M (g + 6) c = mu) (hv : (v = gr ∧ mu ≤ gr) ∨ (v = mu ∧ gr ≤ mu)) : gmC M g lo (c + 1) v := by
  refine ⟨fun c' a b => ?_, ?_⟩
  · by_cases z : c' = c
    · rw [z, e]
      rcases hv with y | y
      · rw [y.1]; exact y.2
      · rw [y.1]; exact Int.le_refl _
    · have q := h.1 c' a (by omega)
      rcases hv with y | y
      · rw [y.1]; exact q
      · rw [y.1]; exact Int.le_trans q y.2
  · rcases hv with y | y
    · rw [y.1]
      rcases h.2 with z | ⟨c', a, b, z⟩
      · exact Or.inl z
      · exact Or.inr ⟨c', a, by omega, z⟩
    · exact Or.inr ⟨c, hc, by omega, by rw [y.1]; exact e⟩
/-- the weight of the i-th unknown state -/
def weC (M : mM) (s g i w : Nat) : Prop := ∃ (k lo hi : Nat) (gr : Int), mI M (s + 125) i = ((k : Nat) : Int) ∧ mI M (s + 122) k = ((lo : Nat) : Int) ∧ mI M (s + 123) k = ((hi : Nat) : Int) ∧ gmC M g lo hi gr ∧ 1 ≤ gr ∧ wtA9 gr w
def wesX (M : mM) (s g un : Nat) (x : Int) (M' : mM) : Prop := M' = M ∧ ∃ wt : Nat → Nat, x = ((wsu wt un : Nat) : Int) ∧ ∀ i, i < un → weC M s g i (wt i) ∧ wt i ≤ 33
theorem x_wgh27 {l1 : Int} {hi' : Nat} (hg : SG M s g cn cc bc) (hL : LHs M s cn cc) (hU : Unk M s cn un) (hi : i < un) (hl : 0 ≤ l1 ∧ l1 ≤ 100000) (e1 : mI M (s + 125) i = ((k : Nat) : Int)) (hk : k < cn) (e2 : mI M (s + 122) k = ((lo : Nat) : Int)) (e3 : mI M (s + 123) k = ((hi' : Nat) : Int)) (lh : lo ≤ hi' ∧ hi' ≤ cc)
    (hQ : ∀ w : Nat, w ≤ 33 → weC M s g i w → h_So_weights_4 G d s (l1 + ((w : Nat) : Int)) ((i + 1 : Nat) : Int) M (wesX M s g un)) : ∀ (t c : Nat) (gr : Int), hi' ≤ c + t → lo ≤ c → c ≤ hi' → 1 ≤ gr → gr < 1000000000 → gmC M g lo c gr → h_So_weights_27 G d s l1 i gr c M (wesX M s g un) := by
  obtain ⟨o, ⟨⟨s0, gs⟩, ⟨-, -, -, r3, -, r5, r6, -, r8, -⟩, ⟨-, -, k5, k6, -, k8, -⟩, ⟨-, -, n5, n6, -, n8, -⟩⟩, ⟨g0, ⟨-, -, q6, -⟩, gk, ⟨-, -, m6, -⟩⟩, -, hT⟩ := id hg
  obtain ⟨hc1, hc2, hc3⟩ := hT.1
  have u40 := hU.2.1
  have fin : ∀ (c : Nat) (gr : Int), c = hi' → 1 ≤ gr → gr < 1000000000 → gmC M g lo c gr → Ci G y_JI_nlz d [vi (gr - 1)] M (fun x23 M22 => i32 x23 ∧ mOk M22 ∧ (h_So_weights_4 G d s (l1 + (33 - x23)) ((i : Int) + 1) M22 (wesX M s g un))) := by
    intro c gr ec g1 g2 gm
    have wo : ∀ w : Nat, wtA9 gr w → weC M s g i w := fun w hw => ⟨k, lo, hi', gr, e1, e2, e3, by rw [← ec]; exact gm, g1, hw⟩
    rw [show ((i : Int) + 1) = ((i + 1 : Nat) : Int) by first | rfl | omega]
    by_cases z : gr = 1
    · rw [z, show (1 : Int) - 1 = 0 by decide]
      refine (s_nlz0 (d := d) o).mono (fun x M' q => ?_)
      rw [q.1, q.2]
      refine ⟨⟨by decide, by decide⟩, o, ?_⟩
      have := hQ 1 (by decide) (wo 1 (by rw [z]; exact wt_1))
      rw [show l1 + (33 - 32) = l1 + ((1 : Nat) : Int) by first | rfl | omega]
      exact this
    · refine (s_nlz (d := d) (show 0 < gr - 1 by omega) ⟨by omega, by omega⟩ o).mono (fun x M' q => ?_)
      obtain ⟨e, kk, ek, k31, q1, q2⟩ := q
      rw [e, ek]
      refine ⟨⟨by omega, by omega⟩, o, ?_⟩
      have p1 : (2 : Int) ^ (33 - kk) = 2 ^ (32 - kk) * 2 := by rw [show 33 - kk = (32 - kk) + 1 by first | rfl | omega, Int.pow_succ]
      have p2 : (2 : Int) ^ (32 - kk) = 2 ^ (31 - kk) * 2 := by rw [show 32 - kk = (31 - kk) + 1 by first | rfl | omega, Int.pow_succ]
      have w1 : wtA9 gr (33 - kk) := ⟨by rw [p1]; omega, fun v hv => by
        have := p2m9 (32 - kk) v (by omega)
        omega⟩
      have := hQ (33 - kk) (by omega) (wo _ w1)
      rw [show l1 + (33 - ((kk : Nat) : Int)) = l1 + ((33 - kk : Nat) : Int) by first | rfl | omega]
      exact this
  intro t
  induction t with
  | zero =>
    intro c gr h1 h2 h3 g1 g2 gm
    refine k_So_weights_27 o ⟨by omega, by omega⟩ ⟨by omega, by omega⟩ ⟨by omega, by omega⟩ ⟨by omega, by omega⟩ ?_
    rw [r8, n8, r6, n6, Int.toNat_natCast, e1, Int.toNat_natCast, e3]
    exact ⟨s0, k8, ⟨by omega, by omega⟩, k6, ⟨by omega, by omega⟩, fun _ => fin c gr (by omega) g1 g2 gm, fun u => absurd (by omega) u⟩
  | succ t ih =>
    intro c gr h1 h2 h3 g1 g2 gm
    refine k_So_weights_27 o ⟨by omega, by omega⟩ ⟨by omega, by omega⟩ ⟨by omega, by omega⟩ ⟨by omega, by omega⟩ ?_
    rw [r8, n8, r6, n6, Int.toNat_natCast, e1, Int.toNat_natCast, e3]
    refine ⟨s0, k8, ⟨by omega, by omega⟩, k6, ⟨by omega, by omega⟩, fun u => fin c gr (by omega) g1 g2 gm, fun u => ?_⟩
    obtain ⟨x, y, mu, -, -, -, -, -, e6, mu1, mu2, -⟩ := hT.2.1 c (by omega)
    rw [r3, q6, m6, Int.toNat_natCast, show ((c : Int) + 1) = ((c + 1 : Nat) : Int) by first | rfl | omega, e6]
    refine ⟨g0, gk 6 (by decide) (by decide), ⟨by omega, by omega⟩, ih (c + 1) _ (by omega) (by omega) (by omega) ?_ ?_ ?_⟩
    · split <;> omega
    · split <;> omega
    · refine gm.step h2 e6 ?_
      split <;> omega
theorem x_So_weights (hg : SG M s g cn cc bc) (hL : LHs M s cn cc) (hU : Unk M s cn un) : Ci G y_So_weights (d + 1) [vr s] M (wesX M s g un) := by
  obtain ⟨o, ⟨⟨s0, gs⟩, ⟨-, -, -, r3, -, r5, r6, -, r8, -⟩, ⟨-, -, k5, k6, -, k8, -⟩, ⟨-, -, n5, n6, -, n8, -⟩⟩, -, -, hT⟩ := id hg
  obtain ⟨hc1, hc2, hc3⟩ := hT.1
  obtain ⟨u1, u2, u3, u4⟩ := id hU
  refine k_So_weights o ?_
  suffices HH : ∀ (t i : Nat) (wt : Nat → Nat), un ≤ i + t → i ≤ un → (∀ j, j < i → weC M s g j (wt j) ∧ wt j ≤ 33) → wsu wt i ≤ 33 * i → h_So_weights_4 G d s ((wsu wt i : Nat) : Int) i M (wesX M s g un) from HH un 0 (fun _ => 0) (by omega) (by omega) (fun j hj => absurd hj (by omega)) (by decide)
  intro t
  induction t with
  | zero =>
    intro i wt h1 h2 hw hb
    have ei : i = un := by omega
    subst ei
    refine k_So_weights_4 o ⟨by omega, by omega⟩ ⟨by omega, by omega⟩ ?_
    rw [u1]
    exact ⟨s0, fun _ => ⟨rfl, wt, rfl, hw⟩, fun u => absurd (Int.le_refl _) u⟩
  | succ t ih =>
    intro i wt h1 h2 hw hb
    by_cases ei : i = un
    · exact ih i wt (by omega) h2 hw hb
    have hi : i < un := by omega
    obtain ⟨k, c, lo, hi', e1, hk, e4, e2, e3, l1, l2⟩ := u4 i hi
    obtain ⟨lo', hi2, f1, f2, f3, f4⟩ := hL k hk
    refine k_So_weights_4 o ⟨by omega, by omega⟩ ⟨by omega, by omega⟩ ?_
    rw [u1, r8, n8, r5, n5, Int.toNat_natCast, e1, Int.toNat_natCast, e2]
    refine ⟨s0, fun u => absurd u (by omega), fun _ => ⟨k8, ⟨by omega, by omega⟩, k5, ⟨by omega, by omega⟩, ?_⟩⟩
    refine x_wgh27 hg hL hU hi ⟨by omega, by omega⟩ e1 hk e2 e3 ⟨by omega, by omega⟩ (fun w w33 wo => ?_) (hi' - lo) lo 1 (by omega) (Nat.le_refl _) (by omega) (by decide) (by decide) ⟨fun c' h1 h2 => absurd h2 (by omega), Or.inl rfl⟩
    have cg : wsu (fun j => if j = i then w else wt j) i = wsu wt i := wsu_cg i (fun j hj => by rw [if_neg (by omega)])
    have sm : wsu (fun j => if j = i then w else wt j) (i + 1) = wsu wt i + w := by
      show wsu (fun j => if j = i then w else wt j) i + (if i = i then w else wt i) = _
      rw [cg, if_pos rfl]
    have := ih (i + 1) (fun j => if j = i then w else wt j) (by omega) (by omega) (fun j hj => by
      by_cases cj : j = i
      · show weC M s g j (if j = i then w else wt j) ∧ (if j = i then w else wt j) ≤ 33
        rw [if_pos cj, cj]; exact ⟨wo, w33⟩
      · show weC M s g j (if j = i then w else wt j) ∧ (if j = i then w else wt j) ≤ 33
        rw [if_neg cj]; exact hw j (by omega)) (by rw [sm]; omega)
    rw [sm] at this
    rw [show ((wsu wt i : Nat) : Int) + ((w : Nat) : Int) = ((wsu wt i + w : Nat) : Int) by first | rfl | omega]
    exact this
end NBW
end
section
/-! The class's unknown states are the least closed set. -/
section NCS
variable {T : xt9} {J J' : Nat → Prop} {x : Int × List sc9} {s g cn cc bc k lo hi un : Nat} {M M0 M' : mM} {r : Int}
/-- the game's tables, with the commands that are left, are T's -/
def ClT (M : mM) (s g cn : Nat) (T : xt9) : Prop := T.length = cn ∧ ∀ (k : Nat) (x : Int × List sc9), T[k]? = some x → mI M (g + 2) k = x.1 ∧ (x.1 = 1 ∨ x.1 = 2 ∨ x.2 = []) ∧ ∃ lo : Nat, mI M (s + 122) k = ((lo : Nat) : Int) ∧ mI M (s + 123) k = ((lo + x.2.length : Nat) : Int) ∧ ∀ (i : Nat) (c : sc9), x.2[i]? = some c → mI M (g + 6) (lo + i) = c.2.1 ∧ (∀ b, b ∈ c.2.2 → b.1 < cn) ∧ ∀ J : Nat → Prop, (∃ j : Nat, mI M (g + 7) (lo + i) ≤ j ∧ (j : Int) < mI M (g + 7) (lo + i + 1) ∧ J (mI M (g + 8) j).toNat) ↔ ldA9 J c
def coG (J : Nat → Prop) (M : mM) (g k lo hi : Nat) : Prop := (mI M (g + 2) k = 1 ∧ ∃ c : Nat, lo ≤ c ∧ c < hi ∧ ∃ j : Nat, mI M (g + 7) c ≤ j ∧ (j : Int) < mI M (g + 7) (c + 1) ∧ J (mI M (g + 8) j).toNat) ∨ (mI M (g + 2) k ≠ 1 ∧ lo < hi ∧ ∀ c : Nat, lo ≤ c → c < hi → ∃ j : Nat, mI M (g + 7) c ≤ j ∧ (j : Int) < mI M (g + 7) (c + 1) ∧ J (mI M (g + 8) j).toNat)
theorem coG_iff (h : ClT M s g cn T) (hx : T[k]? = some x) (h1 : mI M (s + 122) k = ((lo : Nat) : Int)) (h2 : mI M (s + 123) k = ((hi : Nat) : Int)) : coG J M g k lo hi ↔ coA9 J x := by
  obtain ⟨a1, a2, l, a3, a4, a5⟩ := h.2 k x hx
  have el : l = lo := by rw [h1] at a3; omega
  subst el
  have eh : hi = l + x.2.length := by rw [h2] at a4; omega
  subst eh
  unfold coG coA9
  rw [a1]
  constructor
  · intro u
    rcases u with ⟨u1, c, u2, u3, u4⟩ | ⟨u1, u2, u3⟩
    · have g9 := List.getElem?_eq_getElem (l := x.2) (i := c - l) (by omega)
      have e : l + (c - l) = c := by omega
      have q := (a5 (c - l) _ g9).2.2 J
      rw [e] at q
      exact Or.inl ⟨u1, _, List.mem_of_getElem? g9, q.mp u4⟩
    · refine Or.inr ⟨?_, fun e => by rw [e] at u2; exact absurd u2 (by simp), fun c hc => ?_⟩
      · rcases a2 with y | y | y
        · exact absurd y u1
        · exact y
        · rw [y] at u2
          exact absurd u2 (by simp)
      · obtain ⟨i, hi⟩ := List.getElem?_of_mem hc
        have lt := lt_some hi
        exact ((a5 i c hi).2.2 J).mp (u3 (l + i) (by omega) (by omega))
  · intro u
    rcases u with ⟨u1, c, hc, u2⟩ | ⟨u1, u2, u3⟩
    · obtain ⟨i, hi⟩ := List.getElem?_of_mem hc
      have lt := lt_some hi
      exact Or.inl ⟨u1, l + i, by omega, by omega, ((a5 i c hi).2.2 J).mpr u2⟩
    · have ne : x.2.length ≠ 0 := fun e => u2 (List.length_eq_zero_iff.mp e)
      refine Or.inr ⟨by rw [u1]; decide, by omega, fun c c1 c2 => ?_⟩
      have g9 := List.getElem?_eq_getElem (l := x.2) (i := c - l) (by omega)
      have e : l + (c - l) = c := by omega
      have q := (a5 (c - l) _ g9).2.2 J
      rw [e] at q
      exact q.mpr (u3 _ (List.mem_of_getElem? g9))
theorem coA9.mono2 (h : coA9 J x) (m : ∀ c, c ∈ x.2 → ∀ b, b ∈ c.2.2 → J b.1 → J' b.1) : coA9 J' x := by
  rcases h with ⟨h1, c, h2, b, h3, h4⟩ | ⟨h1, h2, h3⟩
  · exact Or.inl ⟨h1, c, h2, b, h3, m c h2 b h3 h4⟩
  · refine Or.inr ⟨h1, h2, fun c hc => ?_⟩
    obtain ⟨b, h4, h5⟩ := h3 c hc
    exact ⟨b, h4, m c hc b h4 h5⟩
/-- marked states lie in every closed set -/
theorem cl_inn (h : ClT M s g cn T) (hs : Slo M s un) (c5 : cn ≤ 512) (hb : mkB M s g cn) (hc : clA9 T J') : ∀ k, (k < cn ∧ jmk M s g k) → J' k := by
  refine rk_in (J := fun k => k < cn ∧ jmk M s g k) (fun k => if mI M (g + 2) k = 3 then 0 else (mI M (s + 124) k).toNat + 1) (fun k hJ => ?_) hc
  obtain ⟨lt, hj⟩ := hJ
  have hx := List.getElem?_eq_getElem (l := T) (i := k) (by rw [h.1]; exact lt)
  refine ⟨_, hx, ?_⟩
  obtain ⟨a1, a2, l, a3, a4, a5⟩ := h.2 k _ hx
  by_cases z : mI M (g + 2) k = 3
  · exact Or.inl (by rw [← a1]; exact z)
  · have sl : mI M (s + 124) k ≠ -1 := hj.resolve_right z
    obtain ⟨lo, hi, ⟨l1, l2⟩, l3⟩ := hb k lt sl
    have sk := (hs k (by omega)).resolve_left sl
    refine Or.inr (((coG_iff (J := jmb M s g (mI M (s + 124) k)) h hx l1 l2).mp l3).mono2 (fun c hc b hb9 w => ?_))
    obtain ⟨i, hi9⟩ := List.getElem?_of_mem hc
    have lb := (a5 i c hi9).2.1 b hb9
    refine ⟨⟨lb, ?_⟩, ?_⟩
    · rcases w with w | w
      · exact Or.inl w.1
      · exact Or.inr w
    · show (if mI M (g + 2) b.1 = 3 then 0 else (mI M (s + 124) b.1).toNat + 1) < (if mI M (g + 2) k = 3 then 0 else (mI M (s + 124) k).toNat + 1)
      rw [if_neg z]
      by_cases y : mI M (g + 2) b.1 = 3
      · rw [if_pos y]
        omega
      · rw [if_neg y]
        have w' := w.resolve_right y
        have sb := (hs b.1 (by omega)).resolve_left w'.1
        omega
/-- all are found: the marks and the targets are the least closed set -/
theorem cl_ls (h : ClT M s g cn T) (hs : Slo M s un) (c5 : cn ≤ 512) (hb : mkB M s g cn) (hn : noM M s g cn 0) : lsA9 T (fun k => k < cn ∧ jmk M s g k) := by
  refine ⟨fun k x hx u => ?_, fun J' hc => cl_inn h hs c5 hb hc⟩
  have lt : k < cn := by rw [← h.1]; exact lt_some hx
  obtain ⟨a1, a2, l, a3, a4, a5⟩ := h.2 k x hx
  refine ⟨lt, ?_⟩
  rcases u with u | u
  · exact Or.inr (by rw [a1]; exact u)
  · refine Or.inl (fun z => ?_)
    exact hn k (Nat.zero_le _) lt z l _ a3 a4 ((coG_iff (J := jmk M s g) h hx a3 a4).mpr (u.mono (fun j hj => hj.2)))
end NCS
end
section
/-! The class's answer is what the least closed set says. -/
section NCR
variable {T : xt9} {J J' : Nat → Prop} {x : Int × List sc9} {s g cn cc bc k lo hi un : Nat} {M M0 M' : mM} {r : Int}
theorem sm_one : ∀ n, sm (fun _ => 1) n = ((n : Nat) : Int)
  | 0 => rfl
  | n + 1 => by
    show sm (fun _ => 1) n + 1 = _
    rw [sm_one n]
    omega
theorem sm_pos {f : Nat → Int} : ∀ n, 0 < sm f n → ∃ i, i < n ∧ f i ≠ 0
  | 0, h => absurd (show (0 : Int) < 0 from h) (by decide)
  | n + 1, h => by
    by_cases c : f n = 0
    · have h' : 0 < sm f n := by
        have : 0 < sm f n + f n := h
        omega
      obtain ⟨i, a, b⟩ := sm_pos n h'
      exact ⟨i, by omega, b⟩
    · exact ⟨n, by omega, c⟩
theorem sm_ge {f : Nat → Int} {k : Nat} (h : ∀ j, 0 ≤ f j) : ∀ n, k < n → f k ≤ sm f n
  | 0, u => absurd u (by omega)
  | n + 1, u => by
    have p : 0 ≤ sm f n := by
      clear u
      induction n with
      | zero => exact Int.le_refl _
      | succ n ih =>
        show 0 ≤ sm f n + f n
        have := h n
        omega
    show f k ≤ sm f n + f n
    by_cases c : k = n
    · rw [c]
      omega
    · have := sm_ge (k := k) h n (by omega)
      have := h n
      omega
/-- the unknown states are just the marked ones -/
theorem un_of (hm : smU M s cn un) (hk : k < cn) (h : mI M (s + 124) k ≠ -1) : ∃ i, i < un ∧ (mI M (s + 125) i).toNat = k := by
  have e := hm (fun j => if j = k then 1 else 0)
  have p : 0 < sm (fun i => if (mI M (s + 125) i).toNat = k then (1 : Int) else 0) un := by
    rw [e]
    have q := sm_ge (f := fun j => if mI M (s + 124) j = -1 then 0 else if j = k then (1 : Int) else 0) (k := k) (fun j => by
      show 0 ≤ (if mI M (s + 124) j = -1 then 0 else if j = k then (1 : Int) else 0)
      split
      · omega
      · split <;> omega) cn hk
    have q2 : (if mI M (s + 124) k = -1 then 0 else if k = k then (1 : Int) else 0) ≤ sm (fun j => if mI M (s + 124) j = -1 then 0 else if j = k then (1 : Int) else 0) cn := q
    rw [if_neg h, if_pos rfl] at q2
    omega
  obtain ⟨i, a, b⟩ := sm_pos un p
  refine ⟨i, a, Classical.byContradiction (fun u => b (if_neg u))⟩
theorem mk_kd (h : ClT M s g cn T) (hb : mkB M s g cn) (hx : T[k]? = some x) (u : mI M (s + 124) k ≠ -1) : x.1 = 1 ∨ x.1 = 2 := by
  have lt : k < cn := by rw [← h.1]; exact lt_some hx
  obtain ⟨lo, hi, ⟨l1, l2⟩, l3⟩ := hb k lt u
  rcases (coG_iff (J := jmb M s g (mI M (s + 124) k)) h hx l1 l2).mp l3 with y | y
  · exact Or.inl y.1
  · exact Or.inr y.1
theorem cl_un (h : ClT M s g cn T) (hb : mkB M s g cn) : unA9 T (fun k => k < cn ∧ jmk M s g k) (fun k => if mI M (s + 124) k = -1 then 0 else 1) := fun k x hx => by
  have lt : k < cn := by rw [← h.1]; exact lt_some hx
  obtain ⟨a1, -⟩ := h.2 k x hx
  refine ⟨fun u => ?_, fun u => ?_⟩
  · show (if mI M (s + 124) k = -1 then (0 : Int) else 1) = 1
    rcases u.1.2 with y | y
    · rw [if_neg y]
    · exact absurd (a1.symm.trans y) u.2
  · show (if mI M (s + 124) k = -1 then (0 : Int) else 1) = 0
    by_cases z : mI M (s + 124) k = -1
    · rw [if_pos z]
    · refine absurd ⟨⟨lt, Or.inl z⟩, ?_⟩ u
      rcases mk_kd h hb hx z with y | y <;> rw [y] <;> decide
/-- a refusal: there are 40, and one more -/
theorem cl_many (h : ClT M s g cn T) (hs : Slo M s 40) (c5 : cn ≤ 512) (hb : mkB M s g cn) (hm : smU M s cn 40) (hk : k < cn) (k0 : mI M (s + 124) k = -1) (l1 : mI M (s + 122) k = ((lo : Nat) : Int)) (l2 : mI M (s + 123) k = ((hi : Nat) : Int)) (hc : coC M s g k lo hi) (inn : ∀ J', clA9 T J' → ∀ j, j < cn → jmk M s g j → J' j) : svA9 T 5 := by
  obtain ⟨e, he⟩ := un_ex (T := T) (fun k => ∀ J', clA9 T J' → J' k)
  refine ⟨_, e, ls_ex, he, Or.inl ⟨?_, rfl⟩⟩
  have o := hm (fun _ => 1)
  rw [sm_one] at o
  obtain ⟨xk, hx⟩ : ∃ y, T[k]? = some y := ⟨_, List.getElem?_eq_getElem (by rw [h.1]; exact hk)⟩
  have ck := (coG_iff (J := jmk M s g) h hx l1 l2).mp hc
  obtain ⟨a1, a2, l, a3, a4, a5⟩ := h.2 k _ hx
  have u := sm_up9 (h := fun k => if mI M (s + 124) k = -1 then (0 : Int) else 1) (h' := fun j => if j = k then 1 else if mI M (s + 124) j = -1 then 0 else 1) (k := k) (v := 1) (by show (if mI M (s + 124) k = -1 then (0 : Int) else 1) = 0; rw [if_pos k0]) (by show (if k = k then (1 : Int) else _) = 1; rw [if_pos rfl]) (fun j hj => by show (if j = k then (1 : Int) else if mI M (s + 124) j = -1 then 0 else 1) = _; rw [if_neg hj]) cn hk
  have le : sm (fun j => if j = k then (1 : Int) else if mI M (s + 124) j = -1 then 0 else 1) cn ≤ sm e cn := sm_le9 cn (fun j hj => by
    obtain ⟨y9, hy⟩ : ∃ y, T[j]? = some y := ⟨_, List.getElem?_eq_getElem (by rw [h.1]; exact hj)⟩
    have hj9 := he j _ hy
    have e0 : 0 ≤ e j := by
      by_cases z : (∀ J', clA9 T J' → J' j) ∧ y9.1 ≠ 3
      · rw [hj9.1 z]; decide
      · rw [hj9.2 z]; decide
    show (if j = k then (1 : Int) else if mI M (s + 124) j = -1 then 0 else 1) ≤ e j
    by_cases c9 : j = k
    · have ey : y9 = xk := by
        rw [c9] at hy
        exact Option.some.inj (hy.symm.trans hx)
      have u1 : (∀ J', clA9 T J' → J' j) ∧ y9.1 ≠ 3 := by
        refine ⟨fun J' hc9 => hc9 j y9 hy (Or.inr ?_), ?_⟩
        · rw [ey]
          refine ck.mono2 (fun c h1 b h2 h3 => ?_)
          obtain ⟨i, hi9⟩ := List.getElem?_of_mem h1
          exact inn J' hc9 b.1 ((a5 i c hi9).2.1 b h2) h3
        · rw [ey]
          rcases ck with y | y <;> rw [y.1] <;> decide
      rw [if_pos c9, hj9.1 u1]
      exact Int.le_refl _
    · rw [if_neg c9]
      by_cases z : mI M (s + 124) j = -1
      · rw [if_pos z]; exact e0
      · have u1 : (∀ J', clA9 T J' → J' j) ∧ y9.1 ≠ 3 := ⟨fun J' hc9 => inn J' hc9 j hj (Or.inl z), by rcases mk_kd h hb hy z with y | y <;> rw [y] <;> decide⟩
        rw [if_neg z, hj9.1 u1]
        exact Int.le_refl _)
  rw [h.1]
  omega
end NCR
end
section
/-! The class's answer where it is not refused for the number of unknown states. -/
section NCQ
variable {T : xt9} {x : Int × List sc9} {s g cn cc bc k lo hi un : Nat} {M : mM} {r : Int}
theorem gm_iff {gr : Int} (h : ClT M s g cn T) (hx : T[k]? = some x) (h1 : mI M (s + 122) k = ((lo : Nat) : Int)) (h2 : mI M (s + 123) k = ((hi : Nat) : Int)) (hg : gmC M g lo hi gr) (g1 : 1 ≤ gr) : gmA9 x.2 gr := by
  obtain ⟨-, -, l, a3, a4, a5⟩ := h.2 k x hx
  have el : l = lo := by rw [h1] at a3; omega
  subst el
  have eh : hi = l + x.2.length := by rw [h2] at a4; omega
  subst eh
  refine ⟨g1, fun c hc => ?_, ?_⟩
  · obtain ⟨i, hi9⟩ := List.getElem?_of_mem hc
    have lt := lt_some hi9
    rw [← (a5 i c hi9).1]
    exact hg.1 (l + i) (by omega) (by omega)
  · rcases hg.2 with y | ⟨c, c1, c2, c3⟩
    · exact Or.inl y
    · have g9 := List.getElem?_eq_getElem (l := x.2) (i := c - l) (by omega)
      have e : l + (c - l) = c := by omega
      have q := (a5 (c - l) _ g9).1
      rw [e] at q
      exact Or.inr ⟨_, List.mem_of_getElem? g9, q.symm.trans c3⟩
theorem wsu_sm {f : Nat → Nat} : ∀ n, ((wsu f n : Nat) : Int) = sm (fun i => ((f i : Nat) : Int)) n
  | 0 => rfl
  | n + 1 => by
    show ((wsu f n + f n : Nat) : Int) = sm (fun i => ((f i : Nat) : Int)) n + ((f n : Nat) : Int)
    rw [← wsu_sm n]
    omega
theorem cl_few {wt : Nat → Nat} (h : ClT M s g cn T) (hs : Slo M s un) (c5 : cn ≤ 512) (u40 : un ≤ 40) (hb : mkB M s g cn) (hm : smU M s cn un) (hn : noM M s g cn 0) (hk : ∀ i, i < un → ∃ k, mI M (s + 125) i = ((k : Nat) : Int) ∧ k < cn) (hw : ∀ i, i < un → weC M s g i (wt i)) (hr : (480 < ((wsu wt un : Nat) : Int) ∧ r = 6) ∨ (((wsu wt un : Nat) : Int) ≤ 480 ∧ r = 0)) : svA9 T r := by
  have ex : ∀ k : Nat, ∃ v : Int, (mI M (s + 124) k = -1 → v = 0) ∧ (mI M (s + 124) k ≠ -1 → ∀ x, T[k]? = some x → weA9 x v) := fun k => by
    by_cases z : mI M (s + 124) k = -1
    · exact ⟨0, fun _ => rfl, fun u => absurd z u⟩
    by_cases lt : k < cn
    · obtain ⟨i, i1, i2⟩ := un_of hm lt z
      obtain ⟨k', lo, hi, gr, w1, w2, w3, w4, w5, w6⟩ := hw i i1
      have ek : k' = k := by rw [w1, Int.toNat_natCast] at i2; exact i2
      subst ek
      exact ⟨((wt i : Nat) : Int), fun u => absurd u z, fun _ x hx => ⟨gr, wt i, gm_iff h hx w2 w3 w4 w5, w6, rfl⟩⟩
    · exact ⟨0, fun u => absurd u z, fun _ x hx => absurd (by rw [← h.1]; exact lt_some hx) lt⟩
  obtain ⟨w, hw9⟩ := Classical.axiomOfChoice ex
  have es : sm (fun k => if mI M (s + 124) k = -1 then (0 : Int) else 1) cn = ((un : Nat) : Int) := by rw [← hm (fun _ => 1), sm_one]
  have ws : sm w cn = ((wsu wt un : Nat) : Int) := by
    have a : sm (fun k => if mI M (s + 124) k = -1 then 0 else w k) cn = sm w cn := sm_congr cn (fun k _ => by
      show (if mI M (s + 124) k = -1 then 0 else w k) = w k
      by_cases z : mI M (s + 124) k = -1
      · rw [if_pos z, (hw9 k).1 z]
      · rw [if_neg z])
    rw [wsu_sm, ← a, ← hm w]
    refine sm_congr un (fun i hi => ?_)
    obtain ⟨k', lo, hi', gr, w1, w2, w3, w4, w5, w6⟩ := hw i hi
    obtain ⟨k2, q1, q2⟩ := hk i hi
    have e2 : k2 = k' := by rw [w1] at q1; omega
    subst e2
    show w (mI M (s + 125) i).toNat = ((wt i : Nat) : Int)
    rw [w1, Int.toNat_natCast]
    obtain ⟨x, hx⟩ : ∃ x, T[k2]? = some x := ⟨_, List.getElem?_eq_getElem (by rw [h.1]; exact q2)⟩
    have nz : mI M (s + 124) k2 ≠ -1 := fun z => by
      have e := hm (fun j => if j = k2 then 1 else 0)
      have p := sm_ge (f := fun i => if (mI M (s + 125) i).toNat = k2 then (1 : Int) else 0) (k := i) (fun j => by
        show 0 ≤ (if (mI M (s + 125) j).toNat = k2 then (1 : Int) else 0)
        split <;> omega) un hi
      have p2 : (if (mI M (s + 125) i).toNat = k2 then (1 : Int) else 0) ≤ sm (fun i => if (mI M (s + 125) i).toNat = k2 then (1 : Int) else 0) un := p
      rw [w1, Int.toNat_natCast, if_pos rfl, e] at p2
      obtain ⟨j, j1, j2⟩ := sm_pos cn (show 0 < sm (fun k => if mI M (s + 124) k = -1 then 0 else if k = k2 then (1 : Int) else 0) cn by first | rfl | omega)
      refine j2 ?_
      show (if mI M (s + 124) j = -1 then 0 else if j = k2 then (1 : Int) else 0) = 0
      by_cases c9 : j = k2
      · rw [c9, if_pos z]
      · rw [if_neg c9]
        split <;> rfl
    exact ((hw9 k2).2 nz x hx).same ⟨gr, wt i, gm_iff h hx w2 w3 w4 w5, w6, rfl⟩
  refine ⟨_, _, cl_ls h hs c5 hb hn, cl_un h hb, Or.inr ⟨by rw [h.1, es]; omega, w, fun k x hx => ⟨fun u => ?_, fun u => ?_⟩, by rw [h.1, ws]; exact hr⟩⟩
  · refine (hw9 k).2 (fun z => ?_) x hx
    have u' : (if mI M (s + 124) k = -1 then (0 : Int) else 1) = 1 := u
    rw [if_pos z] at u'
    exact absurd u' (by decide)
  · refine (hw9 k).1 (Classical.byContradiction (fun z => ?_))
    have u' : (if mI M (s + 124) k = -1 then (0 : Int) else 1) = 0 := u
    rw [if_neg z] at u'
    exact absurd u' (by decide)
end NCQ
end
section
/-! The class's tables, with all commands left, are those of what was explored. -/
section NCT
variable {T : xt9} {s g cn cc bc k i un : Nat} {M M' : mM}
theorem weC.wto {w : Nat} (h : weC M s g i w) : wtO M s g i w := by
  obtain ⟨k, lo, hi, gr, a1, a2, a3, a4, a5, a6⟩ := h
  intro k' lo' hi' c e1 e2 e3 c1 c2
  have ek : k' = k := by rw [a1] at e1; omega
  subst ek
  have el : lo' = lo := by rw [a2] at e2; omega
  have eh : hi' = hi := by rw [a3] at e3; omega
  subst el
  subst eh
  have b1 := a4.1 c c1 c2
  have b2 := a6.1
  omega
theorem clt_of (hT : GTT M g cn cc bc) (lx : ∀ k, k < cn → mI M' (s + 122) k = mI M (g + 4) k ∧ mI M' (s + 123) k = mI M (g + 4) (k + 1)) (e : ∀ i, i ≤ 9 → mI M' (g + i) = mI M (g + i)) (hk : kdT (xtm M g cn)) : ClT M' s g cn (xtm M g cn) := by
  refine ⟨by rw [xtm_map, List.length_map, List.length_range], fun k x hx => ?_⟩
  rw [xtm_map, rget] at hx
  by_cases hk9 : k < cn
  · rw [if_pos hk9] at hx
    have ex := Option.some.inj hx
    have kk := hk x (by rw [xtm_map]; exact List.mem_map.mpr ⟨k, List.mem_range.mpr hk9, ex⟩)
    obtain ⟨lo, hi, f1, f2, f3, f4⟩ := hT.2.2.1 k hk9
    have l2 : x.2 = cml M g lo (hi - lo) := by
      rw [← ex]
      unfold stm
      rw [f1, f2, Int.toNat_natCast, Int.toNat_natCast]
    have len : x.2.length = hi - lo := by rw [l2, cml_map, List.length_map, List.length_range]
    refine ⟨by rw [e 2 (by decide), ← ex]; rfl, kk, lo, by rw [(lx k hk9).1, f1], by rw [(lx k hk9).2, f2, len]; omega, fun i c hc => ?_⟩
    rw [l2, cml_map, rget] at hc
    by_cases hi9 : i < hi - lo
    · rw [if_pos hi9] at hc
      have ec := Option.some.inj hc
      obtain ⟨a, b, mu, c1, c2, c3, c4, c5, -⟩ := hT.2.1 (lo + i) (by omega)
      have bl : c.2.2 = (List.range (b - a)).map (fun t => ((mI M (g + 8) (a + t)).toNat, mI M (g + 9) (a + t))) := by
        rw [← ec]
        unfold cmm
        rw [c1, c2, Int.toNat_natCast, Int.toNat_natCast, brl_map]
      refine ⟨by rw [e 6 (by decide), ← ec]; rfl, fun y hy => ?_, fun J => ?_⟩
      · rw [bl] at hy
        obtain ⟨t, t1, t2⟩ := List.mem_map.mp hy
        have t3 := List.mem_range.mp t1
        have t4 := c5 (a + t) (by omega) (by omega)
        rw [← t2]
        show (mI M (g + 8) (a + t)).toNat < cn
        omega
      · rw [e 7 (by decide), e 8 (by decide), c1, c2]
        unfold ldA9
        rw [bl]
        constructor
        · rintro ⟨j, u1, u2, u3⟩
          refine ⟨_, List.mem_map.mpr ⟨j - a, List.mem_range.mpr (by omega), rfl⟩, ?_⟩
          show J (mI M (g + 8) (a + (j - a))).toNat
          rw [show a + (j - a) = j by first | rfl | omega]
          exact u3
        · rintro ⟨y, y1, y2⟩
          obtain ⟨t, t1, t2⟩ := List.mem_map.mp y1
          have t3 := List.mem_range.mp t1
          refine ⟨a + t, by omega, by omega, ?_⟩
          rw [← t2] at y2
          exact y2
    · rw [if_neg hi9] at hc
      cases hc
  · rw [if_neg hk9] at hx
    cases hx
end NCT
end
section
/-! The class's Solver: one frame for all its steps. -/
section NBQ
variable {G : mG} {d s g z e a R cn cc bc i k n c lo hi un x f : Nat} {M M0 M' M1 M2 M3 : mM} {L : List Nat} {W : Nat → Nat} {T T' I C C' S : Nat → Prop} {r r' : Prop}
/-- numbers of T, ints of the cells of C, the Scales' longs, and (where r) its own references -/
def NX (L : List Nat) (W : Nat → Nat) (T C : Nat → Prop) (r : Prop) (z : Nat) (M M' : mM) : Prop := (mOk M' ∧ NF L W M') ∧ ((∀ t, T t → t ∈ L) ∧ (∀ x, C x → Oc L M x) ∧ (z < mZ M ∧ mK M z = 9)) ∧ FD (fun x => nsS M T x ∨ C x) (fun x => T x ∨ (x = z ∧ r)) (fun x => x = z + 13 ∨ x + 1 = z) M M' ∧ (∀ t, T t → mR M' t 0 = mR M t 0 ∨ mZ M ≤ mR M' t 0) ∧ RmN L M M'
theorem NX.ok (h : NX L W T C r z M M') : mOk M' := h.1.1
theorem NX.nf (h : NX L W T C r z M M') : NF L W M' := h.1.2
theorem NX.kind (h : NX L W T C r z M M') (hx : x < mZ M) : mK M' x = mK M x := (h.2.2.1.2 x hx).1
theorem NX.num {b : Nat} (h : NX L W T C r z M M') (hF : NF L W M) (hb : b ∈ L) (hT : ¬ T b) : mR M' b = mR M b ∧ sz M' b = sz M b ∧ nv M' b = nv M b := by
  obtain ⟨-, ⟨h2, hC, hz⟩, h3, h4, -⟩ := h
  obtain ⟨z1, z2⟩ := hF.lt hb
  have n1 : ¬ (nsS M T b ∨ C b) := by
    rintro ((u | ⟨t, ht, u⟩) | u)
    · exact hT u
    · exact hF.na hb (h2 t ht) u
    · exact (hC b u).2.1 hb
  have n2 : ¬ (nsS M T (mR M b 0) ∨ C (mR M b 0)) := by
    rintro ((u | ⟨t, ht, u⟩) | u)
    · exact hF.na (h2 _ u) hb rfl
    · exact hT (by rw [hF.2.2 b t hb (h2 t ht) u]; exact ht)
    · exact (hC _ u).2.2 b hb rfl
  have a1 := (h3.2 b z1).2.2.2.1 (fun u => u.elim hT (fun u => (hF.nz hz.2 hb).1 u.1))
  have a2 := (h3.2 b z1).2.2.2.2 n1
  have a3 := (h3.2 _ z2).2.2.2.2 n2
  have a4 : sz M' b = sz M b := by unfold sz; rw [a2]
  exact ⟨a1, a4, by unfold nv; rw [a4, a1, a3]⟩
theorem NX.oc (h : NX L W T C r z M M') (hF : NF L W M) (hx : Oc L M x) : Oc L M' x := by
  refine ⟨Nat.lt_of_lt_of_le hx.1 h.2.2.1.1.1, hx.2.1, fun a ha u => ?_⟩
  by_cases c : T a
  · rcases h.2.2.2.1 a c with q | q
    · exact hx.2.2 a ha (by rw [← q]; exact u)
    · have := hx.1
      omega
  · rw [(h.num hF ha c).1] at u
    exact hx.2.2 a ha u
theorem NX.oth (h : NX L W T C r z M M') (hx : Oc L M x) (hz : x ≠ z) : mK M' x = mK M x ∧ mN M' x = mN M x ∧ mR M' x = mR M x ∧ (¬ C x → mI M' x = mI M x) := by
  obtain ⟨-, ⟨h2, -, -⟩, h3, -, -⟩ := h
  obtain ⟨a1, a2, a3, a4, a5⟩ := h3.2 x hx.1
  refine ⟨a1, a2, a4 (fun u => u.elim (fun u => hx.2.1 (h2 x u)) (fun u => hz u.1)), fun ni => a5 ?_⟩
  rintro ((u | ⟨t, ht, u⟩) | u)
  · exact hx.2.1 (h2 x u)
  · exact hx.2.2 t (h2 t ht) u.symm
  · exact ni u
theorem NX.trans (h : NX L W T C r z M M1) (k : NX L W T C r z M1 M2) : NX L W T C r z M M2 := by
  obtain ⟨-, h2, h3, h4, h5⟩ := h
  obtain ⟨k1, -, k3, k4, k5⟩ := k
  refine ⟨k1, h2, h3.trans2 k3 ?_ (fun _ _ y => y) (fun _ _ y => y), fun t ht => ?_, h5.trans k5⟩
  · intro x hx u
    rcases u with (u | ⟨t, ht, u⟩) | u
    · exact Or.inl (Or.inl u)
    · rcases h4 t ht with q | q
      · exact Or.inl (Or.inr ⟨t, ht, by rw [u, q]⟩)
      · omega
    · exact Or.inr u
  · rcases k4 t ht with q | q
    · rw [q]; exact h4 t ht
    · exact Or.inr (Nat.le_trans h3.1.1 q)
theorem NX.mono (h : NX L W T C r z M M1) (hr : NF L W M) (hT : ∀ t, T t → T' t) (hL : ∀ t, T' t → t ∈ L) (hC : ∀ x, C x → C' x) (hC' : ∀ x, C' x → Oc L M x) (rr : r → r') : NX L W T' C' r' z M M1 := by
  obtain ⟨h1, ⟨-, -, hz⟩, h3, h4, h5⟩ := h
  refine ⟨h1, ⟨hL, hC', hz⟩, h3.mono (fun x _ u => ?_) (fun x _ u => u.elim (fun u => Or.inl (hT x u)) (fun u => Or.inr ⟨u.1, rr u.2⟩)) (fun _ _ u => u), fun t ht => ?_, h5⟩
  · rcases u with (u | ⟨t, ht, u⟩) | u
    · exact Or.inl (Or.inl (hT x u))
    · exact Or.inl (Or.inr ⟨t, hT t ht, u⟩)
    · exact Or.inr (hC x u)
  · by_cases c : T t
    · exact h4 t c
    · refine Or.inl ?_
      rw [(h3.2 t (hr.lt (hL t ht)).1).2.2.2.1 (fun u => u.elim c (fun u => (hr.nz hz.2 (hL t ht)).1 u.1))]
theorem NX.refl (hO : mOk M) (h : NF L W M) (hT : ∀ t, T t → t ∈ L) (hC : ∀ x, C x → Oc L M x) (hz : z < mZ M ∧ mK M z = 9) : NX L W T C r z M M := ⟨⟨hO, h⟩, ⟨hT, hC, hz⟩, FD.refl, fun _ _ => Or.inl rfl, RmN.refl⟩
/-- a fraction's cell is another cell -/
theorem NF.ocf (hF : NF L W M) (hx : x < mZ M) (hk : mK M x = 11) : Oc L M x := ⟨hx, fun u => (hF.nI hk u).1 rfl, fun a ha => (hF.nI hk ha).2⟩
theorem NL.nx (h : NL L W T I r z M M') (hF : NF L W M) : NX L W T I r z M M' := by
  obtain ⟨h1, ⟨h2, hI, hz⟩, h3, h4, h5⟩ := h
  exact ⟨h1, ⟨h2, fun x u => hF.ocf (hI x u).1 (hI x u).2, hz⟩, h3.mono (fun _ _ u => u) (fun _ _ u => u) (fun _ _ u => Or.inl u), h4, h5⟩
theorem NR.nx (h : NR L W e M M') (hK : RsK L M e) (hz : z < mZ M ∧ mK M z = 9) : NX L W (Trs e) (S36 e) False z M M' := by
  obtain ⟨h1, h3, h4, h5⟩ := h
  exact ⟨h1, ⟨hK.tl, hK.s36, hz⟩, (h3.fd (D := fun x => x = z + 13 ∨ x + 1 = z)).mono (fun _ _ u => u) (fun _ _ u => Or.inl u) (fun _ _ u => u), h4, h5⟩
theorem NC.nx (h : NC L W T M M') (hC : ∀ x, C x → Oc L M x) (hz : z < mZ M ∧ mK M z = 9) : NX L W T C r z M M' := by
  obtain ⟨h1, h2, h3, h4, h5⟩ := h
  exact ⟨h1, ⟨h2, hC, hz⟩, (h3.fd (D := fun x => x = z + 13 ∨ x + 1 = z)).mono (fun _ _ u => Or.inl u) (fun _ _ u => Or.inl u) (fun _ _ u => u), h4, h5⟩
/-- ints of other cells change -/
theorem FI.nx (f : FI C M M') (o : mOk M') (hF : NF L W M) (hT : ∀ t, T t → t ∈ L) (hC : ∀ x, C x → Oc L M x) (hz : z < mZ M ∧ mK M z = 9) : NX L W T C r z M M' ∧ ∀ a, a ∈ L → nv M' a = nv M a := by
  have nt' : ∀ a, a ∈ L → Nt M' a (mR M a 0) (cp M a) (sz M a) := fun a ha => (hF.nt ha).fi f (fun u => (hC a u).2.1 ha) (fun u => (hC _ u).2.2 a ha rfl)
  have cc : ∀ a, cp M' a = cp M a := fun a => by unfold cp; rw [f.2.2.1, f.2.1]
  have nf : NF L W M' := ⟨hF.1, fun a ha => ⟨(nt' a ha).nn, by rw [cc]; exact (hF.2.1 a ha).2.1, (hF.2.1 a ha).2.2⟩, fun a b ha hb u => hF.2.2 a b ha hb (by rw [← f.2.2.1]; exact u)⟩
  refine ⟨⟨⟨o, nf⟩, ⟨hT, hC, hz⟩, ((f.fa (R := fun _ => False)).fd (D := fun x => x = z + 13 ∨ x + 1 = z)).mono (fun _ _ u => Or.inr u) (fun _ _ u => u.elim) (fun _ _ u => u), fun t _ => Or.inl (by rw [f.2.2.1]), ?_⟩, fun a ha => ?_⟩
  · unfold RmN
    rw [show cp M' = cp M from funext cc, f.2.2.2.2.1, f.2.2.2.2.2.1]
    exact ⟨Nat.le_refl _, Nat.le_refl _⟩
  · rw [(nt' a ha).nv]
    unfold nv
    rw [f.2.2.2.2.2.2 _ (fun u => (hC _ u).2.2 a ha rfl)]
/-- the Solver's own int tables -/
def Stb (s x : Nat) : Prop := x = s ∨ x = s + 29 ∨ x = s + 30 ∨ x = s + 122 ∨ x = s + 123 ∨ x = s + 124 ∨ x = s + 125 ∨ x = s + 126 ∨ x = s + 128 ∨ x = s + 129
/-- all that the Solver may change, with the rows of a table -/
def Tso (s : Nat) (M : mM) (R n x : Nat) : Prop := Tpk (s + 1) x ∨ Trs (s + 31) x ∨ T2 (s + 130) x ∨ Trw M R n x
def Cso (s : Nat) (M : mM) (R n x : Nat) : Prop := Ipk (s + 1) x ∨ Stb s x ∨ S36 (s + 31) x ∨ x = s + 32 ∨ x = s + 130 ∨ Irw M R n x
/-- the Solver with a table of k rows, a game of cn states -/
def Sva (L : List Nat) (W : Nat → Nat) (s g a R k cn cc bc : Nat) (M : mM) : Prop := SG M s g cn cc bc ∧ (NF L W M ∧ SK L M (s + 1) ∧ RsK L M (s + 31) ∧ FrL L M (s + 130)) ∧ (∀ x, Stb s x → Oc L M x) ∧ (∀ i, i ≤ 9 → Oc L M (g + i)) ∧ RwT L M a R k ∧ (∀ i, i < k → s + 134 < mR M R i) ∧ RwD M R k
theorem Sva.te (h : Sva L W s g a R k cn cc bc M) : Te L W (s + 1) g a R k M := by
  obtain ⟨h1, ⟨h2, h3, h4, h5⟩, h6, h7, h8, h9, h10⟩ := h
  refine ⟨⟨h1.1, h2, h3⟩, ⟨h1.2.2.1, h7⟩, h8, fun i hi => ?_, h10⟩
  have := h9 i hi
  unfold Rap Tpk T4 Tor T2
  omega
theorem Sva.tl (h : Sva L W s g a R k cn cc bc M) (hn : n ≤ k) : ∀ t, Tso s M R n t → t ∈ L := fun t ht => by
  rcases ht with u | u | u | u
  · exact h.2.1.2.1.tpk t u
  · exact h.2.1.2.2.1.tl t u
  · exact h.2.1.2.2.2.t2 t u
  · exact h.te.trw hn t u
theorem Sva.cl (h : Sva L W s g a R k cn cc bc M) (hn : n ≤ k) : ∀ x, Cso s M R n x → Oc L M x := fun x hx => by
  obtain ⟨-, ⟨h2, h3, h4, h5⟩, h6, -⟩ := id h
  rcases hx with u | u | u | u | u | u
  · exact h2.ocf (h3.ipk x u).1 (h3.ipk x u).2
  · exact h6 x u
  · exact h4.s36 x u
  · rw [u]; exact h4.2.1 1 (by decide)
  · rw [u]; exact h2.ocf h5.1.2.2 h5.1.1
  · exact h2.ocf (h.te.irw hn x u).1 (h.te.irw hn x u).2
theorem Sva.z9 (h : Sva L W s g a R k cn cc bc M) : s + 1 < mZ M ∧ mK M (s + 1) = 9 := h.2.1.2.1.z9
end NBQ
end
section
/-! The class's Solver: what its steps keep. -/
section NBR
variable {G : mG} {d s g z e a R cn cc bc i k n c lo hi un x f : Nat} {M M0 M' M1 M2 M3 : mM} {L : List Nat} {W : Nat → Nat} {T T' I C C' S : Nat → Prop} {r r' : Prop}
theorem NX.frl (h : NX L W T C r z M M') (hF : NF L W M) (hf : FrL L M f) : FrL L M' f ∧ (¬ C f → mI M' f = mI M f) := by
  obtain ⟨⟨k, p, l⟩, m1, m3⟩ := hf
  have z9 := h.2.1.2.2.2
  obtain ⟨a1, a2, a3, a4⟩ := h.oth (hF.ocf l k) (fun u => by rw [u, z9] at k; omega)
  exact ⟨⟨⟨by rw [a1]; exact k, by rw [a3]; exact p, Nat.lt_of_lt_of_le l h.2.2.1.1.1⟩, m1, m3⟩, a4⟩
theorem Sva.gC (h : Sva L W s g a R k cn cc bc M) (hn : n ≤ k) (hi : i ≤ 9) : ¬ Cso s M R n (g + i) := by
  have gs := h.1.2.1.1.2
  intro u
  unfold Cso Ipk Stb S36 Irw at u
  rcases u with u | u | u | u | u | ⟨j, hj, u⟩
  · omega
  · omega
  · omega
  · omega
  · omega
  · have := h.2.2.2.2.2.1 j (by omega)
    omega
theorem stb_n1 {s x : Nat} (hx : Stb s x) : x ≠ s + 1 := by unfold Stb at hx; omega
theorem s31_n1 (s i : Nat) : s + 31 + i ≠ s + 1 := by omega
theorem Sva.nxg (h : Sva L W s g a R k cn cc bc M) (q : NX L W T C r (s + 1) M M') (gC : ∀ i, i ≤ 9 → ¬ C (g + i)) (hS : SK L M' (s + 1)) : Sva L W s g a R k cn cc bc M' ∧ (∀ i, i ≤ 9 → mI M' (g + i) = mI M (g + i)) ∧ mR M' R = mR M R := by
  obtain ⟨⟨o, ⟨s0, sr, sk, sn⟩, hG, ⟨g3, n3⟩, hT⟩, ⟨hF, hSK, hR, hW⟩, hSt, hgo, ⟨t1, t2, t3, t4, ⟨t5, t6⟩, t7⟩, hrow, hD⟩ := id h
  have z9 := hSK.1.1
  have og : ∀ i, i ≤ 9 → _ := fun i hi => q.oth (hgo i hi) (fun e => (hG.kd hi).1 (by rw [e]; exact z9))
  have g0 := og 0 (by decide)
  rw [Nat.add_zero] at g0
  have os : ∀ x, Stb s x → mK M' x = mK M x ∧ mN M' x = mN M x ∧ mR M' x = mR M x := fun x hx => by
    have ne : x ≠ s + 1 := stb_n1 hx
    obtain ⟨a1, a2, a3, -⟩ := q.oth (hSt x hx) ne
    exact ⟨a1, a2, a3⟩
  have st : ∀ {x : Nat}, Stb s x → Stb s x := fun h => h
  have e0 := os s (Or.inl rfl)
  have e29 := os (s + 29) (Or.inr (Or.inl rfl))
  have e30 := os (s + 30) (Or.inr (Or.inr (Or.inl rfl)))
  have e122 := os (s + 122) (Or.inr (Or.inr (Or.inr (Or.inl rfl))))
  have e123 := os (s + 123) (Or.inr (Or.inr (Or.inr (Or.inr (Or.inl rfl)))))
  have e124 := os (s + 124) (Or.inr (Or.inr (Or.inr (Or.inr (Or.inr (Or.inl rfl))))))
  have e125 := os (s + 125) (Or.inr (Or.inr (Or.inr (Or.inr (Or.inr (Or.inr (Or.inl rfl)))))))
  have e126 := os (s + 126) (Or.inr (Or.inr (Or.inr (Or.inr (Or.inr (Or.inr (Or.inr (Or.inl rfl))))))))
  have e128 := os (s + 128) (Or.inr (Or.inr (Or.inr (Or.inr (Or.inr (Or.inr (Or.inr (Or.inr (Or.inl rfl)))))))))
  have e129 := os (s + 129) (Or.inr (Or.inr (Or.inr (Or.inr (Or.inr (Or.inr (Or.inr (Or.inr (Or.inr rfl)))))))))
  have ig : ∀ i, i ≤ 9 → mI M' (g + i) = mI M (g + i) := fun i hi => (og i hi).2.2.2 (gC i hi)
  have oe : ∀ i, i ≤ 6 → mK M' (s + 31 + i) = mK M (s + 31 + i) ∧ mN M' (s + 31 + i) = mN M (s + 31 + i) ∧ mR M' (s + 31 + i) = mR M (s + 31 + i) := fun i hi => by
    obtain ⟨a1, a2, a3, -⟩ := q.oth (hR.2.1 i hi) (s31_n1 s i)
    exact ⟨a1, a2, a3⟩
  have r0 := oe 0 (by decide)
  rw [Nat.add_zero] at r0
  have na : a ≠ s + 1 := fun u => by rw [u, z9] at t1; exact absurd t1 (by decide)
  have nR : R ≠ s + 1 := fun u => by rw [u, z9] at t3; exact absurd t3 (by decide)
  have oa := q.oth t5 na
  have oR := q.oth t6 nR
  have eR := oR.2.2.1
  refine ⟨⟨⟨q.ok, ⟨⟨by rw [e0.1]; exact s0.1, s0.2⟩, by rw [e0.2.2]; exact sr, by rw [e29.1, e30.1, e122.1, e123.1, e124.1, e125.1, e126.1, e128.1, e129.1]; exact sk, by rw [e29.2.1, e30.2.1, e122.2.1, e123.2.1, e124.2.1, e125.2.1, e126.2.1, e128.2.1, e129.2.1]; exact sn⟩, ⟨by rw [g0.1]; exact hG.1, by rw [g0.2.2.1]; exact hG.2.1, fun i hi hi' => by rw [(og i hi').1]; exact hG.2.2.1 i hi hi', by rw [(og 2 (by decide)).2.1, (og 4 (by decide)).2.1, (og 6 (by decide)).2.1, (og 7 (by decide)).2.1, (og 8 (by decide)).2.1, (og 9 (by decide)).2.1]; exact hG.2.2.2⟩, ⟨by rw [g0.2.2.1]; exact g3, by rw [(og 3 (by decide)).2.1]; exact n3⟩, hT.same ig⟩, ⟨q.nf, hS, ?_, (q.frl hF hW).1⟩, fun x hx => q.oc hF (hSt x hx), fun i hi => q.oc hF (hgo i hi), ⟨by rw [oa.1]; exact t1, by rw [oa.2.2.1]; exact t2, by rw [oR.1]; exact t3, by rw [oR.2.1]; exact t4, ⟨q.oc hF t5, q.oc hF t6⟩, fun i hi => by rw [eR]; exact (q.frl hF (t7 i hi)).1⟩, fun i hi => by rw [eR]; exact hrow i hi, fun i j hi hj ij => by rw [eR]; exact hD i j hi hj ij⟩, ig, eR⟩
  obtain ⟨⟨c0, c1, c2, c3⟩, c4, c5, c6⟩ := hR
  refine ⟨⟨by rw [r0.1]; exact c0, by rw [r0.2.2]; exact c1, by rw [(oe 1 (by decide)).1, (oe 2 (by decide)).1, (oe 3 (by decide)).1, (oe 4 (by decide)).1, (oe 5 (by decide)).1, (oe 6 (by decide)).1]; exact c2, by rw [(oe 1 (by decide)).2.1, (oe 2 (by decide)).2.1, (oe 3 (by decide)).2.1, (oe 4 (by decide)).2.1, (oe 5 (by decide)).2.1, (oe 6 (by decide)).2.1]; exact c3⟩, fun i hi => q.oc hF (c4 i hi), fun i hi => by rw [(oe 2 (by decide)).2.2]; exact c5 i hi, c6⟩
theorem Sva.nx (h : Sva L W s g a R k cn cc bc M) (hn : n ≤ k) (q : NX L W (Tso s M R n) (Cso s M R n) r (s + 1) M M') (hS : SK L M' (s + 1)) : Sva L W s g a R k cn cc bc M' ∧ (∀ i, i ≤ 9 → mI M' (g + i) = mI M (g + i)) ∧ mR M' R = mR M R := h.nxg q (fun i hi => h.gC hn hi) hS
/-- steps that leave the Scales' references -/
theorem NX.sk (h : NX L W T C False z M M') (hF : NF L W M) (hS : SK L M z) : SK L M' z := by
  obtain ⟨⟨k1, k2⟩, k3, k4, ⟨k5, k6, k7⟩, ⟨k8, k9⟩, k10, k11⟩ := hS
  have zz := h.2.2.1.1.1
  have rz : mR M' z = mR M z := (h.2.2.1.2 z k2).2.2.2.1 (fun u => u.elim (fun u => (hF.nz k1 (h.2.1.1 z u)).1 rfl) (fun u => u.2))
  have o13 : Oc L M (z + 13) := ⟨k7, fun u => by have := hF.kd u; rw [k5] at this; omega, fun a ha u => by have := hF.ka ha; rw [u, k5] at this; omega⟩
  obtain ⟨a1, a2, -⟩ := h.oth o13 (by omega)
  have f8 := (h.frl hF (f := z + 18) ⟨k8, k11.1, k11.2.1⟩).1
  have f9 := (h.frl hF (f := z + 23) ⟨k9, k11.2.2.1, k11.2.2.2⟩).1
  exact ⟨⟨by rw [h.kind k2]; exact k1, Nat.lt_of_lt_of_le k2 zz⟩, by rw [rz]; exact k3, by rw [rz]; exact k4, ⟨by rw [a1]; exact k5, by rw [a2]; exact k6, Nat.lt_of_lt_of_le k7 zz⟩, ⟨f8.1, f9.1⟩, k10, k11⟩
end NBR
end
section
/-! The class's Solver: equations are written. -/
section NBS
variable {G : mG} {d s g a cn cc bc i k n c un x y mu : Nat} {M M0 M' M1 M2 M3 : mM}
/-- a row while its branches are read: they sum up to w -/
def evR (M : mM) (s i : Nat) (mu w : Int) : Prop := (∀ j, j < 40 → -w ≤ mI M (s + 32) (i * 41 + j) ∧ mI M (s + 32) (i * 41 + j) ≤ mu) ∧ 0 ≤ mI M (s + 32) (i * 41 + 40) ∧ mI M (s + 32) (i * 41 + 40) ≤ w
theorem ev_up {j : Nat} {v w w' m : Int} (h : evR M s i m w) (e : M' = mUI M (s + 32) (i * 41 + j) v) (ww : w ≤ w') (hj : j ≤ 40) (hv : (j < 40 → -w' ≤ v ∧ v ≤ m) ∧ (j = 40 → 0 ≤ v ∧ v ≤ w')) : evR M' s i m w' := by
  obtain ⟨h1, h2, h3⟩ := h
  refine ⟨fun j' hj' => ?_, ?_⟩
  · rw [mI_ui _ _ e]
    by_cases c : j' = j
    · rw [if_pos ⟨rfl, by omega⟩]
      exact hv.1 (by omega)
    · rw [if_neg (fun u => c (by omega))]
      have := h1 j' hj'
      omega
  · rw [mI_ui _ _ e]
    by_cases c : j = 40
    · rw [if_pos ⟨rfl, by omega⟩]
      exact hv.2 c
    · rw [if_neg (fun u => c (by omega))]
      omega
theorem wsm_mono {m : Nat} : ∀ {q : Nat}, m ≤ q → (∀ j, x ≤ j → j < x + q → 1 ≤ mI M (g + 9) j) → wsm M g x m ≤ wsm M g x q
  | 0, h, _ => by rw [show m = 0 by first | rfl | omega]; exact Int.le_refl _
  | q + 1, h, hp => by
    by_cases c : m = q + 1
    · rw [c]; exact Int.le_refl _
    · have h1 := wsm_mono (m := m) (q := q) (by omega) (fun j a b => hp j a (by omega))
      have h2 := hp (x + q) (by omega) (by omega)
      have h3 : wsm M g x (q + 1) = wsm M g x q + mI M (g + 9) (x + q) := rfl
      omega
theorem s_ev86 {l2 : Int} {Q : mM → Prop} (hg : SG M s g cn cc bc) (hR : Rk M (s + 31)) (hS : Slo M s un) (u40 : un ≤ 40) (hi : i < 40) (hl2 : i32 l2) (hc : c < cc) (e7 : mI M (g + 7) (c + 1) = ((y : Nat) : Int)) (hxy : x ≤ y ∧ y ≤ bc) (hbr : ∀ j, x ≤ j → j < y → 0 ≤ mI M (g + 8) j ∧ mI M (g + 8) j < cn ∧ 1 ≤ mI M (g + 9) j) (hw : wsm M g x (y - x) = ((mu : Nat) : Int)) (hmu : mu < 1000000000)
    (hQ : ∀ M', mOk M' → FI (fun z => z = s + 32) M M' → (∀ j, (j < i * 41 ∨ i * 41 + 41 ≤ j) → mI M' (s + 32) j = mI M (s + 32) j) → evR M' s i mu mu → h_So_evaluate_15 G d s a l2 ((i : Int) + 1) M' Q) : ∀ (t b : Nat) (M1 : mM), y ≤ b + t → x ≤ b → b ≤ y → mOk M1 → FI (fun z => z = s + 32) M M1 → (∀ j, (j < i * 41 ∨ i * 41 + 41 ≤ j) → mI M1 (s + 32) j = mI M (s + 32) j) → evR M1 s i mu (wsm M g x (b - x)) → h_So_evaluate_86 G d s a l2 i ((i : Int) * 41) c b M1 Q := by
  have gs := hg.2.1.1.2
  intro t
  induction t with
  | zero =>
    intro b M1 h1 h2 h3 o F oth ev
    have eb : b = y := by omega
    subst eb
    rw [hw] at ev
    have nS : ∀ i, i ≤ 9 → ¬ (fun z => z = s + 32) (g + i) := fun i hi u => by have u' : g + i = s + 32 := u; omega
    obtain ⟨-, ⟨⟨s0, -⟩, ⟨-, -, -, r3, -⟩, -⟩, ⟨g0, ⟨-, -, -, q7, -⟩, gk, ⟨-, -, -, m7, -⟩⟩, -, hT⟩ := hg.fi F o nS
    obtain ⟨hc1, hc2, hc3⟩ := hT.1
    refine k_So_evaluate_86 o hl2 ⟨by omega, by omega⟩ ⟨by omega, by omega⟩ ⟨by omega, by omega⟩ ⟨by omega, by omega⟩ ?_
    rw [r3, q7, m7, show Int.toNat ((c : Int) + 1) = c + 1 by first | rfl | omega, F.2.2.2.2.2.2 (g + 7) (nS 7 (by decide)), e7]
    exact ⟨s0, g0, gk 7 (by decide) (by decide), ⟨by omega, by omega⟩, fun _ => hQ M1 o F oth ev, fun u => absurd (Int.le_refl _) u⟩
  | succ t ih =>
    intro b M1 h1 h2 h3 o F oth ev
    by_cases eb : b = y
    · exact ih b M1 (by omega) h2 h3 o F oth ev
    have nS : ∀ i, i ≤ 9 → ¬ (fun z => z = s + 32) (g + i) := fun i hi u => by have u' : g + i = s + 32 := u; omega
    obtain ⟨-, ⟨⟨s0, -⟩, ⟨-, -, -, r3, r4, -, -, r7, -⟩, ⟨-, -, -, -, k7, -⟩, ⟨-, -, -, -, n7, -⟩⟩, ⟨g0, ⟨q2, -, -, q7, q8, q9⟩, gk, ⟨m2, -, -, m7, m8, m9⟩⟩, -, hT⟩ := hg.fi F o nS
    obtain ⟨e0, ⟨re, -⟩, ⟨ke, -⟩, ⟨ne, -⟩⟩ := hR.fi F
    have re' : mR M1 (s + 31) 0 = s + 32 := re
    have ke' : mK M1 (s + 32) = 30 := ke
    have ne' : mN M1 (s + 32) = 1640 := ne
    obtain ⟨hc1, hc2, hc3⟩ := hT.1
    obtain ⟨b1, b2, b3⟩ := hbr b h2 (by omega)
    obtain ⟨to, eto⟩ : ∃ to : Nat, mI M (g + 8) b = ((to : Nat) : Int) := ⟨(mI M (g + 8) b).toNat, by omega⟩
    have i124 : mI M1 (s + 124) = mI M (s + 124) := F.2.2.2.2.2.2 _ (show ¬ s + 124 = s + 32 by first | rfl | omega)
    have sl := hS to (by omega)
    have wpos : ∀ j, x ≤ j → j < x + (y - x) → 1 ≤ mI M (g + 9) j := fun j p q => (hbr j p (by omega)).2.2
    have wb := wsm_le (M := M) (g := g) (x := x) (n := y - x) wpos (y - x) (Nat.le_refl _) b h2 (by omega)
    rw [hw] at wb
    have wb1 : wsm M g x (b + 1 - x) = wsm M g x (b - x) + mI M (g + 9) b := by
      rw [show b + 1 - x = (b - x) + 1 by first | rfl | omega]
      show wsm M g x (b - x) + mI M (g + 9) (x + (b - x)) = _
      rw [show x + (b - x) = b by first | rfl | omega]
    have w0 : 0 ≤ wsm M g x (b - x) := wg_ws (fun j p q => (hbr j p (by omega)).2.2)
    have wle : wsm M g x (b - x) + mI M (g + 9) b ≤ ((mu : Nat) : Int) := by
      rw [← wb1, ← hw]
      exact wsm_mono (by omega) wpos
    refine k_So_evaluate_86 o hl2 ⟨by omega, by omega⟩ ⟨by omega, by omega⟩ ⟨by omega, by omega⟩ ⟨by omega, by omega⟩ ?_
    rw [r3, q7, m7, show Int.toNat ((c : Int) + 1) = c + 1 by first | rfl | omega, F.2.2.2.2.2.2 (g + 7) (nS 7 (by decide)), e7, q8, m8, r7, n7, q2, m2, r4, re', ne', q9, m9, Int.toNat_natCast, F.2.2.2.2.2.2 (g + 8) (nS 8 (by decide)), eto, Int.toNat_natCast, F.2.2.2.2.2.2 (g + 2) (nS 2 (by decide)), F.2.2.2.2.2.2 (g + 9) (nS 9 (by decide)), i124, show ((i : Int) * 41 + 40) = ((i * 41 + 40 : Nat) : Int) by first | rfl | omega, Int.toNat_natCast, show ((b : Int) + 1) = ((b + 1 : Nat) : Int) by first | rfl | omega]
    have e40 := ev.2
    refine ⟨s0, g0, gk 7 (by decide) (by decide), ⟨by omega, by omega⟩, fun u => absurd u (by omega), fun _ => ⟨gk 8 (by decide) (by decide), ⟨by omega, by omega⟩, k7, ⟨by omega, by omega⟩, ⟨fun _ => ⟨gk 2 (by decide) (by decide), ⟨by omega, by omega⟩, fun _ => ⟨e0, ke', ⟨by omega, by omega⟩, gk 9 (by decide) (by decide), ⟨by omega, by omega⟩, ⟨by omega, by omega⟩, ⟨by omega, by omega⟩⟩⟩, fun ns => ?_⟩, fun M63 e63 => ?_⟩⟩
    · have sl' := sl.resolve_left ns
      obtain ⟨j, ej⟩ : ∃ j : Nat, mI M (s + 124) to = ((j : Nat) : Int) := ⟨(mI M (s + 124) to).toNat, by omega⟩
      rw [ej, show ((i : Int) * 41 + ((j : Nat) : Int)) = ((i * 41 + j : Nat) : Int) by first | rfl | omega, Int.toNat_natCast]
      have evj := ev.1 j (by omega)
      exact ⟨e0, ⟨by omega, by omega⟩, ke', ⟨by omega, by omega⟩, gk 9 (by decide) (by decide), ⟨by omega, by omega⟩, ⟨by omega, by omega⟩, ⟨by omega, by omega⟩⟩
    · by_cases c1 : mI M (s + 124) to = -1
      · rw [if_pos c1] at e63
        by_cases c2 : mI M (g + 2) to = 3
        · rw [if_pos c2] at e63
          have f63 : FI (fun z => z = s + 32) M1 M63 := by rw [e63]; exact FI.ui rfl
          have o63 : mOk M63 := by rw [e63]; exact mOk_UI o ⟨by omega, by omega⟩
          exact ⟨o63, ih (b + 1) M63 (by omega) (by omega) (by omega) o63 (F.trans f63) (fun j hj => by rw [mI_ui _ j e63, if_neg (fun u => by omega)]; exact oth j hj) (by rw [wb1]; exact ev_up ev e63 (by omega) (Nat.le_refl _) ⟨fun u => absurd u (by decide), fun _ => ⟨by omega, by omega⟩⟩)⟩
        · rw [if_neg c2] at e63
          rw [e63]
          refine ⟨o, ih (b + 1) M1 (by omega) (by omega) (by omega) o F oth ?_⟩
          rw [wb1]
          exact ⟨fun j hj => by have := ev.1 j hj; omega, by omega, by omega⟩
      · rw [if_neg c1] at e63
        have sl' := sl.resolve_left c1
        obtain ⟨j, ej⟩ : ∃ j : Nat, mI M (s + 124) to = ((j : Nat) : Int) := ⟨(mI M (s + 124) to).toNat, by omega⟩
        rw [ej, show ((i : Int) * 41 + ((j : Nat) : Int)) = ((i * 41 + j : Nat) : Int) by first | rfl | omega, Int.toNat_natCast] at e63
        have evj := ev.1 j (by omega)
        have f63 : FI (fun z => z = s + 32) M1 M63 := by rw [e63]; exact FI.ui rfl
        have o63 : mOk M63 := by rw [e63]; exact mOk_UI o ⟨by omega, by omega⟩
        exact ⟨o63, ih (b + 1) M63 (by omega) (by omega) (by omega) o63 (F.trans f63) (fun j' hj => by rw [mI_ui _ j' e63, if_neg (fun u => by omega)]; exact oth j' hj) (by rw [wb1]; exact ev_up ev e63 (by omega) (by omega) ⟨fun _ => ⟨by omega, by omega⟩, fun u => absurd u (by omega)⟩)⟩
/-- the equations, row by row -/
theorem s_ev15 {wt : Nat → Nat} {Q : mM → Prop} (hg : SG M s g cn cc bc) (hR : Rk M (s + 31)) (hL : LHs M s cn cc) (hU : Unk M s cn un) (hwt : ∀ i, i < un → wtO M s g i (wt i) ∧ wt i ≤ 33)
    (hQ : ∀ (M' : mM) (bits : Nat), mOk M' → FI (fun z => z = s + 32) M M' → Ent9 M' (s + 31) 1640 → bits ≤ wsu wt un → mK M' (mR M' s 4) = 12 ∧ Cv G y_Re_settle d [vr (mR M' s 4), vi (mI M' s 10), vi bits] M' (fun M10 => mOk M10 ∧ (h_So_evaluate_226 G d s a 0 M10 Q))) : ∀ (t i bits : Nat) (M1 : mM), un ≤ i + t → i ≤ un → mOk M1 → FI (fun z => z = s + 32) M M1 → Ent9 M1 (s + 31) 1640 → (∀ j, i * 41 ≤ j → j < 1640 → mI M1 (s + 32) j = 0) → bits ≤ wsu wt i → wsu wt i ≤ 33 * i → h_So_evaluate_15 G d s a bits i M1 Q := by
  have gs := hg.2.1.1.2
  have nS : ∀ i, i ≤ 9 → ¬ (fun z => z = s + 32) (g + i) := fun i hi u => by have u' : g + i = s + 32 := u; omega
  obtain ⟨u1, u2, u3, u4⟩ := id hU
  intro t
  induction t with
  | zero =>
    intro i bits M1 h1 h2 o F en z hb hb2
    have ei : i = un := by omega
    subst ei
    obtain ⟨-, ⟨⟨s0, -⟩, -⟩, -⟩ := hg.fi F o nS
    have i10 : mI M1 s 10 = ((i : Nat) : Int) := by rw [F.2.2.2.2.2.2 s (show ¬ s = s + 32 by first | rfl | omega)]; exact u1
    have q := hQ M1 bits o F en hb
    rw [i10] at q
    refine k_So_evaluate_15 o ⟨by omega, by omega⟩ ⟨by omega, by omega⟩ ?_
    rw [i10]
    exact ⟨s0, fun _ => q, fun u => absurd (Int.le_refl _) u⟩
  | succ t ih =>
    intro i bits M1 h1 h2 o F en z hb hb2
    by_cases ei : i = un
    · exact ih i bits M1 (by omega) h2 o F en z hb hb2
    have hi : i < un := by omega
    have hg1 := hg.fi F o nS
    obtain ⟨-, ⟨⟨s0, -⟩, ⟨-, -, -, r3, r4, -, -, -, -, r9, -⟩, ⟨-, -, -, -, -, -, k9, -⟩, ⟨-, -, -, -, -, -, n9, -⟩⟩, ⟨g0, ⟨-, -, q6, q7, -, -⟩, gk, ⟨-, -, m6, m7, -, -⟩⟩, -, hT⟩ := id hg1
    obtain ⟨hc1, hc2, hc3⟩ := hT.1
    have hR1 := hR.fi F
    obtain ⟨e0, ⟨re, -⟩, ⟨ke, -⟩, ⟨ne, -⟩⟩ := id hR1
    have re' : mR M1 (s + 31) 0 = s + 32 := re
    have ke' : mK M1 (s + 32) = 30 := ke
    have ne' : mN M1 (s + 32) = 1640 := ne
    obtain ⟨kst, c, lo, hi', e1, hk, e4, e2, e3, l1, l2⟩ := u4 i hi
    obtain ⟨lo', hi2, f1, f2, f3, f4⟩ := hL kst hk
    have cc' : c < cc := by omega
    obtain ⟨x, y, mu, v1, v2, ⟨v3, v3'⟩, v4, v5, v6, v7, v8, v9, -⟩ := hT.2.1 c cc'
    have i10 : mI M1 s 10 = ((un : Nat) : Int) := by rw [F.2.2.2.2.2.2 s (show ¬ s = s + 32 by first | rfl | omega)]; exact u1
    have i9 : mI M1 (s + 126) i = ((c : Nat) : Int) := by rw [F.2.2.2.2.2.2 (s + 126) (show ¬ s + 126 = s + 32 by first | rfl | omega)]; exact e4
    have mw : ((mu : Nat) : Int) < 2 ^ (wt i) := by
      have := (hwt i hi).1 kst lo hi' c e1 e2 e3 l1 l2
      rw [← F.2.2.2.2.2.2 (g + 6) (nS 6 (by decide)), v6] at this
      exact this
    refine k_So_evaluate_15 o ⟨by omega, by omega⟩ ⟨by omega, by omega⟩ ?_
    rw [i10, r9, n9, r3, q6, m6, r4, re', ne', Int.toNat_natCast, i9, Int.toNat_natCast, v6, show ((i : Int) * 41 + (i : Int)) = ((i * 41 + i : Nat) : Int) by first | rfl | omega, Int.toNat_natCast]
    refine ⟨s0, fun u => absurd u (by omega), fun _ => ⟨k9, ⟨by omega, by omega⟩, g0, gk 6 (by decide) (by decide), ⟨by omega, by omega⟩, e0, ke', ⟨by omega, by omega⟩, fun M21 e21 => ?_⟩⟩
    have f21 : FI (fun z => z = s + 32) M1 M21 := by rw [e21]; exact FI.ui rfl
    have o21 : mOk M21 := by rw [e21]; exact mOk_UI o ⟨by omega, by omega⟩
    have hg21 := hg1.fi f21 o21 nS
    refine (s_nlz (d := d) (show (0 : Int) < ((mu : Nat) : Int) by omega) ⟨by omega, by omega⟩ o21).mono (fun x24 M23 q => ?_)
    obtain ⟨e23, kk, ek, k31, p1, p2⟩ := q
    have w32 : 32 - kk ≤ wt i := by
      have : 31 - kk < wt i := p2l (Int.lt_of_le_of_lt p1 mw)
      omega
    have b7 : mI M21 (g + 7) c = ((x : Nat) : Int) := by rw [f21.2.2.2.2.2.2 (g + 7) (nS 7 (by decide))]; exact v1
    rw [e23, ek, f21.1, f21.2.1, f21.2.2.1, r3, q7, m7, b7]
    refine ⟨⟨by omega, by omega⟩, o21, s0, g0, gk 7 (by decide) (by decide), ⟨by omega, by omega⟩, ?_⟩
    rw [show ((bits : Nat) : Int) + (32 - ((kk : Nat) : Int)) = ((bits + (32 - kk) : Nat) : Int) by first | rfl | omega]
    have wt33 := (hwt i hi).2
    have g8 : mI M21 (g + 8) = mI M1 (g + 8) := f21.2.2.2.2.2.2 (g + 8) (nS 8 (by decide))
    have g9 : mI M21 (g + 9) = mI M1 (g + 9) := f21.2.2.2.2.2.2 (g + 9) (nS 9 (by decide))
    refine s_ev86 (M := M21) (mu := mu) (x := x) (y := y) (un := un) (a := a) hg21 (hR1.fi f21) (fun j hj => by rw [f21.2.2.2.2.2.2 (s + 124) (show ¬ s + 124 = s + 32 by first | rfl | omega), F.2.2.2.2.2.2 (s + 124) (show ¬ s + 124 = s + 32 by first | rfl | omega)]; exact u3 j hj) u2 (by omega) ⟨by omega, by omega⟩ cc' (by rw [f21.2.2.2.2.2.2 (g + 7) (nS 7 (by decide))]; exact v2) ⟨by omega, v4⟩ (fun j p q => by rw [g8, g9]; exact v5 j p q) (by rw [wsm_cg (M := M1) _ (fun j _ _ => by rw [g9])]; exact v9) v8 (fun M' o' F' oth ev => ?_) (y - x) x M21 (by omega) (Nat.le_refl _) (by omega) o21 FI.refl (fun _ _ => rfl) ?_
    · rw [show ((i : Int) + 1) = ((i + 1 : Nat) : Int) by first | rfl | omega]
      refine ih (i + 1) (bits + (32 - kk)) M' (by omega) (by omega) o' ((F.trans f21).trans F') (fun j hj => ?_) (fun j hj1 hj2 => ?_) ?_ ?_
      · by_cases cj : j < i * 41 ∨ i * 41 + 41 ≤ j
        · show -1000000000 ≤ mI M' (s + 32) j ∧ mI M' (s + 32) j ≤ 1000000000
          rw [oth j cj, mI_ui _ j e21, if_neg (fun u => by omega)]
          exact en j hj
        · obtain ⟨j', ej⟩ : ∃ j', j = i * 41 + j' ∧ j' ≤ 40 := ⟨j - i * 41, by omega, by omega⟩
          show -1000000000 ≤ mI M' (s + 32) j ∧ mI M' (s + 32) j ≤ 1000000000
          rw [ej.1]
          by_cases c40 : j' = 40
          · rw [c40]; have := ev.2; omega
          · have := ev.1 j' (by omega); omega
      · rw [oth j (Or.inr (by omega)), mI_ui _ j e21, if_neg (fun u => by omega)]
        exact z j (by omega) hj2
      · show bits + (32 - kk) ≤ wsu wt i + wt i
        omega
      · show wsu wt i + wt i ≤ 33 * (i + 1)
        omega
    · rw [Nat.sub_self]
      show evR M21 s i mu 0
      refine ⟨fun j hj => ?_, ?_⟩
      · rw [mI_ui _ _ e21]
        by_cases cj : j = i
        · rw [if_pos ⟨rfl, by omega⟩]; omega
        · rw [if_neg (fun u => by omega), z _ (by omega) (by omega)]; omega
      · rw [mI_ui _ _ e21, if_neg (fun u => by omega), z _ (by omega) (by omega)]
        omega
end NBS
end
section
/-! The class's Solver: the numbers of what is chosen. -/
section NBT
variable {G : mG} {d s g a R cn cc bc i k n c un x y mu : Nat} {M M0 M' M1 M2 M3 : mM} {L : List Nat} {W : Nat → Nat}
def Cev (s x : Nat) : Prop := S36 (s + 31) x ∨ x = s + 32
theorem Cev.so {R' : Nat} (h : Cev s x) : Cso s M R' n x := h.elim (fun u => Or.inr (Or.inr (Or.inl u))) (fun u => Or.inr (Or.inr (Or.inr (Or.inl u))))
theorem Cev.nst (h : Cev s x) : ¬ Stb s x := by
  unfold Cev S36 at h
  unfold Stb
  omega
/-- while numbers are worked out -/
def evI (L : List Nat) (W : Nat → Nat) (s g a R k cn cc bc : Nat) (M0 M : mM) : Prop := NX L W (Tso s M0 R cn) (Cev s) False (s + 1) M0 M ∧ Sva L W s g a R k cn cc bc M ∧ mR M R = mR M0 R ∧ (∀ x, Stb s x → mI M x = mI M0 x) ∧ Rsm M R cn 17 ∧ (∀ i, i < cn → mI M (mR M0 R i) = mI M0 (mR M0 R i)) ∧ ∀ i, i ≤ 9 → mI M (g + i) = mI M0 (g + i)
theorem ev_mk (h : Sva L W s g a R k cn cc bc M0) (hcn : cn ≤ k) (q : NX L W (Tso s M0 R cn) (Cev s) False (s + 1) M0 M) (hr : Rsm M R cn 17) : evI L W s g a R k cn cc bc M0 M := by
  have hF := h.2.1.1
  have q' : NX L W (Tso s M0 R cn) (Cso s M0 R cn) False (s + 1) M0 M := q.mono hF (fun _ u => u) (h.tl hcn) (fun x u => u.so) (h.cl hcn) (fun u => u)
  obtain ⟨e1, e2, e3⟩ := h.nx hcn q' (q.sk hF h.2.1.2.1)
  refine ⟨q, e1, e3, fun x hx => ?_, hr, fun i hi => ?_, e2⟩
  · have ne : x ≠ s + 1 := by unfold Stb at hx; omega
    exact (q.oth (h.2.2.1 x hx) ne).2.2.2 (fun u => u.nst hx)
  · have f := h.2.2.2.2.1.2.2.2.2.2 i (by omega)
    refine (q.frl hF f).2 (fun u => ?_)
    have := h.2.2.2.2.2.1 i (by omega)
    unfold Cev S36 at u
    omega
/-- one row's numbers -/
theorem s_ev226 (h0 : Sva L W s g a R k cn cc bc M0) (hcn : cn ≤ k) (hk : k ≤ 512) (hU0 : Unk M0 s cn un) (hWr : ∀ i, i < k → 17 ≤ W (mR M0 R i + 1) ∧ 17 ≤ W (mR M0 R i + 3)) : ∀ (t i : Nat) (M : mM), un ≤ i + t → i ≤ un → evI L W s g a R k cn cc bc M0 M → (∀ j, j ≤ un → nv M (s + 31 + 9 + 2 * j) < 2 ^ (30 * 17)) → h_So_evaluate_226 G (d + 1) s a i M (evI L W s g a R k cn cc bc M0) := by
  obtain ⟨u1, u2, u3, u4⟩ := id hU0
  intro t
  induction t with
  | zero =>
    intro i M h1 h2 hI hv
    have ei : i = un := by omega
    subst ei
    obtain ⟨-, ⟨⟨o, ⟨⟨s0, -⟩, -⟩, -⟩, -⟩, -, st, -⟩ := id hI
    refine k_So_evaluate_226 o ⟨by omega, by omega⟩ ?_
    rw [st s (Or.inl rfl), u1]
    exact ⟨s0, fun _ => hI, fun u => absurd (Int.le_refl _) u⟩
  | succ t ih =>
    intro i M h1 h2 hI hv
    by_cases ei : i = un
    · exact ih i M (by omega) h2 hI hv
    obtain ⟨hN, hS, eR, st, hr, hti, gi⟩ := id hI
    obtain ⟨⟨o, ⟨⟨s0, gs⟩, ⟨-, -, -, -, r4, -, -, -, r8, -⟩, ⟨-, -, -, -, -, k8, -⟩, ⟨-, -, -, -, -, n8, -⟩⟩, -⟩, ⟨hF, hSK, hRs, hfw⟩, -, -, ⟨t1, t2, t3, t4, -, t7⟩, hrow, hD⟩ := id hS
    obtain ⟨⟨e0, ⟨-, re, -⟩, ⟨-, ke, -⟩, ⟨-, ne, -⟩⟩, -, res, -⟩ := id hRs
    have re' : mR M (s + 31) 1 = s + 33 := re
    have ke' : mK M (s + 33) = 34 := ke
    have ne' : mN M (s + 33) = 41 := ne
    have resI := res i (by omega)
    have resU := res un (by omega)
    have res1 : mR M (s + 33) i = s + 31 + 9 + 2 * i := resI.1
    have res2 : ∀ {M'}, mR M' (s + 33) = mR M (s + 33) → mR M' (s + 33) un = s + 31 + 9 + 2 * un := fun e => by rw [e]; exact resU.1
    obtain ⟨kst, c, lo, hi', e1, hkc, -⟩ := u4 i (by omega)
    have e1' : mI M (s + 125) i = ((kst : Nat) : Int) := by rw [st (s + 125) (Or.inr (Or.inr (Or.inr (Or.inr (Or.inr (Or.inr (Or.inl rfl)))))))]; exact e1
    have f := t7 kst (by omega)
    have fb := hrow kst (by omega)
    have wr := hWr kst (by omega)
    rw [← eR] at wr
    have sI := hF.szv resI.2 (hv i (by omega))
    have sU := hF.szv resU.2 (hv un (Nat.le_refl _))
    refine k_So_evaluate_226 o ⟨by omega, by omega⟩ ?_
    rw [st s (Or.inl rfl), u1, r8, n8, t2, t4, r4, re', ne', Int.toNat_natCast, e1', Int.toNat_natCast, res1, f.1.2.1.1]
    refine ⟨s0, fun u => absurd u (by omega), fun _ => ⟨t1, k8, ⟨by omega, by omega⟩, t3, ⟨by omega, by omega⟩, f.1.1, e0, ke', ⟨by omega, by omega⟩, hF.kd f.2.1, (f_put1 (d := d) o hF f.2.1 resI.2 (by omega) (by omega)).mono (fun M83 q => ?_)⟩⟩
    obtain ⟨c1, v1⟩ := q
    have F1 := c1.nf
    have z9 := hS.z9
    have x1 : NX L W (Tso s M0 R cn) (Cev s) False (s + 1) M M83 := (c1.nx (C := Cev s) (r := False) (fun x u => hS.cl (n := cn) hcn x u.so) z9).mono hF (fun t ht => Or.inr (Or.inr (Or.inr ⟨kst, hkc, Or.inl (by rw [← eR]; exact ht)⟩))) hN.2.1.1 (fun _ u => u) (fun x u => hS.cl (n := cn) hcn x u.so) (fun u => u)
    have N1 := hN.trans x1
    have S1 := (ev_mk h0 hcn N1 (M := M83) (fun j hj => ?_)).2.1
    · obtain ⟨⟨o1, ⟨⟨s01, -⟩, ⟨-, -, -, -, r41, -⟩, -⟩, -⟩, ⟨-, -, hRs1, -⟩, -, -, ⟨-, -, -, -, -, t71⟩, -, -⟩ := id S1
      obtain ⟨⟨e01, ⟨-, re1, -⟩, ⟨-, ke1, -⟩, ⟨-, ne1, -⟩⟩, -, res1', -⟩ := id hRs1
      have re1' : mR M83 (s + 31) 1 = s + 33 := re1
      have ke1' : mK M83 (s + 33) = 34 := ke1
      have ne1' : mN M83 (s + 33) = 41 := ne1
      have rU1 : mR M83 (s + 33) un = s + 31 + 9 + 2 * un := (res1' un (by omega)).1
      have i10 : mI M83 s 10 = ((un : Nat) : Int) := by rw [(c1.oth (hS.2.2.1 s (Or.inl rfl))).2.2.2, st s (Or.inl rfl)]; exact u1
      have fr1 := (c1.nl (I := fun _ => False) (r := False) noI z9).frl hF f
      have sU1 : sz M83 (s + 31 + 9 + 2 * un) ≤ 17 := by rw [(c1.num hF resU.2 (show ¬ (s + 31 + 9 + 2 * un = mR M R kst + 1) by first | rfl | omega)).2.2.2.1]; exact sU
      rw [r41, re1', ne1', i10, Int.toNat_natCast, rU1, fr1.1.2.1.2]
      refine ⟨c1.ok, fr1.1.1, s01, e01, ke1', ⟨by omega, by omega⟩, F1.kd f.2.2, (f_put1 (d := d) c1.ok F1 f.2.2 resU.2 (by omega) (by omega)).mono (fun M92 q => ?_)⟩
      obtain ⟨c2, v2⟩ := q
      have x2 : NX L W (Tso s M0 R cn) (Cev s) False (s + 1) M83 M92 := (c2.nx (C := Cev s) (r := False) (fun x u => S1.cl (n := cn) hcn x u.so) S1.z9).mono F1 (fun t ht => Or.inr (Or.inr (Or.inr ⟨kst, hkc, Or.inr (by rw [← eR]; exact ht)⟩))) hN.2.1.1 (fun _ u => u) (fun x u => S1.cl (n := cn) hcn x u.so) (fun u => u)
      have eR2 : mR M92 R = mR M R := by
        rw [(c2.oth S1.2.2.2.2.1.2.2.2.2.1.2).2.2.1, (c1.oth hS.2.2.2.2.1.2.2.2.2.1.2).2.2.1]
      have keep : ∀ b, b ∈ L → b ≠ mR M R kst + 1 → b ≠ mR M R kst + 3 → nv M92 b = nv M b := fun b hb n1 n3 => (c2.v F1 hb n3).trans (c1.v hF hb n1)
      rw [show ((i : Int) + 1) = ((i + 1 : Nat) : Int) by first | rfl | omega]
      refine ⟨c2.ok, ih (i + 1) M92 (by omega) (by omega) (ev_mk h0 hcn (N1.trans x2) (fun j hj => ?_)) (fun j hj => by rw [keep _ (res j (by omega)).2 (by omega) (by omega)]; exact hv j hj)⟩
      rw [eR2]
      by_cases cj : j = kst
      · rw [cj, v2, c1.v hF resU.2 (by omega), c2.v F1 f.2.1 (by omega), v1]
        exact ⟨hF.nn0 resU.2, hv un (Nat.le_refl _), hv i (by omega)⟩
      · have dj := hD j kst (by omega) (by omega) cj
        have fj := t7 j (by omega)
        rw [keep _ fj.2.1 (fun u => dj.1 (by omega)) dj.2.1, keep _ fj.2.2 dj.2.2 (fun u => dj.1 (by omega))]
        exact hr j hj
    · rw [(c1.oth hS.2.2.2.2.1.2.2.2.2.1.2).2.2.1]
      by_cases cj : j = kst
      · rw [cj, v1, c1.v hF f.2.2 (by omega)]
        exact ⟨(hr kst hkc).1, (hr kst hkc).2.1, hv i (by omega)⟩
      · have dj := hD j kst (by omega) (by omega) cj
        have fj := t7 j (by omega)
        rw [c1.v hF fj.2.1 (fun u => dj.1 (by omega)), c1.v hF fj.2.2 dj.2.2]
        exact hr j hj
theorem s_So_evaluate {wt : Nat → Nat} (h : Sva L W s g a R k cn cc bc M) (hcn : cn ≤ k) (hk : k ≤ 512) (hL : LHs M s cn cc) (hU : Unk M s cn un) (hwt : ∀ i, i < un → wtO M s g i (wt i) ∧ wt i ≤ 33) (h480 : wsu wt un ≤ 480) (hr : Rsm M R cn 17) (hWr : ∀ i, i < k → 17 ≤ W (mR M R i + 1) ∧ 17 ≤ W (mR M R i + 3)) (hW : ∀ x, Trs (s + 31) x → 40 ≤ W x) : Cv G y_So_evaluate (d + 6) [vr s, vr a] M (evI L W s g a R k cn cc bc M) := by
  obtain ⟨hg, ⟨hF, hSK, hRs, hfw⟩, hSt, -⟩ := id h
  obtain ⟨o, ⟨⟨s0, gs⟩, ⟨-, -, -, -, r4, -⟩, -⟩, -⟩ := id hg
  obtain ⟨⟨e0, ⟨re, -⟩, ⟨ke, -⟩, ⟨ne, -⟩⟩, oe, -⟩ := id hRs
  have re' : mR M (s + 31) 0 = s + 32 := re
  have ke' : mK M (s + 32) = 30 := ke
  have ne' : mN M (s + 32) = 1640 := ne
  have nS : ∀ i, i ≤ 9 → ¬ (fun z => z = s + 32) (g + i) := fun i hi u => by have u' : g + i = s + 32 := u; omega
  have c32 : ∀ x, (fun z => z = s + 32) x → Oc L M x := fun x u => by rw [u]; exact oe 1 (by decide)
  refine k_So_evaluate o ?_
  rw [r4, re']
  refine ⟨s0, e0, (s_JA_fill (d := d + 5) o ke' (by rw [ne']; decide) ⟨by decide, by decide⟩).mono (fun M3 q => ?_)⟩
  obtain ⟨o3, f3, i3⟩ := q
  rw [ne'] at i3
  have keepF : ∀ {x : Nat}, x ≠ s + 32 → mI M3 x = mI M x := fun hx => f3.2.2.2.2.2.2 _ hx
  refine ⟨o3, s_ev15 (M := M3) (wt := wt) (un := un) (a := a) (hg.fi f3 o3 nS) (hRs.1.fi f3) (fun j hj => by rw [keepF (show s + 122 ≠ s + 32 by omega), keepF (show s + 123 ≠ s + 32 by omega)]; exact hL j hj) ?_ ?_ (fun M' bits o' F' en hb => ?_) un 0 0 M3 (by omega) (by omega) o3 FI.refl (fun j hj => by show -1000000000 ≤ mI M3 (s + 32) j ∧ mI M3 (s + 32) j ≤ 1000000000; rw [i3 j hj]; decide) (fun j _ hj => i3 j hj) (Nat.zero_le _) (Nat.zero_le _)⟩
  · unfold Unk Slo at hU ⊢
    rw [keepF (show s ≠ s + 32 by omega), keepF (show s + 124 ≠ s + 32 by omega), keepF (show s + 125 ≠ s + 32 by omega), keepF (show s + 126 ≠ s + 32 by omega), keepF (show s + 122 ≠ s + 32 by omega), keepF (show s + 123 ≠ s + 32 by omega)]
    exact hU
  · intro i hi
    have := hwt i hi
    unfold wtO at this ⊢
    rw [keepF (show s + 125 ≠ s + 32 by omega), keepF (show s + 122 ≠ s + 32 by omega), keepF (show s + 123 ≠ s + 32 by omega), keepF (fun u => nS 6 (by decide) u)]
    exact this
  · have FF := f3.trans F'
    have i10 : mI M' s 10 = ((un : Nat) : Int) := by rw [FF.2.2.2.2.2.2 s (show ¬ s = s + 32 by first | rfl | omega)]; exact hU.1
    obtain ⟨x0, v0⟩ := FF.nx (T := Tso s M R cn) (r := False) (z := s + 1) o' hF (h.tl hcn) c32 h.z9
    have xE : NX L W (Tso s M R cn) (Cev s) False (s + 1) M M' := x0.mono hF (fun _ u => u) (h.tl hcn) (fun x u => Or.inr u) (fun x u => h.cl (n := cn) hcn x u.so) (fun u => u)
    have E' := ev_mk h hcn xE (fun j hj => ?_)
    · obtain ⟨-, ⟨-, ⟨hF', -, hRs', -⟩, -⟩, -⟩ := id E'
      rw [FF.1, FF.2.2.1, r4, i10]
      refine ⟨e0, (s_Re_settle (d := d) (rows := un) (bits := bits) (L := L) (W := W) hU.2.1 (by omega) o' hF' hRs' (fun j hj => en j (by have := hU.2.1; omega)) hW).mono (fun M10 q => ?_)⟩
      obtain ⟨n10, k10, v10⟩ := q
      have S' := E'.2.1
      have x10 : NX L W (Tso s M R cn) (Cev s) False (s + 1) M' M10 := (n10.nx hRs' S'.z9).mono hF' (fun t ht => Or.inr (Or.inl ht)) xE.2.1.1 (fun x u => Or.inl u) (fun x u => S'.cl (n := cn) hcn x u.so) (fun u => u)
      have X10 := xE.trans x10
      refine ⟨n10.ok, s_ev226 (d := d + 4) h hcn hk hU hWr un 0 M10 (by omega) (by omega) (ev_mk h hcn X10 (fun j hj => ?_)) (fun j hj => Int.lt_of_lt_of_le (v10 j hj) (by rw [show 30 * 17 = 510 by decide]; exact p2m (by omega)))⟩
      have f := h.2.2.2.2.1.2.2.2.2.2 j (by omega)
      have hb' := h.2.2.2.2.2.1 j (by omega)
      have nT : ∀ y, s + 134 < y → ¬ Trs (s + 31) y := fun y hy u => by
        rcases u with u | ⟨i, hi, u⟩ <;> omega
      have eR10 : mR M10 R = mR M R := by
        have nR : R ≠ s + 1 := fun u => by have t3 := h.2.2.2.2.1.2.2.1; rw [u, h.z9.2] at t3; omega
        exact (X10.oth h.2.2.2.2.1.2.2.2.2.1.2 nR).2.2.1
      have kx : ∀ b, b ∈ L → s + 134 < b → nv M10 b = nv M b := fun b hb hb2 => by
        rw [((n10.nx hRs' S'.z9).num hF' hb (nT b hb2)).2.2, v0 b hb]
      rw [eR10, kx _ f.2.1 (by omega), kx _ f.2.2 (by omega)]
      exact hr j hj
    · have f := h.2.2.2.2.1.2.2.2.2.2 j (by omega)
      rw [FF.2.2.1, v0 _ f.2.1, v0 _ f.2.2]
      exact hr j hj
end NBT
end
section
/-! The class's Solver: choices are bettered. -/
section NBU
variable {G : mG} {d s g a R cn cc bc i k n c un x y mu B : Nat} {M M0 M' M1 M2 M3 : mM} {L : List Nat} {W : Nat → Nat}
def Cim (s x : Nat) : Prop := Ipk (s + 1) x ∨ x = s + 126
theorem Cim.so {R' : Nat} (h : Cim s x) : Cso s M R' n x := h.elim (fun u => Or.inl u) (fun u => Or.inr (Or.inl (Or.inr (Or.inr (Or.inr (Or.inr (Or.inr (Or.inr (Or.inr (Or.inl u))))))))))
/-- rows without small factors -/
def Rt1 (M : mM) (R n : Nat) : Prop := ∀ i, i < n → mI M (mR M R i) 2 = 1
/-- while choices are bettered -/
def imI (L : List Nat) (W : Nat → Nat) (s g a R k cn cc bc un : Nat) (M0 M : mM) : Prop := NX L W (Tpk (s + 1)) (Cim s) True (s + 1) M0 M ∧ Sva L W s g a R k cn cc bc M ∧ mR M R = mR M0 R ∧ (∀ x, Stb s x → x ≠ s + 126 → mI M x = mI M0 x) ∧ (Rsm M R cn 17 ∧ Rt1 M R cn) ∧ Unk M s cn un
theorem im_mk (h : Sva L W s g a R k cn cc bc M0) (hcn : cn ≤ k) (hr : Rsm M0 R cn 17 ∧ Rt1 M0 R cn) (q : NX L W (Tpk (s + 1)) (Cim s) True (s + 1) M0 M) (sk : SK L M (s + 1)) (hU : Unk M s cn un) : imI L W s g a R k cn cc bc un M0 M := by
  have hF := h.2.1.1
  have q' : NX L W (Tso s M0 R cn) (Cso s M0 R cn) True (s + 1) M0 M := q.mono hF (fun _ u => Or.inl u) (h.tl hcn) (fun x u => u.so) (h.cl hcn) (fun u => u)
  obtain ⟨e1, e2, e3⟩ := h.nx hcn q' sk
  have rv : ∀ i, i < cn → nv M (mR M0 R i + 1) = nv M0 (mR M0 R i + 1) ∧ nv M (mR M0 R i + 3) = nv M0 (mR M0 R i + 3) ∧ mI M (mR M0 R i) = mI M0 (mR M0 R i) := fun i hi => by
    have f := h.2.2.2.2.1.2.2.2.2.2 i (by omega)
    have ap := h.te.2.2.2.1 i (by omega)
    refine ⟨(q.num hF f.2.1 ap.1).2.2, (q.num hF f.2.2 ap.2.1).2.2, (q.frl hF f).2 (fun u => ?_)⟩
    have := h.2.2.2.2.2.1 i (by omega)
    unfold Cim Ipk at u
    omega
  refine ⟨q, e1, e3, fun x hx nx => ?_, ⟨fun i hi => ?_, fun i hi => ?_⟩, hU⟩
  · have ne : x ≠ s + 1 := by unfold Stb at hx; omega
    refine (q.oth (h.2.2.1 x hx) ne).2.2.2 (fun u => ?_)
    unfold Cim Ipk at u
    unfold Stb at hx
    omega
  · rw [e3, (rv i hi).1, (rv i hi).2.1]; exact hr.1 i hi
  · rw [e3, (rv i hi).2.2]; exact hr.2 i hi
theorem unk_same (h : Unk M s cn un) (e : ∀ x, Stb s x → x ≠ s + 126 → mI M' x = mI M x) (e6 : mI M' (s + 126) = mI M (s + 126)) : Unk M' s cn un := by
  unfold Unk Slo at h ⊢
  rw [e s (Or.inl rfl) (by omega), e (s + 124) (Or.inr (Or.inr (Or.inr (Or.inr (Or.inr (Or.inl rfl)))))) (by omega), e (s + 125) (Or.inr (Or.inr (Or.inr (Or.inr (Or.inr (Or.inr (Or.inl rfl))))))) (by omega), e (s + 122) (Or.inr (Or.inr (Or.inr (Or.inl rfl)))) (by omega), e (s + 123) (Or.inr (Or.inr (Or.inr (Or.inr (Or.inl rfl))))) (by omega), e6]
  exact h
theorem st122 : Stb s (s + 122) ∧ Stb s (s + 123) ∧ Stb s (s + 125) := ⟨Or.inr (Or.inr (Or.inr (Or.inl rfl))), Or.inr (Or.inr (Or.inr (Or.inr (Or.inl rfl)))), Or.inr (Or.inr (Or.inr (Or.inr (Or.inr (Or.inr (Or.inl rfl))))))⟩
theorem s_im5 {pl : Int} (hpl : i32 pl) (h0 : Sva L W s g a R k cn cc bc M0) (hcn : cn ≤ k) (hk : k ≤ 512) (hL : LHs M0 s cn cc) (hr : Rsm M0 R cn 17 ∧ Rt1 M0 R cn) (hW : ∀ x, Tpk (s + 1) x → B ≤ W x) (b1 : 300 ≤ B) (hB : B ≤ 16000) (u40 : un ≤ 40) : ∀ (t i : Nat) (bt : Int) (M : mM), un ≤ i + t → i ≤ un → (bt = 0 ∨ bt = 1) → imI L W s g a R k cn cc bc un M0 M → h_So_improve_5 G (d + 6) s pl a bt i M (fun x M' => (x = 0 ∨ x = 1) ∧ imI L W s g a R k cn cc bc un M0 M') := by
  intro t
  induction t with
  | zero =>
    intro i bt M h1 h2 hb hI
    have ei : i = un := by omega
    subst ei
    obtain ⟨-, ⟨⟨o, ⟨⟨s0, -⟩, -⟩, -⟩, -⟩, -, -, -, hU⟩ := id hI
    refine k_So_improve_5 o hpl (m_b32 hb) ⟨by omega, by omega⟩ ?_
    rw [hU.1]
    exact ⟨s0, fun _ => ⟨hb, hb, hI⟩, fun u => absurd (Int.le_refl _) u⟩
  | succ t ih =>
    intro i bt M h1 h2 hb hI
    by_cases ei : i = un
    · exact ih i bt M (by omega) h2 hb hI
    obtain ⟨hN, hS, eR, st, ⟨hrs, ht1⟩, hU⟩ := id hI
    obtain ⟨⟨o, ⟨⟨s0, gs⟩, ⟨r0, -, -, r3, -, r5, r6, -, r8, r9, -⟩, ⟨-, -, k5, k6, -, k8, k9, -⟩, ⟨-, -, n5, n6, -, n8, n9, -⟩⟩, ⟨g0, ⟨q2, -⟩, gk, ⟨m2, -⟩⟩, -, hT⟩, ⟨hF, hSK, hRs, hfw⟩, -, -, ⟨t1, t2, t3, t4, -, t7⟩, hrow, hD⟩ := id hS
    obtain ⟨hc1, hc2, hc3⟩ := hT.1
    obtain ⟨kst, c, lo, hi', e1, hkc, e4, e2, e3, l1, l2⟩ := hU.2.2.2 i (by omega)
    obtain ⟨lo', hi2, f1, f2, f3, f4⟩ := hL kst hkc
    rw [← st (s + 122) st122.1 (by omega)] at f1
    rw [← st (s + 123) st122.2.1 (by omega)] at f2
    have next : ∀ (bt' : Int) (M' : mM), (bt' = 0 ∨ bt' = 1) → imI L W s g a R k cn cc bc un M0 M' → h_So_improve_122 G (d + 6) s pl a bt' i M' (fun x M' => (x = 0 ∨ x = 1) ∧ imI L W s g a R k cn cc bc un M0 M') := fun bt' M' hb' hI' => by
      refine k_So_improve_122 hI'.2.1.1.1 hpl (m_b32 hb') ⟨by omega, by omega⟩ ?_
      rw [show ((i : Int) + 1) = ((i + 1 : Nat) : Int) by first | rfl | omega]
      exact ih (i + 1) bt' M' (by omega) (by omega) hb' hI'
    refine k_So_improve_5 o hpl (m_b32 hb) ⟨by omega, by omega⟩ ?_
    rw [hU.1, r8, n8, r3, q2, m2, r5, r6, n5, n6, r0, Int.toNat_natCast, e1, Int.toNat_natCast, e2, e3]
    refine ⟨s0, fun u => absurd u (by omega), fun _ => ⟨k8, ⟨by omega, by omega⟩, g0, gk 2 (by decide) (by decide), ⟨by omega, by omega⟩, fun _ => ⟨k6, ⟨by omega, by omega⟩, k5, ⟨by omega, by omega⟩, ⟨by omega, by omega⟩⟩, fun _ => next bt M hb hI, fun nn => ⟨k5, ⟨by omega, by omega⟩, k6, ⟨by omega, by omega⟩, fun v33 e33 => ⟨hSK.1.1, ?_⟩⟩⟩⟩
    have v01 : i32 v33 := by rw [e33]; split <;> exact ⟨by decide, by decide⟩
    refine (f_pick (d := d) (S := 17) (B := B) v01 (hS.te.pe hcn) hrs hW (by omega) hB (show lo < hi' by omega) (by omega) hc1 hc3 (fun c' _ hc' => hT.2.1 c' (by omega))).mono (fun x40 M39 q => ?_)
    obtain ⟨p1, p2, p3, p4, p5⟩ := q
    have x1 : NX L W (Tpk (s + 1)) (Cim s) True (s + 1) M M39 := (p1.nx hF).mono hF (fun _ u => u) hN.2.1.1 (fun x u => Or.inl u) (fun x u => hS.cl (n := cn) hcn x u.so) (fun u => u)
    have stb1 : ∀ x, Stb s x → mI M39 x = mI M x := fun x hx => by
      have ne : x ≠ s + 1 := by unfold Stb at hx; omega
      refine ((p1.nx hF).oth (hS.2.2.1 x hx) ne).2.2.2 (fun u => ?_)
      unfold Ipk at u
      unfold Stb at hx
      omega
    have N1 := hN.trans x1
    have U1 : Unk M39 s cn un := unk_same hU (fun x hx _ => stb1 x hx) (stb1 (s + 126) (Or.inr (Or.inr (Or.inr (Or.inr (Or.inr (Or.inr (Or.inr (Or.inl rfl)))))))))
    have I1 := im_mk h0 hcn hr N1 p2 U1
    obtain ⟨-, hS1, eR1, -, ⟨hrs1, ht11⟩, -⟩ := id I1
    obtain ⟨⟨o1, ⟨⟨s01, -⟩, ⟨r01, -⟩, -⟩, -⟩, ⟨hF1, -, -, -⟩, -, -, ⟨t11, t21, t31, t41, -, t71⟩, hrow1, -⟩ := id hS1
    have fr := t71 kst (by omega)
    have ap := hS1.te.2.2.2.1 kst (by omega)
    obtain ⟨i9, -, -⟩ := p2.bt
    have fw := p2.frl i9
    have ob : Osz M39 (mR M39 (s + 1) 9) 139 := ⟨hF1.szv fw.2.1 p3.2.1, hF1.szv fw.2.2 (Int.lt_of_lt_of_le p3.1.2 (p30m (by decide))), p3.2.2.1.1, by have := p3.2.2.1.2; omega⟩
    have orw : Osz M39 (mR M39 R kst) 139 := by
      have sm := hrs1 kst hkc
      have a1 := hF1.szv fr.2.1 sm.2.2
      have a2 := hF1.szv fr.2.2 sm.2.1
      have a3 := ht11 kst hkc
      exact ⟨by omega, by omega, by omega, by omega⟩
    rw [t21, t41, r01]
    refine ⟨⟨by omega, by omega⟩, o1, s01, t11, t31, ⟨by omega, by omega⟩, p2.1.1, (f_orderOfPicked (d := d) o1 hF1 p2 fr ob orw ⟨fun u => ap.1 (Or.inr (Or.inl u)), fun u => ap.2.1 (Or.inr (Or.inl u))⟩ (by have := hW _ (Or.inr (Or.inl (Or.inl rfl))); omega) (by have := hW _ (Or.inr (Or.inl (Or.inr rfl))); omega)).mono (fun x48 M47 q => ?_)⟩
    obtain ⟨n2, xx⟩ := q
    have x2 : NX L W (Tpk (s + 1)) (Cim s) True (s + 1) M39 M47 := (n2.nx hF1).mono hF1 (fun _ u => Or.inr (Or.inl u)) hN.2.1.1 (fun _ u => u.elim) (fun x u => hS1.cl (n := cn) hcn x u.so) (fun u => u.elim)
    have sk2 := n2.sk hF1 p2
    have stb2 : ∀ x, Stb s x → mI M47 x = mI M39 x := fun x hx => by
      have ne : x ≠ s + 1 := by unfold Stb at hx; omega
      exact ((n2.nx hF1).oth (hS1.2.2.1 x hx) ne).2.2.2 (fun u => u)
    have N2 := N1.trans x2
    have U2 : Unk M47 s cn un := unk_same U1 (fun x hx _ => stb2 x hx) (stb2 (s + 126) (Or.inr (Or.inr (Or.inr (Or.inr (Or.inr (Or.inr (Or.inr (Or.inl rfl)))))))))
    have I2 := im_mk h0 hcn hr N2 sk2 U2
    obtain ⟨-, hS2, -, st2, -, -⟩ := id I2
    obtain ⟨⟨o2, ⟨⟨s02, -⟩, ⟨-, -, -, -, -, -, -, -, -, r92, -⟩, ⟨-, -, -, -, -, -, k92, -⟩, ⟨-, -, -, -, -, -, n92, -⟩⟩, -⟩, ⟨hF2, -⟩, hSt2, -⟩ := id hS2
    rw [r92, n92]
    refine ⟨by rcases xx with e | e | e <;> rw [e] <;> exact ⟨by decide, by decide⟩, o2, fun _ => next bt M47 hb I2, fun _ => ⟨s02, k92, ⟨by omega, by omega⟩, fun M58 e58 => ?_⟩⟩
    have f58 : FI (fun z => z = s + 126) M47 M58 := by rw [e58]; exact FI.ui rfl
    have o58 : mOk M58 := by rw [e58]; exact mOk_UI o2 ⟨by omega, by omega⟩
    obtain ⟨x3, -⟩ := f58.nx (T := Tpk (s + 1)) (r := False) (z := s + 1) o58 hF2 hN.2.1.1 (fun x u => by rw [u]; exact hSt2 _ (Or.inr (Or.inr (Or.inr (Or.inr (Or.inr (Or.inr (Or.inr (Or.inl rfl))))))))) hS2.z9
    have x3' : NX L W (Tpk (s + 1)) (Cim s) True (s + 1) M47 M58 := x3.mono hF2 (fun _ u => u) hN.2.1.1 (fun _ u => Or.inr u) (fun x u => hS2.cl (n := cn) hcn x u.so) (fun u => u.elim)
    refine next 1 M58 (Or.inr rfl) (im_mk h0 hcn hr (N2.trans x3') (x3.sk hF2 sk2) ?_)
    have kp : ∀ {x : Nat}, x ≠ s + 126 → mI M58 x = mI M47 x := fun hx => f58.2.2.2.2.2.2 _ hx
    obtain ⟨w1, w2, w3, w4⟩ := U2
    refine ⟨by rw [kp (by omega)]; exact w1, w2, fun j hj => by rw [kp (show s + 124 ≠ s + 126 by omega)]; exact w3 j hj, fun j hj => ?_⟩
    rw [kp (show s + 125 ≠ s + 126 by omega), kp (show s + 122 ≠ s + 126 by omega), kp (show s + 123 ≠ s + 126 by omega), mI_ui _ j e58]
    by_cases cj : j = i
    · rw [if_pos ⟨rfl, cj⟩, cj]
      refine ⟨kst, x40.toNat, lo, hi', ?_, hkc, by omega, ?_, ?_, by omega, by omega⟩
      · rw [stb2 (s + 125) st122.2.2, stb1 (s + 125) st122.2.2]; exact e1
      · rw [stb2 (s + 122) st122.1, stb1 (s + 122) st122.1]; exact e2
      · rw [stb2 (s + 123) st122.2.1, stb1 (s + 123) st122.2.1]; exact e3
    · rw [if_neg (fun u => cj u.2)]
      exact w4 j hj
theorem s_So_improve {pl : Int} (hpl : i32 pl) (h0 : Sva L W s g a R k cn cc bc M) (hcn : cn ≤ k) (hk : k ≤ 512) (hL : LHs M s cn cc) (hU : Unk M s cn un) (hr : Rsm M R cn 17 ∧ Rt1 M R cn) (hW : ∀ x, Tpk (s + 1) x → B ≤ W x) (b1 : 300 ≤ B) (hB : B ≤ 16000) : Ci G y_So_improve (d + 7) [vr s, vi pl, vr a] M (fun x M' => (x = 0 ∨ x = 1) ∧ imI L W s g a R k cn cc bc un M M') := by
  have hF := h0.2.1.1
  refine k_So_improve h0.1.1 hpl ?_
  exact s_im5 hpl h0 hcn hk hL hr hW b1 hB hU.2.1 un 0 0 M (by omega) (by omega) (Or.inl rfl) (im_mk h0 hcn hr (NX.refl h0.1.1 hF h0.2.1.2.1.tpk (fun x u => h0.cl (n := cn) hcn x u.so) h0.z9) h0.2.1.2.1 hU)
end NBU
end
section
/-! The class's Solver: ranks. -/
section NBV
variable {G : mG} {d s g a R cn cc bc i k n c un x y fd : Nat} {M M0 M' M1 M2 M3 : mM} {L : List Nat} {W : Nat → Nat}
theorem s_So_leadsBelow {rd : Int} (hrd : i32 rd) (h : SG M s g cn cc bc) (hf : mK M fd = 30 ∧ mN M fd = 512) (hc : c < cc) : Ci G y_So_leadsBelow d [vr s, vi c, vi rd, vr fd] M (fun x M' => M' = M ∧ (x = 0 ∨ x = 1)) := by
  obtain ⟨o, ⟨⟨s0, -⟩, ⟨-, -, -, r3, -⟩, -⟩, ⟨g0, ⟨-, -, -, q7, q8, -⟩, gk, ⟨-, -, -, m7, m8, -⟩⟩, -, hT⟩ := id h
  obtain ⟨hc1, hc2, hc3⟩ := hT.1
  obtain ⟨x, y, mu, e1, e2, ⟨xy, -⟩, yb, br, -⟩ := hT.2.1 c hc
  refine k_So_leadsBelow o ⟨by omega, by omega⟩ hrd ?_
  rw [r3, q7, m7, Int.toNat_natCast, e1]
  refine ⟨s0, g0, gk 7 (by decide) (by decide), ⟨by omega, by omega⟩, ?_⟩
  suffices HH : ∀ (t i : Nat), y ≤ i + t → x ≤ i → i ≤ y → h_So_leadsBelow_11 G d s c rd fd i M (fun x M' => M' = M ∧ (x = 0 ∨ x = 1)) from HH (y - x) x (by omega) (Nat.le_refl _) (by omega)
  intro t
  induction t with
  | zero =>
    intro i h1 h2 h3
    refine k_So_leadsBelow_11 o ⟨by omega, by omega⟩ hrd ⟨by omega, by omega⟩ ?_
    rw [r3, q7, m7, show Int.toNat ((c : Int) + 1) = c + 1 by first | rfl | omega, e2]
    exact ⟨s0, g0, gk 7 (by decide) (by decide), ⟨by omega, by omega⟩, fun _ => ⟨rfl, Or.inl rfl⟩, fun u => absurd (by omega) u⟩
  | succ t ih =>
    intro i h1 h2 h3
    refine k_So_leadsBelow_11 o ⟨by omega, by omega⟩ hrd ⟨by omega, by omega⟩ ?_
    rw [r3, q7, m7, show Int.toNat ((c : Int) + 1) = c + 1 by first | rfl | omega, e2]
    refine ⟨s0, g0, gk 7 (by decide) (by decide), ⟨by omega, by omega⟩, fun _ => ⟨rfl, Or.inl rfl⟩, fun u => ?_⟩
    obtain ⟨b1, b2, b3⟩ := br i h2 (by omega)
    rw [q8, m8, hf.2, Int.toNat_natCast, show ((i : Int) + 1) = ((i + 1 : Nat) : Int) by first | rfl | omega]
    exact ⟨gk 8 (by decide) (by decide), ⟨by omega, by omega⟩, hf.1, ⟨by omega, by omega⟩, fun _ => ih (i + 1) (by omega) (by omega) (by omega), fun _ => ⟨rfl, Or.inr rfl⟩⟩
theorem s_So_earns {rd : Int} (hrd : i32 rd) (h : SG M s g cn cc bc) (hf : mK M fd = 30 ∧ mN M fd = 512) (hk : k < cn) : Ci G y_So_earns (d + 1) [vr s, vi k, vi rd, vr fd] M (fun x M' => M' = M ∧ (x = 0 ∨ x = 1)) := by
  obtain ⟨o, ⟨⟨s0, -⟩, ⟨-, -, -, r3, -, -, -, -, -, -, r11, -⟩, ⟨-, -, -, -, -, -, -, k11, -⟩, ⟨-, -, -, -, -, -, -, n11, -⟩⟩, ⟨g0, ⟨q2, q4, -⟩, gk, ⟨m2, m4, -⟩⟩, -, hT⟩ := id h
  obtain ⟨hc1, hc2, hc3⟩ := hT.1
  obtain ⟨x, y, e1, e2, xy, yc⟩ := hT.2.2.1 k hk
  refine k_So_earns o ⟨by omega, by omega⟩ hrd ?_
  rw [r3, q2, m2, q4, m4, Int.toNat_natCast, e1]
  refine ⟨s0, g0, gk 2 (by decide) (by decide), ⟨by omega, by omega⟩, fun v6 e6 => ⟨gk 4 (by decide) (by decide), ⟨by omega, by omega⟩, ?_⟩⟩
  have v01 : v6 = 0 ∨ v6 = 1 := by rw [e6]; split <;> omega
  suffices HH : ∀ (t c : Nat), y ≤ c + t → x ≤ c → c ≤ y → h_So_earns_31 G d s k rd fd v6 c M (fun x M' => M' = M ∧ (x = 0 ∨ x = 1)) from HH (y - x) x (by omega) (Nat.le_refl _) (by omega)
  have fin : ∀ v27 : Int, v27 = (if (v6 = 0) then 1 else 0) → M = M ∧ (v27 = 0 ∨ v27 = 1) := fun v27 e => ⟨rfl, by rw [e]; split <;> omega⟩
  intro t
  induction t with
  | zero =>
    intro c h1 h2 h3
    refine k_So_earns_31 o ⟨by omega, by omega⟩ hrd (m_b32 v01) ⟨by omega, by omega⟩ ?_
    rw [r3, q4, m4, show Int.toNat ((k : Int) + 1) = k + 1 by first | rfl | omega, e2]
    exact ⟨s0, g0, gk 4 (by decide) (by decide), ⟨by omega, by omega⟩, fun _ => fin, fun u => absurd (by omega) u⟩
  | succ t ih =>
    intro c h1 h2 h3
    refine k_So_earns_31 o ⟨by omega, by omega⟩ hrd (m_b32 v01) ⟨by omega, by omega⟩ ?_
    rw [r3, q4, m4, show Int.toNat ((k : Int) + 1) = k + 1 by first | rfl | omega, e2]
    refine ⟨s0, g0, gk 4 (by decide) (by decide), ⟨by omega, by omega⟩, fun _ => fin, fun u => ?_⟩
    rw [r11, n11, Int.toNat_natCast, show ((c : Int) + 1) = ((c + 1 : Nat) : Int) by first | rfl | omega]
    refine ⟨k11, ⟨by omega, by omega⟩, fun _ => ih (c + 1) (by omega) (by omega) (by omega), fun _ => (s_So_leadsBelow (d := d) hrd h hf (show c < cc by omega)).mono (fun x38 M37 q => ?_)⟩
    rw [q.1]
    exact ⟨m_b32 q.2, o, fun _ => ⟨v01, rfl, v01⟩, fun _ => ih (c + 1) (by omega) (by omega) (by omega)⟩
/-- ranks are filled in -/
def frI (L : List Nat) (W : Nat → Nat) (s g a R k cn cc bc fd : Nat) (M0 M : mM) : Prop := mOk M ∧ FI (fun z => z = fd) M0 M ∧ Sva L W s g a R k cn cc bc M
theorem fr_mk (h : Sva L W s g a R k cn cc bc M0) (hcn : cn ≤ k) (hfd : Stb s fd ∧ fd ≠ s) (o : mOk M) (f : FI (fun z => z = fd) M0 M) : frI L W s g a R k cn cc bc fd M0 M := by
  have hF := h.2.1.1
  obtain ⟨x, -⟩ := f.nx (T := Tso s M0 R cn) (r := False) (z := s + 1) o hF (h.tl hcn) (fun x u => by rw [u]; exact h.2.2.1 fd hfd.1) h.z9
  have x' : NX L W (Tso s M0 R cn) (Cso s M0 R cn) False (s + 1) M0 M := x.mono hF (fun _ u => u) (h.tl hcn) (fun x u => Or.inr (Or.inl (by rw [u]; exact hfd.1))) (h.cl hcn) (fun u => u)
  exact ⟨o, f, (h.nx hcn x' (x.sk hF h.2.1.2.1)).1⟩
theorem s_So_fillRanks (h : Sva L W s g a R k cn cc bc M) (hcn : cn ≤ k) (hk : k ≤ 512) (hfd : fd = s + 29 ∨ fd = s + 129) : Cv G y_So_fillRanks (d + 3) [vr s, vr a, vr fd] M (frI L W s g a R k cn cc bc fd M) := by
  have hSt : Stb s fd ∧ fd ≠ s := by
    unfold Stb
    omega
  have kf : ∀ {M1 : mM}, Sva L W s g a R k cn cc bc M1 → mK M1 fd = 30 ∧ mN M1 fd = 512 := fun h => by
    obtain ⟨⟨-, ⟨-, -, ⟨k1, -, -, -, -, -, -, -, k12⟩, ⟨n1, -, -, -, -, -, -, -, n12⟩⟩, -⟩, -⟩ := h
    rcases hfd with e | e <;> rw [e]
    · exact ⟨k1, n1⟩
    · exact ⟨k12, n12⟩
  have st : ∀ {M1 : mM} {j : Nat} {v : Int}, frI L W s g a R k cn cc bc fd M M1 → i32 v → ∀ M2, M2 = mUI M1 fd j v → frI L W s g a R k cn cc bc fd M M2 := fun hI hv M2 e => fr_mk h hcn hSt (by rw [e]; exact mOk_UI hI.1 hv) (hI.2.1.trans (by rw [e]; exact FI.ui rfl))
  refine k_So_fillRanks h.1.1 ?_
  -- the rounds
  have R45 : ∀ (t rn : Nat) (l3 : Int) (M1 : mM), 513 ≤ rn + t → 1 ≤ rn → rn ≤ 513 → (l3 = 0 ∨ l3 = 1) → frI L W s g a R k cn cc bc fd M M1 → h_So_fillRanks_45 G (d + 2) s a fd l3 rn M1 (frI L W s g a R k cn cc bc fd M) := by
    intro t
    induction t with
    | zero =>
      intro rn l3 M1 h1 h2 h3 hl hI
      exact k_So_fillRanks_45 hI.1 (m_b32 hl) ⟨by omega, by omega⟩ ⟨fun _ => hI, fun u => absurd (Or.inl (by omega)) u⟩
    | succ t ih =>
      intro rn l3 M1 h1 h2 h3 hl hI
      refine k_So_fillRanks_45 hI.1 (m_b32 hl) ⟨by omega, by omega⟩ ⟨fun _ => hI, fun u => ?_⟩
      have rl : rn ≤ 512 := by
        by_cases c : (512 : Int) < rn
        · exact absurd (Or.inl c) u
        · omega
      suffices HH : ∀ (t j : Nat) (l3 : Int) (M1 : mM), cn ≤ j + t → j ≤ cn → (l3 = 0 ∨ l3 = 1) → frI L W s g a R k cn cc bc fd M M1 → h_So_fillRanks_62 G (d + 2) s a fd l3 rn j M1 (frI L W s g a R k cn cc bc fd M) from HH cn 0 0 M1 (by omega) (by omega) (Or.inl rfl) hI
      intro t2
      induction t2 with
      | zero =>
        intro j l3 M1 h1' h2' hl' hI'
        obtain ⟨-, -, ⟨⟨o, ⟨⟨s0, -⟩, ⟨-, -, -, r3, -⟩, -⟩, ⟨g0, -⟩, -, hT⟩, -⟩⟩ := id hI'
        have hc1 := hT.1.1
        refine k_So_fillRanks_62 o (m_b32 hl') ⟨by omega, by omega⟩ ⟨by omega, by omega⟩ ?_
        rw [r3, hT.2.2.2, show ((rn : Int) + 1) = ((rn + 1 : Nat) : Int) by first | rfl | omega]
        exact ⟨s0, g0, fun _ => ih (rn + 1) l3 M1 (by omega) (by omega) (by omega) hl' hI', fun u => absurd (by omega) u⟩
      | succ t2 ih2 =>
        intro j l3 M1 h1' h2' hl' hI'
        by_cases ej : j = cn
        · exact ih2 j l3 M1 (by omega) h2' hl' hI'
        have hS1 := hI'.2.2
        obtain ⟨⟨o, ⟨⟨s0, -⟩, ⟨-, -, -, r3, -⟩, -⟩, ⟨g0, -⟩, -, hT⟩, ⟨hF, -⟩, -, -, ⟨t1, t2', t3, t4, -, t7⟩, -, -⟩ := id hS1
        have hc1 := hT.1.1
        obtain ⟨kd, nd⟩ := kf hS1
        have fr := t7 j (by omega)
        refine k_So_fillRanks_62 o (m_b32 hl') ⟨by omega, by omega⟩ ⟨by omega, by omega⟩ ?_
        rw [r3, hT.2.2.2, kd, nd, t2', t4, Int.toNat_natCast, fr.1.2.1.1, show ((j : Int) + 1) = ((j + 1 : Nat) : Int) by first | rfl | omega]
        refine ⟨s0, g0, fun u => absurd u (by omega), fun _ => ⟨rfl, ⟨by omega, by omega⟩, fun _ => ⟨t1, t3, ⟨by omega, by omega⟩, fr.1.1, hF.kd fr.2.1⟩, fun _ => ih2 (j + 1) l3 M1 (by omega) (by omega) hl' hI', fun _ => (s_So_earns (d := d + 1) (rd := ((rn : Nat) : Int)) ⟨by omega, by omega⟩ hS1.1 ⟨kd, nd⟩ (show j < cn by omega)).mono (fun x59 M58 q => ?_)⟩⟩
        rw [q.1, kd, nd]
        refine ⟨m_b32 q.2, o, fun _ => ⟨rfl, ⟨by omega, by omega⟩⟩, fun v64 e64 M65 e65 => ?_⟩
        by_cases cx : x59 = 0
        · rw [if_pos cx] at e64 e65
          rw [e64, e65]
          exact ⟨o, ih2 (j + 1) l3 M1 (by omega) (by omega) hl' hI'⟩
        · rw [if_neg cx] at e64 e65
          have I2 := st hI' (show i32 ((rn : Nat) : Int) from ⟨by omega, by omega⟩) M65 e65
          rw [e64]
          exact ⟨I2.1, ih2 (j + 1) 1 M65 (by omega) (by omega) (Or.inr rfl) I2⟩
  suffices HH : ∀ (t j : Nat) (M1 : mM), cn ≤ j + t → j ≤ cn → frI L W s g a R k cn cc bc fd M M1 → h_So_fillRanks_2 G (d + 2) s a fd j M1 (frI L W s g a R k cn cc bc fd M) from HH cn 0 M (by omega) (by omega) ⟨h.1.1, FI.refl, h⟩
  intro t
  induction t with
  | zero =>
    intro j M1 h1 h2 hI
    obtain ⟨-, -, ⟨⟨o, ⟨⟨s0, -⟩, ⟨-, -, -, r3, -⟩, -⟩, ⟨g0, -⟩, -, hT⟩, -⟩⟩ := id hI
    have hc1 := hT.1.1
    refine k_So_fillRanks_2 o ⟨by omega, by omega⟩ ?_
    rw [r3, hT.2.2.2]
    exact ⟨s0, g0, fun _ => R45 512 1 1 M1 (by omega) (by omega) (by omega) (Or.inr rfl) hI, fun u => absurd (by omega) u⟩
  | succ t ih =>
    intro j M1 h1 h2 hI
    obtain ⟨-, -, ⟨⟨o, ⟨⟨s0, -⟩, ⟨-, -, -, r3, -⟩, -⟩, ⟨g0, ⟨q2, -⟩, gk, ⟨m2, -⟩⟩, -, hT⟩, -⟩⟩ := id hI
    have hc1 := hT.1.1
    obtain ⟨kd, nd⟩ := kf hI.2.2
    refine k_So_fillRanks_2 o ⟨by omega, by omega⟩ ?_
    rw [r3, hT.2.2.2, q2, m2, kd, nd, Int.toNat_natCast, show ((j : Int) + 1) = ((j + 1 : Nat) : Int) by first | rfl | omega]
    refine ⟨s0, g0, fun _ => R45 512 1 1 M1 (by omega) (by omega) (by omega) (Or.inr rfl) hI, fun u => ⟨gk 2 (by decide) (by decide), ⟨by omega, by omega⟩, fun v10 e10 => ⟨rfl, ⟨by omega, by omega⟩, fun M16 e16 => ?_⟩⟩⟩
    have vi' : i32 v10 := by rw [e10]; split <;> exact ⟨by decide, by decide⟩
    exact ih (j + 1) M16 (by omega) (by omega) (st hI vi' M16 e16)
end NBV
end
section
/-! The class's Solver: commands that attain. -/
section NBW
variable {G : mG} {d s g a R cn cc bc i k n c un x y fd B : Nat} {M M0 M' M1 M2 M3 : mM} {L : List Nat} {W : Nat → Nat}
theorem and01 {x y : Int} (hx : x = 0 ∨ x = 1) (hy : y = 0 ∨ y = 1) : andI x y = 0 ∨ andI x y = 1 := by
  rcases hx with e | e <;> rcases hy with e' | e' <;> rw [e, e'] <;> decide
theorem or01 {x y : Int} (hx : x = 0 ∨ x = 1) (hy : y = 0 ∨ y = 1) : orI x y = 0 ∨ orI x y = 1 := by
  rcases hx with e | e <;> rcases hy with e' | e' <;> rw [e, e'] <;> decide
def Tat (s x : Nat) : Prop := Tpk (s + 1) x ∨ T2 (s + 130) x
def Cat (s x : Nat) : Prop := x = s + 130 ∨ x = s + 128
theorem Cat.so {R' : Nat} (h : Cat s x) : Cso s M R' n x := h.elim (fun u => Or.inr (Or.inr (Or.inr (Or.inr (Or.inl u))))) (fun u => Or.inr (Or.inl (Or.inr (Or.inr (Or.inr (Or.inr (Or.inr (Or.inr (Or.inr (Or.inr (Or.inl u)))))))))))
/-- while commands are marked -/
def atI (L : List Nat) (W : Nat → Nat) (s g a R k cn cc bc : Nat) (M0 M : mM) : Prop := NX L W (Tat s) (Cat s) False (s + 1) M0 M ∧ Sva L W s g a R k cn cc bc M ∧ mR M R = mR M0 R ∧ (∀ x, Stb s x → x ≠ s + 128 → mI M x = mI M0 x) ∧ (Rsm M R cn 17 ∧ Rt1 M R cn) ∧ ∀ i, i ≤ 9 → mI M (g + i) = mI M0 (g + i)
theorem at_mk (h : Sva L W s g a R k cn cc bc M0) (hcn : cn ≤ k) (hr : Rsm M0 R cn 17 ∧ Rt1 M0 R cn) (q : NX L W (Tat s) (Cat s) False (s + 1) M0 M) : atI L W s g a R k cn cc bc M0 M := by
  have hF := h.2.1.1
  have q' : NX L W (Tso s M0 R cn) (Cso s M0 R cn) False (s + 1) M0 M := q.mono hF (fun _ u => u.elim Or.inl (fun u => Or.inr (Or.inr (Or.inl u)))) (h.tl hcn) (fun x u => u.so) (h.cl hcn) (fun u => u)
  obtain ⟨e1, e2, e3⟩ := h.nx hcn q' (q.sk hF h.2.1.2.1)
  have rv : ∀ i, i < cn → nv M (mR M0 R i + 1) = nv M0 (mR M0 R i + 1) ∧ nv M (mR M0 R i + 3) = nv M0 (mR M0 R i + 3) ∧ mI M (mR M0 R i) = mI M0 (mR M0 R i) := fun i hi => by
    have f := h.2.2.2.2.1.2.2.2.2.2 i (by omega)
    have ap := h.te.2.2.2.1 i (by omega)
    have hb := h.2.2.2.2.2.1 i (by omega)
    refine ⟨(q.num hF f.2.1 (fun u => u.elim ap.1 (fun u => by unfold T2 at u; omega))).2.2, (q.num hF f.2.2 (fun u => u.elim ap.2.1 (fun u => by unfold T2 at u; omega))).2.2, (q.frl hF f).2 (fun u => ?_)⟩
    unfold Cat at u
    omega
  refine ⟨q, e1, e3, fun x hx nx => ?_, ⟨fun i hi => ?_, fun i hi => ?_⟩, e2⟩
  · have ne : x ≠ s + 1 := by unfold Stb at hx; omega
    refine (q.oth (h.2.2.1 x hx) ne).2.2.2 (fun u => ?_)
    unfold Cat at u
    unfold Stb at hx
    omega
  · rw [e3, (rv i hi).1, (rv i hi).2.1]; exact hr.1 i hi
  · rw [e3, (rv i hi).2.2]; exact hr.2 i hi
theorem Sva.we (h : Sva L W s g a R k cn cc bc M) (hcn : cn ≤ k) : We L W (s + 1) (s + 130) g a R cn M := by
  obtain ⟨⟨h1, h2, h3⟩, h4, h5, -⟩ := h.te
  refine ⟨⟨h1, h2, h3, h.2.1.2.2.2⟩, h4, h5.ws hcn, fun i hi => ?_⟩
  have := h.2.2.2.2.2.1 i (by omega)
  unfold Dwg Twg T4
  omega
theorem tw_at {z : Nat} (h : Twg (s + 1) (s + 130) z) : Tat s z := by
  rcases h with u | u | u | u | u | u
  · exact Or.inl (Or.inl u)
  · exact Or.inl (Or.inr (Or.inl (Or.inr u)))
  · exact Or.inl (Or.inr (Or.inr (Or.inl (Or.inl u))))
  · exact Or.inl (Or.inr (Or.inr (Or.inl (Or.inr u))))
  · exact Or.inr (Or.inl u)
  · exact Or.inr (Or.inr u)
theorem Sva.tat (h : Sva L W s g a R k cn cc bc M) : ∀ t, Tat s t → t ∈ L := fun t ht => ht.elim (h.2.1.2.1.tpk t) (h.2.1.2.2.2.t2 t)
theorem Sva.cat (h : Sva L W s g a R k cn cc bc M) (hcn : cn ≤ k) : ∀ x, Cat s x → Oc L M x := fun x u => h.cl (n := cn) hcn x u.so
/-- the worth against a row -/
theorem s_atOrder {Q : Int → mM → Prop} (h0 : Sva L W s g a R k cn cc bc M0) (hcn : cn ≤ k) (hr : Rsm M0 R cn 17 ∧ Rt1 M0 R cn) (hI : atI L W s g a R k cn cc bc M0 M) (hw : Osz M (s + 130) 139) (hi : i < cn) (hW : ∀ x, Tat s x → B ≤ W x) (b1 : 300 ≤ B)
    (hQ : ∀ x M', (x = -1 ∨ x = 0 ∨ x = 1) → atI L W s g a R k cn cc bc M0 M' → Q x M') : mK M s = 8 ∧ mK M (mR M s 0) = 9 ∧ Ci G y_Sc_order (d + 5) [vr (mR M s 0), vr (mR M s 17), vr (mR M0 R i)] M (fun x M' => i32 x ∧ mOk M' ∧ Q x M') := by
  obtain ⟨hN, hS, eR, st, ⟨hrs, ht1⟩, -⟩ := id hI
  obtain ⟨⟨o, ⟨⟨s0, -⟩, ⟨r0, -, -, -, -, -, -, -, -, -, -, -, r13⟩, -⟩, -⟩, ⟨hF, hSK, -, hfw⟩, -, -, ⟨-, -, -, -, -, t7⟩, hrow, -⟩ := id hS
  have fr := t7 i (by omega)
  have hb := hrow i (by omega)
  have ap := hS.te.2.2.2.1 i (by omega)
  have sm := hrs i hi
  have a1 := hF.szv fr.2.1 sm.2.2
  have a2 := hF.szv fr.2.2 sm.2.1
  have a3 := ht1 i hi
  rw [r0, r13, ← eR]
  refine ⟨s0, hSK.1.1, (f_Sc_order (d := d) (s := 139) ⟨o, hF, hSK, hfw, fr⟩ hw ⟨by omega, by omega, by omega, by omega⟩ (by unfold Tor; omega) ⟨fun u => ap.1 (Or.inr (Or.inl u)), fun u => ap.2.1 (Or.inr (Or.inl u))⟩ (by have := hW _ (Or.inl (Or.inr (Or.inl (Or.inl rfl)))); omega) (by have := hW _ (Or.inl (Or.inr (Or.inl (Or.inr rfl)))); omega)).mono (fun x M' q => ?_)⟩
  obtain ⟨n1, xx⟩ := q
  have x1 : NX L W (Tat s) (Cat s) False (s + 1) M M' := (n1.nx hF).mono hF (fun _ u => Or.inl (Or.inr (Or.inl u))) hS.tat (fun _ u => u.elim) (hS.cat hcn) (fun u => u)
  exact ⟨by rcases xx with e | e | e <;> rw [e] <;> exact ⟨by decide, by decide⟩, n1.ok, hQ x M' xx (at_mk h0 hcn hr (hN.trans x1))⟩
theorem s_at138 {v60 : Int} (h60 : v60 = 1 ∨ v60 = -1) (h0 : Sva L W s g a R k cn cc bc M0) (hcn : cn ≤ k) (hk : k ≤ 512) (hr : Rsm M0 R cn 17 ∧ Rt1 M0 R cn) (hi : i < cn) (ex : mI M0 (g + 4) i = ((x : Nat) : Int)) (ey : mI M0 (g + 4) (i + 1) = ((y : Nat) : Int)) (xy : x ≤ y ∧ y ≤ cc) (hW : ∀ x, Tat s x → B ≤ W x) (b1 : 300 ≤ B) (hB : B ≤ 16000)
    (hQ : ∀ (rt : Int) (M' : mM), (rt = 0 ∨ rt = 1) → atI L W s g a R k cn cc bc M0 M' → h_So_attain_4 G (d + 5) s a rt ((i : Int) + 1) M' (fun x M' => (x = 0 ∨ x = 1) ∧ atI L W s g a R k cn cc bc M0 M')) : ∀ (t c : Nat) (rt mt : Int) (M : mM), y ≤ c + t → x ≤ c → c ≤ y → (rt = 0 ∨ rt = 1) → (mt = 0 ∨ mt = 1) → atI L W s g a R k cn cc bc M0 M → h_So_attain_138 G (d + 5) s a rt i (mR M0 R i) mt v60 c M (fun x M' => (x = 0 ∨ x = 1) ∧ atI L W s g a R k cn cc bc M0 M') := by
  have i60 : i32 v60 := by rcases h60 with e | e <;> rw [e] <;> exact ⟨by decide, by decide⟩
  obtain ⟨hc1, hc2, hc3⟩ := h0.1.2.2.2.2.1
  intro t
  induction t with
  | zero =>
    intro c rt mt M h1 h2 h3 hrt hmt hI
    obtain ⟨-, ⟨⟨o, ⟨⟨s0, -⟩, ⟨-, -, -, r3, -⟩, -⟩, ⟨g0, ⟨-, q4, -⟩, gk, ⟨-, m4, -⟩⟩, -⟩, -⟩, -, -, -, gi⟩ := id hI
    refine k_So_attain_138 o (m_b32 hrt) ⟨by omega, by omega⟩ (m_b32 hmt) i60 ⟨by omega, by omega⟩ ?_
    rw [r3, q4, m4, show Int.toNat ((i : Int) + 1) = i + 1 by first | rfl | omega, gi 4 (by decide), ey]
    exact ⟨s0, g0, gk 4 (by decide) (by decide), ⟨by omega, by omega⟩, fun _ => hQ _ M (and01 hrt hmt) hI, fun u => absurd (by omega) u⟩
  | succ t ih =>
    intro c rt mt M h1 h2 h3 hrt hmt hI
    obtain ⟨hN, hS, eR, st, ⟨hrs, ht1⟩, gi⟩ := id hI
    obtain ⟨⟨o, ⟨⟨s0, -⟩, ⟨r0, -, -, r3, -, -, -, -, -, -, -, -, r13⟩, -⟩, ⟨g0, ⟨-, q4, -⟩, gk, ⟨-, m4, -⟩⟩, -, hT⟩, ⟨hF, hSK, -, hfw⟩, -⟩ := id hS
    refine k_So_attain_138 o (m_b32 hrt) ⟨by omega, by omega⟩ (m_b32 hmt) i60 ⟨by omega, by omega⟩ ?_
    rw [r3, q4, m4, show Int.toNat ((i : Int) + 1) = i + 1 by first | rfl | omega, gi 4 (by decide), ey, r0, r13]
    refine ⟨s0, g0, gk 4 (by decide) (by decide), ⟨by omega, by omega⟩, fun _ => hQ _ M (and01 hrt hmt) hI, fun u => ⟨hSK.1.1, ?_⟩⟩
    obtain ⟨mu, hm, kw⟩ := f_weigh (G := G) (d := d) (B := B) (S := 17) (hS.we hcn) hrs (fun z hz => hW z (tw_at hz)) (by omega) hB (show c < 4096 by omega) hc1 hc3 (hT.2.1 c (by omega))
    refine kw.mono (fun M74 q => ?_)
    obtain ⟨n1, u1, u2, u3, -⟩ := q
    have x1 : NX L W (Tat s) (Cat s) False (s + 1) M M74 := (n1.nx hF).mono hF (fun _ z => tw_at z) hS.tat (fun _ z => Or.inl z) (hS.cat hcn) (fun z => z)
    have I1 := at_mk h0 hcn hr (hN.trans x1)
    have F1 := n1.nf
    have ow : Osz M74 (s + 130) 139 := ⟨F1.szv hfw.2.1 u2, F1.szv hfw.2.2 (Int.lt_of_lt_of_le u1.2 (p30m (by decide))), by rw [u3]; omega, by rw [u3]; omega⟩
    have key : ∀ (x80 : Int) (M79 : mM), (x80 = -1 ∨ x80 = 0 ∨ x80 = 1) → atI L W s g a R k cn cc bc M0 M79 → (mK M79 s = 8 ∧ ∀ v84 : Int, v84 = (if (x80 = 0) then 1 else 0) → mK M79 (mR M79 s 15) = 31 ∧ ((0 : Int) ≤ (c : Int) ∧ (c : Int) < (mN M79 (mR M79 s 15) : Int)) ∧ ∀ M91, M91 = mUI M79 (mR M79 s 15) (Int.toNat c) v84 → ∀ v94 : Int, v94 = (if (x80 = 0) then 1 else 0) → ∀ v100 : Int, v100 = (if (x80 = v60) then 0 else 1) → h_So_attain_138 G (d + 5) s a (andI rt v100) i (mR M0 R i) (orI mt v94) v60 ((c : Int) + 1) M91 (fun x M' => (x = 0 ∨ x = 1) ∧ atI L W s g a R k cn cc bc M0 M')) := by
      intro x80 M79 xx I2
      obtain ⟨hN2, hS2, -, -, -, -⟩ := id I2
      obtain ⟨⟨o2, ⟨⟨s02, -⟩, ⟨-, -, -, -, -, -, -, -, -, -, r11, -⟩, ⟨-, -, -, -, -, -, -, k11, -⟩, ⟨-, -, -, -, -, -, -, n11, -⟩⟩, -⟩, ⟨hF2, -⟩, hSt2, -⟩ := id hS2
      rw [r11, n11, Int.toNat_natCast, show ((c : Int) + 1) = ((c + 1 : Nat) : Int) by first | rfl | omega]
      refine ⟨s02, fun v84 e84 => ⟨k11, ⟨by omega, by omega⟩, fun M91 e91 v94 e94 v100 e100 => ?_⟩⟩
      have b84 : v84 = 0 ∨ v84 = 1 := by rw [e84]; split <;> omega
      have b94 : v94 = 0 ∨ v94 = 1 := by rw [e94]; split <;> omega
      have b100 : v100 = 0 ∨ v100 = 1 := by rw [e100]; split <;> omega
      have f91 : FI (fun z => z = s + 128) M79 M91 := by rw [e91]; exact FI.ui rfl
      have o91 : mOk M91 := by rw [e91]; exact mOk_UI o2 (m_b32 b84)
      obtain ⟨x3, -⟩ := f91.nx (T := Tat s) (r := False) (z := s + 1) o91 hF2 hS2.tat (fun z hz => hS2.cat hcn z (Or.inr hz)) hS2.z9
      have x3' : NX L W (Tat s) (Cat s) False (s + 1) M79 M91 := x3.mono hF2 (fun _ z => z) hS2.tat (fun _ z => Or.inr z) (hS2.cat hcn) (fun z => z)
      exact ih (c + 1) _ _ M91 (by omega) (by omega) (by omega) (and01 hrt b100) (or01 hmt b94) (at_mk h0 hcn hr (hN2.trans x3'))
    obtain ⟨w1, w2, w3⟩ := s_atOrder (G := G) (d := d) (Q := fun x80 M79 => mK M79 s = 8 ∧ ∀ v84 : Int, v84 = (if (x80 = 0) then 1 else 0) → mK M79 (mR M79 s 15) = 31 ∧ ((0 : Int) ≤ (c : Int) ∧ (c : Int) < (mN M79 (mR M79 s 15) : Int)) ∧ ∀ M91, M91 = mUI M79 (mR M79 s 15) (Int.toNat c) v84 → ∀ v94 : Int, v94 = (if (x80 = 0) then 1 else 0) → ∀ v100 : Int, v100 = (if (x80 = v60) then 0 else 1) → h_So_attain_138 G (d + 5) s a (andI rt v100) i (mR M0 R i) (orI mt v94) v60 ((c : Int) + 1) M91 (fun x M' => (x = 0 ∨ x = 1) ∧ atI L W s g a R k cn cc bc M0 M')) h0 hcn hr I1 ow hi hW b1 key
    exact ⟨n1.ok, w1, w2, w3⟩
theorem s_So_attain (h0 : Sva L W s g a R k cn cc bc M) (hcn : cn ≤ k) (hk : k ≤ 512) (hr : Rsm M R cn 17 ∧ Rt1 M R cn) (hW : ∀ x, Tat s x → B ≤ W x) (b1 : 300 ≤ B) (hB : B ≤ 16000) : Ci G y_So_attain (d + 6) [vr s, vr a] M (fun x M' => (x = 0 ∨ x = 1) ∧ atI L W s g a R k cn cc bc M M') := by
  obtain ⟨hc1, hc2, hc3⟩ := h0.1.2.2.2.2.1
  refine k_So_attain h0.1.1 ?_
  suffices HH : ∀ (t i : Nat) (rt : Int) (M1 : mM), cn ≤ i + t → i ≤ cn → (rt = 0 ∨ rt = 1) → atI L W s g a R k cn cc bc M M1 → h_So_attain_4 G (d + 5) s a rt i M1 (fun x M' => (x = 0 ∨ x = 1) ∧ atI L W s g a R k cn cc bc M M') from
    HH cn 0 1 M (by omega) (by omega) (Or.inr rfl) (at_mk h0 hcn hr (NX.refl h0.1.1 h0.2.1.1 h0.tat (h0.cat hcn) h0.z9))
  intro t
  induction t with
  | zero =>
    intro i rt M1 h1 h2 hrt hI
    obtain ⟨-, ⟨⟨o, ⟨⟨s0, -⟩, ⟨-, -, -, r3, -⟩, -⟩, ⟨g0, -⟩, -, hT⟩, -⟩, -⟩ := id hI
    refine k_So_attain_4 o (m_b32 hrt) ⟨by omega, by omega⟩ ?_
    rw [r3, hT.2.2.2]
    exact ⟨s0, g0, fun _ => ⟨hrt, hrt, hI⟩, fun u => absurd (by omega) u⟩
  | succ t ih =>
    intro i rt M1 h1 h2 hrt hI
    by_cases ei : i = cn
    · exact ih i rt M1 (by omega) h2 hrt hI
    have hi : i < cn := by omega
    obtain ⟨hN, hS, eR, st, ⟨hrs, ht1⟩, gi⟩ := id hI
    obtain ⟨⟨o, ⟨⟨s0, -⟩, ⟨r0, -, -, r3, -, -, -, -, -, -, -, -, r13⟩, -⟩, ⟨g0, ⟨q2, q4, -⟩, gk, ⟨m2, m4, -⟩⟩, -, hT⟩, ⟨hF, hSK, -, hfw⟩, -, -, ⟨t1, t2, t3, t4, -, t7⟩, -, -⟩ := id hS
    obtain ⟨x, y, x1, y1, xy, yc⟩ := hT.2.2.1 i hi
    have x1' : mI M (g + 4) i = ((x : Nat) : Int) := by rw [← gi 4 (by decide)]; exact x1
    have y1' : mI M (g + 4) (i + 1) = ((y : Nat) : Int) := by rw [← gi 4 (by decide)]; exact y1
    have nxt : ∀ (rt : Int) (M' : mM), (rt = 0 ∨ rt = 1) → atI L W s g a R k cn cc bc M M' → h_So_attain_4 G (d + 5) s a rt ((i : Int) + 1) M' (fun x M' => (x = 0 ∨ x = 1) ∧ atI L W s g a R k cn cc bc M M') := fun rt' M' hrt' hI' => by
      rw [show ((i : Int) + 1) = ((i + 1 : Nat) : Int) by first | rfl | omega]
      exact ih (i + 1) rt' M' (by omega) (by omega) hrt' hI'
    have s107 : ∀ (rt mt : Int) (M2 : mM), (rt = 0 ∨ rt = 1) → (mt = 0 ∨ mt = 1) → atI L W s g a R k cn cc bc M M2 → h_So_attain_107 G (d + 5) s a rt i (mR M R i) mt M2 (fun x M' => (x = 0 ∨ x = 1) ∧ atI L W s g a R k cn cc bc M M') := fun rt mt M2 hrt' hmt' hI' => by
      obtain ⟨-, ⟨⟨o', ⟨⟨s0', -⟩, ⟨-, -, -, r3', -⟩, -⟩, ⟨g0', ⟨q2', q4', -⟩, gk', ⟨m2', m4', -⟩⟩, -, -⟩, -⟩, -, -, -, gi'⟩ := id hI'
      refine k_So_attain_107 o' (m_b32 hrt') ⟨by omega, by omega⟩ (m_b32 hmt') ?_
      rw [r3', q2', m2', q4', m4', Int.toNat_natCast, gi' 4 (by decide), x1']
      refine ⟨s0', g0', gk' 2 (by decide) (by decide), ⟨by omega, by omega⟩, fun v60 e60 => ⟨gk' 4 (by decide) (by decide), ⟨by omega, by omega⟩, ?_⟩⟩
      have h60 : v60 = 1 ∨ v60 = -1 := by rw [e60]; split <;> omega
      exact s_at138 (d := d) h60 h0 hcn hk hr hi x1' y1' ⟨xy, yc.1⟩ hW b1 hB nxt (y - x) x rt mt M2 (by omega) (Nat.le_refl _) (by omega) hrt' hmt' hI'
    refine k_So_attain_4 o (m_b32 hrt) ⟨by omega, by omega⟩ ?_
    rw [r3, hT.2.2.2, t2, t4, q4, m4, q2, m2, r13, Int.toNat_natCast, show Int.toNat ((i : Int) + 1) = i + 1 by first | rfl | omega, eR]
    refine ⟨s0, g0, fun u => absurd u (by omega), fun _ => ⟨t1, t3, ⟨by omega, by omega⟩, gk 4 (by decide) (by decide), ⟨by omega, by omega⟩, ⟨by omega, by omega⟩, fun v20 e20 => ?_⟩⟩
    have b20 : v20 = 0 ∨ v20 = 1 := by rw [e20]; split <;> omega
    refine ⟨fun _ => s107 rt v20 M1 hrt b20 hI, fun _ => ⟨gk 2 (by decide) (by decide), ⟨by omega, by omega⟩, fun v32 e32 => ⟨hfw.1.1, ?_⟩⟩⟩
    have b32 : 0 ≤ v32 ∧ v32 < 1073741824 := by rw [e32]; split <;> omega
    refine (f_Fr_put0 (d := d + 4) b32 o hF hfw hSK.z9).mono (fun M38 q => ?_)
    obtain ⟨n1, p1, p3, p2⟩ := q
    have x38 : NX L W (Tat s) (Cat s) False (s + 1) M1 M38 := (n1.nx hF).mono hF (fun _ z => Or.inr z) hS.tat (fun _ z => Or.inl z) (hS.cat hcn) (fun z => z)
    have I1 := at_mk h0 hcn hr (hN.trans x38)
    have F1 := n1.nf
    have ow : Osz M38 (s + 130) 139 := ⟨F1.szv hfw.2.1 (by rw [p1]; exact Int.lt_of_lt_of_le b32.2 (by rw [show (1073741824 : Int) = 2 ^ (30 * 1) by decide]; exact p30m (by decide))), F1.szv hfw.2.2 (by rw [p3]; exact Int.lt_of_lt_of_le (show (1 : Int) < 2 ^ (30 * 1) by decide) (p30m (by decide))), by rw [p2]; decide, by rw [p2]; decide⟩
    obtain ⟨w1, w2, w3⟩ := s_atOrder (G := G) (d := d) (Q := fun x44 M43 => ∀ v47 : Int, v47 = (if (x44 = 0) then 1 else 0) → h_So_attain_107 G (d + 5) s a (andI rt v47) i (mR M R i) v20 M43 (fun x M' => (x = 0 ∨ x = 1) ∧ atI L W s g a R k cn cc bc M M')) h0 hcn hr I1 ow hi hW b1 (fun x44 M43 xx I2 v47 e47 => s107 _ _ M43 (and01 hrt (by rw [e47]; split <;> omega)) b20 I2)
    exact ⟨n1.ok, w1, w2, w3⟩
end NBW
end
