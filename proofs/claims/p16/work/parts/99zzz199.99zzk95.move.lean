/-! The Scales: one more move for all states. -/
section NBH
variable {G : mG} {d a b z n m w S B u g R R' Rb kb cn cnt cc bc f f' F s i k k' K x : Nat} {M M0 M' M1 M2 M3 : mM} {L L' L1 : List Nat} {W : Nat → Nat} {T I : Nat → Prop} {r : Prop}
/-- a game of cn states, cc commands -/
def GTT (M : mM) (g cn cc bc : Nat) : Prop := (cn ≤ 512 ∧ cc ≤ bc ∧ bc ≤ 4096) ∧ (∀ c, c < cc → cmdG M g cn bc c) ∧ (∀ j, j < cn → ∃ x y : Nat, mI M (g + 4) j = ((x : Nat) : Int) ∧ mI M (g + 4) (j + 1) = ((y : Nat) : Int) ∧ x ≤ y ∧ y ≤ cc ∧ y ≤ x + 60) ∧ mI M g 0 = ((cn : Nat) : Int)
theorem GTT.same (h : GTT M g cn cc bc) (e : ∀ i, i ≤ 9 → mI M' (g + i) = mI M (g + i)) : GTT M' g cn cc bc := by
  have e0 := e 0 (by decide)
  rw [Nat.add_zero] at e0
  exact ⟨h.1, fun c hc => (h.2.1 c hc).same e, fun j hj => by rw [e 4 (by decide)]; exact h.2.2.1 j hj, by rw [e0]; exact h.2.2.2⟩
/-- small rows, none above 1, all without a small factor -/
def Rok (M : mM) (R n : Nat) : Prop := Rsm M R n 16 ∧ Rle M R n ∧ ∀ i, i < n → mI M (mR M R i) 2 = 1
theorem Rok.cg (h : Rok M R n) (eR : mR M' R = mR M R) (e : ∀ i, i < n → nv M' (mR M R i + 1) = nv M (mR M R i + 1) ∧ nv M' (mR M R i + 3) = nv M (mR M R i + 3) ∧ mI M' (mR M R i) = mI M (mR M R i)) : Rok M' R n := by
  obtain ⟨h1, h2, h3⟩ := h
  refine ⟨fun i hi => ?_, fun i hi => ?_, fun i hi => ?_⟩
  · rw [eR, (e i hi).1, (e i hi).2.1]; exact h1 i hi
  · rw [eR, (e i hi).1, (e i hi).2.1]; exact h2 i hi
  · rw [eR, (e i hi).2.2]; exact h3 i hi
def Tmv (z : Nat) (M : mM) (R n x : Nat) : Prop := Tpk z x ∨ Trw M R n x
def Imv (z : Nat) (M : mM) (R n x : Nat) : Prop := Ipk z x ∨ Irw M R n x
/-- the move on its way -/
def MvI (L : List Nat) (W : Nat → Nat) (z g a R k b Rb kb cn cc bc : Nat) (M0 : mM) (i : Nat) (M : mM) : Prop := NL L W (Tmv z M0 R cn) (Imv z M0 R cn) True z M0 M ∧ Te L W z g a R k M ∧ Te L W z g b Rb kb M ∧ (mR M R = mR M0 R ∧ mR M Rb = mR M0 Rb) ∧ GTT M g cn cc bc ∧ Rok M Rb cn ∧ Rok M R i
/-- rows of the two tables lie apart -/
def Rsp (M : mM) (R k Rb kb : Nat) : Prop := ∀ i j, i < k → j < kb → Frd (mR M R i) (mR M Rb j)
theorem Rap.pk (h : Rap z f) : ¬ Tpk z (f + 1) ∧ ¬ Tpk z (f + 3) ∧ ¬ Ipk z f := ⟨h.1, h.2.1, fun e => e.elim h.2.2.1 h.2.2.2⟩
theorem Rap.fd (h : Rap z f) (hw : Ipk z w) : Frd f w := by
  obtain ⟨h1, h2, h3, h4⟩ := h
  unfold Tpk T2 at h1 h2
  unfold Frd
  rcases hw with e | e <;> rw [e] <;> omega
/-- a row is written -/
theorem mv_row (h : MvI L W z g a R k b Rb kb cn cc bc M0 i M) (hi : i < cn) (hcn : cn ≤ k) (hcb : cn ≤ kb) (hsp : Rsp M0 R k Rb kb) (q : NL L W (T2 (mR M R i)) (fun x => x = mR M R i) False z M M') (v3 : nv M' (mR M R i + 3) < 2 ^ (30 * 16)) (v1 : nv M' (mR M R i + 1) ≤ nv M' (mR M R i + 3) ∧ 0 < nv M' (mR M R i + 3)) (t2 : mI M' (mR M R i) 2 = 1) : MvI L W z g a R k b Rb kb cn cc bc M0 (i + 1) M' := by
  obtain ⟨hN, hA, hB, ⟨eR, eRb⟩, hG, hb, ha⟩ := h
  obtain ⟨p1, p2, p3, p4⟩ := hA.row hi hcn q
  have p1' : NL L W (Tmv z M0 R cn) (Imv z M0 R cn) True z M M' := p1.mono hA.1.2.1 (fun t ⟨j, hj, ht⟩ => Or.inr ⟨j, hj, by rw [← eR]; exact ht⟩) hN.2.1.1 (fun x ⟨j, hj, hx⟩ => Or.inr ⟨j, hj, by rw [← eR]; exact hx⟩) (fun x hx => by
    have := hN.2.1.2.1 x hx
    exact ⟨Nat.lt_of_lt_of_le this.1 hN.2.2.1.1.1, by rw [hN.kind this.1]; exact this.2⟩) (fun e => e.elim)
  obtain ⟨b1, b2, b3⟩ := hB.nl p1 p2.1.2.2 (fun x e => (hA.irw hcn x e).2)
  refine ⟨hN.trans p1', p2, b1, ⟨by rw [p4, eR], by rw [b3, eRb]⟩, hG.same p3, hb.cg b3 (fun j hj => ?_), ⟨fun j hj => ?_, fun j hj => ?_, fun j hj => ?_⟩⟩
  · have d : Frd (mR M Rb j) (mR M R i) := by rw [eR, eRb]; exact (hsp i j (by omega) (by omega)).sym
    have f := hB.2.2.1.2.2.2.2.2 j (by omega)
    exact ⟨(q.num hB.1.2.1 f.2.1 d.t2.1).2.2, (q.num hB.1.2.1 f.2.2 d.t2.2).2.2, (q.frp hB.1.2.1 f.1).2 d.1⟩
  · rw [p4]
    by_cases c : j = i
    · rw [c]; exact ⟨Int.le_of_lt v1.2, v3, Int.lt_of_le_of_lt v1.1 v3⟩
    · obtain ⟨k1, k2, k3⟩ := hA.keep (j := j) (by omega) (by omega) c q
      rw [k1, k2]; exact ha.1 j (by omega)
  · rw [p4]
    by_cases c : j = i
    · rw [c]; exact v1
    · obtain ⟨k1, k2, k3⟩ := hA.keep (j := j) (by omega) (by omega) c q
      rw [k1, k2]; exact ha.2.1 j (by omega)
  · rw [p4]
    by_cases c : j = i
    · rw [c]; exact t2
    · obtain ⟨k1, k2, k3⟩ := hA.keep (j := j) (by omega) (by omega) c q
      rw [k3]; exact ha.2.2 j (by omega)
/-- a step of the Scales alone -/
theorem mv_pk (h : MvI L W z g a R k b Rb kb cn cc bc M0 i M) (hic : i ≤ cn) (hcn : cn ≤ k) (hcb : cn ≤ kb) (q : NL L W (Tpk z) (Ipk z) True z M M') (sk : SK L M' z) : MvI L W z g a R k b Rb kb cn cc bc M0 i M' := by
  obtain ⟨hN, hA, hB, ⟨eR, eRb⟩, hG, hb, ha⟩ := h
  have q' : NL L W (Tmv z M0 R cn) (Imv z M0 R cn) True z M M' := q.mono hA.1.2.1 (fun t ht => Or.inl ht) hN.2.1.1 (fun x hx => Or.inl hx) (fun x hx => by
    have := hN.2.1.2.1 x hx
    exact ⟨Nat.lt_of_lt_of_le this.1 hN.2.2.1.1.1, by rw [hN.kind this.1]; exact this.2⟩) (fun e => e)
  obtain ⟨a1, a2, a3⟩ := hA.nl q sk (fun x e => (hA.1.2.2.ipk x e).2)
  obtain ⟨b1, b2, b3⟩ := hB.nl q sk (fun x e => (hA.1.2.2.ipk x e).2)
  have kp : ∀ {f : Nat}, FrL L M f → Rap z f → nv M' (f + 1) = nv M (f + 1) ∧ nv M' (f + 3) = nv M (f + 3) ∧ mI M' f = mI M f := fun hf hr => ⟨(q.num hA.1.2.1 hf.2.1 hr.pk.1).2.2, (q.num hA.1.2.1 hf.2.2 hr.pk.2.1).2.2, (q.frp hA.1.2.1 hf.1).2 hr.pk.2.2⟩
  exact ⟨hN.trans q', a1, b1, ⟨by rw [a3, eR], by rw [b3, eRb]⟩, hG.same a2, hb.cg b3 (fun j hj => kp (hB.2.2.1.2.2.2.2.2 j (by omega)) (hB.2.2.2.1 j (by omega))), ha.cg a3 (fun j hj => kp (hA.2.2.1.2.2.2.2.2 j (by omega)) (hA.2.2.2.1 j (by omega)))⟩
theorem tre_pk (hw : Ipk z w) {x : Nat} (hx : Tre z w x) : Tpk z x := by
  rcases hx with u | u
  · exact Or.inl u
  · rcases hw with e | e <;> rw [e] at u
    · exact Or.inr (Or.inr (Or.inr (Or.inl u)))
    · exact Or.inr (Or.inr (Or.inr (Or.inr u)))
theorem pw480 : (2 : Int) ^ 480 = 2 ^ (30 * 16) := by rw [show 30 * 16 = 480 by decide]
/-- the numbers on their way: n9 are those after the move -/
def MvX (g Rb R cn : Nat) (n9 : Nat → Rat) (M0 : mM) (i : Nat) (M : mM) : Prop := (∀ j, j ≤ 9 → mI M (g + j) = mI M0 (g + j)) ∧ (∀ j, j < cn → rwv M Rb j = rwv M0 Rb j) ∧ ∀ j, j < i → rwv M R j = n9 j
theorem mvx_row {n9 : Nat → Rat} (hx : MvX g Rb R cn n9 M0 i M) (h : MvI L W z g a R k b Rb kb cn cc bc M0 i M) (hi : i < cn) (hcn : cn ≤ k) (hcb : cn ≤ kb) (hsp : Rsp M0 R k Rb kb) (q : NL L W (T2 (mR M R i)) (fun x => x = mR M R i) False z M M') (e : rwv M' R i = n9 i) : MvX g Rb R cn n9 M0 (i + 1) M' := by
  obtain ⟨hN, hA, hB, ⟨eR, eRb⟩, hG, hb, ha⟩ := h
  obtain ⟨p1, p2, p3, p4⟩ := hA.row hi hcn q
  obtain ⟨b1, b2, b3⟩ := hB.nl p1 p2.1.2.2 (fun x e => (hA.irw hcn x e).2)
  refine ⟨fun j hj => by rw [p3 j hj, hx.1 j hj], fun j hj => ?_, fun j hj => ?_⟩
  · rw [← hx.2.1 j hj]
    have d : Frd (mR M Rb j) (mR M R i) := by rw [eR, eRb]; exact (hsp i j (by omega) (by omega)).sym
    have f := hB.2.2.1.2.2.2.2.2 j (by omega)
    exact rwv_cg b3 (q.num hB.1.2.1 f.2.1 d.t2.1).2.2 (q.num hB.1.2.1 f.2.2 d.t2.2).2.2
  · by_cases c : j = i
    · rw [c]; exact e
    · obtain ⟨k1, k2, k3⟩ := hA.keep (j := j) (by omega) (by omega) c q
      rw [← hx.2.2 j (by omega)]
      exact rwv_cg p4 k1 k2
theorem mvx_pk {n9 : Nat → Rat} (hx : MvX g Rb R cn n9 M0 i M) (h : MvI L W z g a R k b Rb kb cn cc bc M0 i M) (hic : i ≤ cn) (hcn : cn ≤ k) (hcb : cn ≤ kb) (q : NL L W (Tpk z) (Ipk z) True z M M') (sk : SK L M' z) : MvX g Rb R cn n9 M0 i M' := by
  obtain ⟨hN, hA, hB, ⟨eR, eRb⟩, hG, hb, ha⟩ := h
  obtain ⟨a1, a2, a3⟩ := hA.nl q sk (fun x e => (hA.1.2.2.ipk x e).2)
  obtain ⟨b1, b2, b3⟩ := hB.nl q sk (fun x e => (hA.1.2.2.ipk x e).2)
  have kp : ∀ {f : Nat}, FrL L M f → Rap z f → nv M' (f + 1) = nv M (f + 1) ∧ nv M' (f + 3) = nv M (f + 3) := fun hf hr => ⟨(q.num hA.1.2.1 hf.2.1 hr.pk.1).2.2, (q.num hA.1.2.1 hf.2.2 hr.pk.2.1).2.2⟩
  refine ⟨fun j hj => by rw [a2 j hj, hx.1 j hj], fun j hj => ?_, fun j hj => ?_⟩
  · rw [← hx.2.1 j hj]
    obtain ⟨k1, k2⟩ := kp (hB.2.2.1.2.2.2.2.2 j (by omega)) (hB.2.2.2.1 j (by omega))
    exact rwv_cg b3 k1 k2
  · rw [← hx.2.2 j hj]
    obtain ⟨k1, k2⟩ := kp (hA.2.2.1.2.2.2.2.2 j (by omega)) (hA.2.2.2.1 j (by omega))
    exact rwv_cg a3 k1 k2
/-- n9 are the numbers after one more move -/
def nxH (M : mM) (g Rb cn : Nat) (n9 : Nat → Rat) : Prop := ∀ j, j < cn → (mI M (g + 4) j = mI M (g + 4) (j + 1) → n9 j = rwv M Rb j) ∧ ∀ x y : Nat, mI M (g + 4) j = ((x : Nat) : Int) → mI M (g + 4) (j + 1) = ((y : Nat) : Int) → x < y → n9 j = bst9 (mI M (g + 2) j = 1) (fun i => wr9 (rwv M Rb) (cmm M g (x + i))) (y - 1 - x)
theorem nxH.same {n9 : Nat → Rat} (h : nxH M g Rb cn n9) (hG : GTT M g cn cc bc) (e : ∀ j, j ≤ 9 → mI M' (g + j) = mI M (g + j)) (ev : ∀ j, j < cn → rwv M' Rb j = rwv M Rb j) : nxH M' g Rb cn n9 := fun j hj => by
  refine ⟨fun u => by rw [ev j hj]; exact (h j hj).1 (by rw [← e 4 (by decide)]; exact u), fun x y u1 u2 u3 => ?_⟩
  rw [e 4 (by decide)] at u1 u2
  rw [(h j hj).2 x y u1 u2 u3, e 2 (by decide)]
  refine bst_cg _ (fun i hi => ?_)
  obtain ⟨x', y', g1, g2, g3, g4⟩ := hG.2.2.1 j hj
  rw [cmm_same e]
  exact wr_cg (fun b hb => (ev _ (cmm_lt (hG.2.1 (x + i) (by omega)) b hb)).symm)
/-- rows that are right fit -/
theorem Rok.fit (h : Rok M R n) (hi : i < n) (c : 0 ≤ nv M (mR M R i + 1)) : ft9 (rwv M R i) := by
  obtain ⟨a1, a2, a3⟩ := h.1 i hi
  obtain ⟨b1, b2⟩ := h.2.1 i hi
  have e := rwv_mul b2
  rw [← pw480] at a2 a3
  exact ⟨nv M (mR M R i + 1), nv M (mR M R i + 3), ⟨c, b2⟩, ⟨a3, a2⟩, e.symm⟩
/-- what a move leaves behind -/
def movQ (L : List Nat) (W : Nat → Nat) (z g a R k b Rb kb cn cc bc : Nat) (n9 : Nat → Rat) (M0 : mM) (x : Int) (M' : mM) : Prop := (x = 0 ∨ x = 1) ∧ ∃ i, i ≤ cn ∧ MvI L W z g a R k b Rb kb cn cc bc M0 i M' ∧ (x ≠ 0 → i = cn) ∧ MvX g Rb R cn n9 M0 i M' ∧ (x = 0 → i < cn ∧ ¬ ft9 (n9 i))
theorem s_mv11 {n9 : Nat → Rat} (hn : nxH M0 g Rb cn n9) (hcn : cn ≤ k) (hcb : cn ≤ kb) (hk : k ≤ 512) (hkb : kb ≤ 512) (hsp : Rsp M0 R k Rb kb) (hW : ∀ x, Tpk z x → B ≤ W x) (b1 : 300 ≤ B) (hB : B ≤ 14000) (hWr : ∀ i, i < k → 16 ≤ W (mR M0 R i + 1) ∧ 16 ≤ W (mR M0 R i + 3)) : ∀ (t i : Nat) (M : mM), cn ≤ i + t → i ≤ cn → MvI L W z g a R k b Rb kb cn cc bc M0 i M → MvX g Rb R cn n9 M0 i M → h_Sc_move_11 G (d + 7) z g b a i M (movQ L W z g a R k b Rb kb cn cc bc n9 M0) := by
  intro t
  induction t with
  | zero =>
    intro i M h1 h2 hI hX
    have ei : i = cn := by omega
    subst ei
    obtain ⟨hN, hA, hB', -, hG, -⟩ := id hI
    refine k_Sc_move_11 hN.ok ⟨by omega, by omega⟩ ?_
    rw [hG.2.2.2]
    exact ⟨hA.2.1.1.1, fun _ => ⟨Or.inr rfl, i, Nat.le_refl _, hI, fun _ => rfl, hX, fun u => absurd u (by decide)⟩, fun u => absurd (Int.le_refl _) u⟩
  | succ t ih =>
    intro i M h1 h2 hI hX
    by_cases ei : i = cn
    · exact ih i M (by omega) h2 hI hX
    have hi : i < cn := by omega
    obtain ⟨hN, hA, hBt, ⟨eR, eRb⟩, hG, hb, ha⟩ := id hI
    obtain ⟨x, y, x1, y1, xy, yc⟩ := hG.2.2.1 i hi
    obtain ⟨⟨hO, hF, hS⟩, ⟨⟨g1, ⟨r2, r4, -⟩, kk, ⟨n2, n4, -⟩⟩, -⟩, ⟨t1, t2, t3, t4, -, t6⟩, ap, -⟩ := id hA
    obtain ⟨-, -, ⟨s1, s2, s3, s4, -, s6⟩, apb, -⟩ := id hBt
    have fa := t6 i (by omega)
    have fb := s6 i (by omega)
    have wr := hWr i (by omega)
    rw [← eR] at wr
    have dab : Frd (mR M R i) (mR M Rb i) := by rw [eR, eRb]; exact hsp i i (by omega) (by omega)
    obtain ⟨hc1, hc2, hc3⟩ := hG.1
    refine k_Sc_move_11 hN.ok ⟨by omega, by omega⟩ ?_
    rw [hG.2.2.2, r4, n4, Int.toNat_natCast, show Int.toNat ((i : Int) + 1) = i + 1 by omega, x1, y1, t2, t4, s2, s4, r2, n2, show ((i : Int) + 1) = ((i + 1 : Nat) : Int) by omega]
    refine ⟨g1, fun u => absurd u (by omega), fun _ => ⟨kk 4 (by decide) (by decide), ⟨by omega, by omega⟩, ⟨by omega, by omega⟩, fun ec => ⟨t1, t3, ⟨by omega, by omega⟩, s1, s3, ⟨by omega, by omega⟩, fa.1.1, ?_⟩, fun ne => ⟨kk 2 (by decide) (by decide), ⟨by omega, by omega⟩, fun v32 e32 => ⟨hS.1.1, ?_⟩⟩⟩⟩
    · obtain ⟨sb1, sb2, sb3⟩ := hb.1 i hi
      have z1 := hF.szv fb.2.1 sb3
      have z3 := hF.szv fb.2.2 sb2
      refine (f_Fr_put1 (d := d + 5) hO hF fa fb dab.1 dab.2.1 dab.2.2 hS.z9 (by omega) (by omega)).mono (fun M26 q => ?_)
      obtain ⟨q1, q2, q3, q4⟩ := q
      have p4 := (hA.row hi hcn q1).2.2.2
      have er : rwv M26 R i = n9 i := by
        rw [(hn i hi).1 (by rw [← hX.1 4 (by decide), x1, y1, ec]), ← hX.2.1 i hi]
        unfold rwv
        rw [p4, q2, q3]
      refine ⟨q1.ok, ih (i + 1) M26 (by omega) (by omega) (mv_row hI hi hcn hcb hsp q1 (by rw [q3]; exact sb2) (by rw [q2, q3]; exact hb.2.1 i hi) (by rw [q4]; exact hb.2.2 i hi)) (mvx_row hX hI hi hcn hcb hsp q1 er)⟩
    · have v01 : i32 v32 := by rw [e32]; split <;> exact ⟨by decide, by decide⟩
      refine (f_pickX (d := d + 1) (S := 16) (B := B) v01 (hBt.pe hcb) hb.1 hW (by omega) (by omega) (show x < y by omega) (by omega) hc1 hc3 (fun c _ hc => hG.2.1 c (by omega))).mono (fun x39 M38 q => ?_)
      obtain ⟨⟨q1, q2, q3, q4, q5⟩, q6⟩ := q
      have q7 : fq9 M38 (mR M38 z 9) = n9 i := by
        rw [q6 hb.2.1, (hn i hi).2 x y (by rw [← hX.1 4 (by decide)]; exact x1) (by rw [← hX.1 4 (by decide)]; exact y1) (by omega)]
        unfold pkv
        have ep : (v32 ≠ 0) = (mI M0 (g + 2) i = 1) := propext ⟨fun w => by
          rw [← hX.1 2 (by decide)]
          refine Classical.byContradiction (fun w2 => w ?_)
          rw [e32, if_neg w2], fun w => by
          rw [← hX.1 2 (by decide)] at w
          rw [e32, if_pos w]
          decide⟩
        rw [ep]
        refine bst_cg _ (fun j hj => ?_)
        rw [cmm_same hX.1]
        have cm := hG.2.1 (x + j) (by omega)
        have cm0 : cmdG M0 g cn bc (x + j) := cm.same (fun j hj => (hX.1 j hj).symm)
        exact wr_cg (fun b hb => hX.2.1 _ (cmm_lt cm0 b hb))
      have I38 := mv_pk hI (by omega) hcn hcb q1 q2
      have X38 := mvx_pk hX hI (by omega) hcn hcb q1 q2
      obtain ⟨i9, i10, -⟩ := q2.bt
      have fw := q2.frl i9
      have F38 := q1.nf
      have z1 := F38.szv fw.2.1 q3.2.1
      have z3 := F38.szv fw.2.2 q3.1.2
      have nt4 : ¬ T4 z (mR M38 z 9 + 1) ∧ ¬ T4 z (mR M38 z 9 + 3) := by
        unfold T4
        rcases i9 with e | e <;> rw [e] <;> omega
      refine ⟨⟨by omega, by omega⟩, q1.ok, q2.1.1, (f_fits (d := d + 1) (s := 131) (t := mI M38 (mR M38 z 9) 2) ⟨q1.ok, F38, q2, fw⟩ nt4 rfl ⟨q3.2.2.1.1, by have := q3.2.2.1.2; omega⟩ (by omega) (by omega) (by decide) (fun x hx => by have := hW x (tre_pk i9 hx); omega)).mono (fun x43 M42 p => ?_)⟩
      obtain ⟨p1, p2, p3, p4, p5, p6, p7⟩ := p
      have sk42 := p1.sk F38 q2
      have p1' : NL L W (Tpk z) (Ipk z) True z M38 M42 := p1.mono F38 (fun t ht => tre_pk i9 ht) q2.tpk (fun x e => by rw [e]; exact i9) q2.ipk (fun e => e.elim)
      have I42 := mv_pk I38 (by omega) hcn hcb p1' sk42
      have X42 := mvx_pk X38 I38 (by omega) hcn hcb p1' sk42
      have V38 := (q3.2.2.2 hb.2.1).2
      have rz : mR M42 z = mR M38 z := (p1.2.2.1.2 z q2.1.2).2.2.2.1 (fun u => u.elim (fun u => (F38.nz q2.1.1 (q2.tpk z (tre_pk i9 u))).1 rfl) (fun u => u.2))
      refine ⟨m_b32 p4, p1.ok, fun e => ⟨Or.inl rfl, i, by omega, I42, fun u => absurd rfl u, X42, fun _ => ⟨hi, by rw [← q7]; exact (p7 V38).2 e⟩⟩, fun x0 => ?_⟩
      obtain ⟨-, hA2, -, ⟨eR2, -⟩, -⟩ := id I42
      obtain ⟨⟨o2, F2, S2⟩, -, ⟨u1, u2, u3, u4, -, u6⟩, ap2, -⟩ := id hA2
      have fa2 := u6 i (by omega)
      have fw2 := S2.frl i9
      have dw := (ap2 i (by omega)).fd i9
      have wr2 := hWr i (by omega)
      rw [← eR2] at wr2
      have b3 := p5 x0
      rw [pw480] at b3
      have b1' := p6 (q3.2.2.2 hb.2.1).1
      have b0' := p3 (q3.2.2.2 hb.2.1).2
      have y1 := F2.szv fw2.2.1 (Int.lt_of_le_of_lt b1' b3)
      have y3 := F2.szv fw2.2.2 b3
      rw [u2, u4, rz]
      refine ⟨u1, u3, ⟨by omega, by omega⟩, S2.1.1, fa2.1.1, (f_Fr_put1 (d := d + 5) o2 F2 fa2 fw2 dw.1 dw.2.1 dw.2.2 S2.z9 (by omega) (by omega)).mono (fun M52 q => ?_)⟩
      obtain ⟨j1, j2, j3, j4⟩ := q
      have r4 := (hA2.row hi hcn j1).2.2.2
      have er : rwv M52 R i = n9 i := by
        rw [← q7]
        unfold rwv fq9
        rw [r4, j2, j3]
        exact fv_of b0' (ic_ne (Int.mul_pos (show 0 < mI M38 (mR M38 z 9) 2 by have := q3.2.2.1.1; omega) V38)) (p7 V38).1
      exact ⟨j1.ok, ih (i + 1) M52 (by omega) (by omega) (mv_row I42 hi hcn hcb hsp j1 (by rw [j3]; exact b3) (by rw [j2, j3]; exact ⟨b1', b0'⟩) (by rw [j4]; exact p2)) (mvx_row X42 I42 hi hcn hcb hsp j1 er)⟩
/-- what a move leaves behind, growth and all -/
def moveQ (L : List Nat) (W : Nat → Nat) (z g a R k b Rb kb cn cc bc : Nat) (n9 : Nat → Rat) (M : mM) (x : Int) (M' : mM) : Prop := ∃ L' R' k' M1, Gw L W a M L' M1 ∧ Te L' W z g a R' k' M1 ∧ ((M1 = M ∧ L' = L ∧ R' = R ∧ k' = k) ∨ rvG L M R k L' M1 R' k') ∧ (cn ≤ k' ∧ k ≤ k' ∧ k' ≤ 512) ∧ (∀ i, i < k → mR M1 R' i = mR M R i) ∧ (∀ i, k ≤ i → i < k' → mR M1 R' i = mZ M + 1 + 5 * (i - k) ∧ mI M1 (mZ M + 1 + 5 * (i - k)) 2 = 1) ∧ movQ L' W z g a R' k' b Rb kb cn cc bc n9 M1 x M' ∧ ∀ j, j ≤ 9 → mI M1 (g + j) = mI M (g + j)
theorem f_move {n9 : Nat → Rat} (hn : nxH M g Rb cn n9) (hA : Te L W z g a R k M) (hB : Te L W z g b Rb kb M) (ab : b ≠ a) (hk : k ≤ 512) (hkb : kb ≤ 512) (hcb : cn ≤ kb) (hG : GTT M g cn cc bc) (hb : Rok M Rb cn) (hsp : Rsp M R k Rb kb) (hW : ∀ x, Tpk z x → B ≤ W x) (b1 : 300 ≤ B) (hB' : B ≤ 14000) (hWn : ∀ x, mZ M < x → 16 ≤ W x ∧ W x ≤ 20000) (hWr : ∀ i, i < k → 16 ≤ W (mR M R i + 1) ∧ 16 ≤ W (mR M R i + 3)) : Ci G y_Sc_move (d + 8) [vr z, vr g, vr b, vr a] M (moveQ L W z g a R k b Rb kb cn cc bc n9 M) := by
  refine k_Sc_move hA.1.1 ?_
  rw [hG.2.2.2]
  refine ⟨hA.2.1.1.1, hA.2.2.1.1, (f_Fs_reserve (d := d + 4) hA.1.1 hA.1.2.1 hA.2.2.1 hk hG.1.1 (fun x hx => by have := hWn x hx; omega)).mono (fun M3 q => ?_)⟩
  obtain ⟨L', R', k', gw, te, c, p1, p2, p3⟩ := rv_te hA q
  obtain ⟨teb, eRb⟩ := gw.te hB ab
  have k5 : k' ≤ 512 := by
    rcases p3 with ⟨-, -, -, e⟩ | ⟨-, e, -⟩ <;> omega
  have hm : ∀ {Q Q' : Int → mM → Prop}, h_Sc_move_11 G (d + 7) z g b a 0 M3 Q → (∀ x M', Q x M' → Q' x M') → h_Sc_move_11 G (d + 7) z g b a 0 M3 Q' := fun h hq => by
    unfold h_Sc_move_11 at h ⊢
    exact mWm.mono h (fun r M' k => by
      obtain ⟨x, e, t⟩ := k
      exact ⟨x, e, hq x M' t⟩)
  have sp : Rsp M3 R' k' Rb kb := fun i j hi hj => by
    rw [eRb]
    by_cases c1 : i < k
    · rw [p1 i c1]; exact hsp i j c1 hj
    · rw [(p2 i (by omega) hi).1]
      have := (hB.1.2.1.lt (hB.2.2.1.2.2.2.2.2 j hj).2.2).1
      unfold Frd
      omega
  have wr : ∀ i, i < k' → 16 ≤ W (mR M3 R' i + 1) ∧ 16 ≤ W (mR M3 R' i + 3) := fun i hi => by
    by_cases c1 : i < k
    · rw [p1 i c1]; exact hWr i c1
    · rw [(p2 i (by omega) hi).1]
      exact ⟨(hWn _ (by omega)).1, (hWn _ (by omega)).1⟩
  have rb3 : Rok M3 Rb cn := hb.cg eRb (fun i hi => by
    have f := hB.2.2.1.2.2.2.2.2 i (by omega)
    exact ⟨(gw.rf f.2.1).2.1, (gw.rf f.2.2).2.1, (gw.frl f).2⟩)
  have ev3 : ∀ j, j < cn → rwv M3 Rb j = rwv M Rb j := fun j hj => by
    have f := hB.2.2.1.2.2.2.2.2 j (by omega)
    exact rwv_cg eRb (gw.rf f.2.1).2.1 (gw.rf f.2.2).2.1
  have hn3 := hn.same hG (gw.gk hA.2.1).2 ev3
  have tL : ∀ t, Tmv z M3 R' cn t → t ∈ L' := fun t ht => ht.elim (te.1.2.2.tpk t) (te.trw c.1 t)
  have iL : ∀ x, Imv z M3 R' cn x → x < mZ M3 ∧ mK M3 x = 11 := fun x hx => hx.elim (te.1.2.2.ipk x) (te.irw c.1 x)
  refine ⟨gw.1, hm (s_mv11 (d := d) (B := B) hn3 c.1 hcb k5 hkb sp hW b1 hB' wr cn 0 M3 (by omega) (by omega) ⟨NL.refl gw.1 gw.2.1.2 tL iL te.1.2.2.z9, te, teb, ⟨rfl, rfl⟩, hG.same (gw.gk hA.2.1).2, rb3, fun i hi => absurd hi (by omega), fun i hi => absurd hi (by omega), fun i hi => absurd hi (by omega)⟩ ⟨fun _ _ => rfl, fun _ _ => rfl, fun j hj => absurd hj (by omega)⟩) (fun x M' q' => ⟨L', R', k', M3, gw, te, p3, ⟨c.1, c.2, k5⟩, p1, p2, q', (gw.gk hA.2.1).2⟩)⟩
end NBH
