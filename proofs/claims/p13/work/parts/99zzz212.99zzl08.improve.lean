/-! The class's Solver: choices are bettered. -/
section NBU
variable {G : mG} {d s g a R cn cc bc i k n c un x y mu B : Nat} {M M0 M' M1 M2 M3 : mM} {L : List Nat} {W : Nat → Nat}
def Cim (s x : Nat) : Prop := Ipk (s + 1) x ∨ x = s + 126
theorem Cim.so {R' : Nat} (h : Cim s x) : Cso s M R' n x := h.elim (fun u => Or.inl u) (fun u => Or.inr (Or.inl (Or.inr (Or.inr (Or.inr (Or.inr (Or.inr (Or.inr (Or.inr (Or.inl u))))))))))
/-- rows without small factors -/
def Rt1 (M : mM) (R n : Nat) : Prop := ∀ i, i < n → mI M (mR M R i) 2 = 1
/-- while choices are bettered -/
def imI (L : List Nat) (W : Nat → Nat) (s g a R k cn cc bc un : Nat) (M0 M : mM) : Prop := NX L W (Tpk (s + 1)) (Cim s) True (s + 1) M0 M ∧ Sva L W s g a R k cn cc bc M ∧ mR M R = mR M0 R ∧ (∀ x, Stb s x → x ≠ s + 126 → mI M x = mI M0 x) ∧ (Rsm M R cn 17 ∧ Rt1 M R cn) ∧ Unk M s cn un
theorem im_mk (h : Sva L W s g a R k cn cc bc M0) (hcn : cn ≤ k) (hr : Rsm M0 R cn 17 ∧ Rt1 M0 R cn) (q : NX L W (Tpk (s + 1)) (Cim s) True (s + 1) M0 M) (sk : SK L M (s + 1)) (hU : Unk M s cn un) : imI L W s g a R k cn cc bc un M0 M := by
  have hF := h.2.1.1
  have q' : NX L W (Tso s M0 R cn) (Cso s M0 R cn) True (s + 1) M0 M := q.mono hF (fun _ u => Or.inl u) (h.tl hcn) (fun x u => u.so) (h.cl hcn) (fun u => u)
  obtain ⟨e1, e2, e3⟩ := h.nx hcn q' sk
  have rv : ∀ i, i < cn → nv M (mR M0 R i + 1) = nv M0 (mR M0 R i + 1) ∧ nv M (mR M0 R i + 3) = nv M0 (mR M0 R i + 3) ∧ mI M (mR M0 R i) = mI M0 (mR M0 R i) := fun i hi => by
    have f := h.2.2.2.2.1.2.2.2.2.2 i (by omega)
    have ap := h.te.2.2.2.1 i (by omega)
    refine ⟨(q.num hF f.2.1 ap.1).2.2, (q.num hF f.2.2 ap.2.1).2.2, (q.frl hF f).2 (fun u => ?_)⟩
    have := h.2.2.2.2.2.1 i (by omega)
    unfold Cim Ipk at u
    omega
  refine ⟨q, e1, e3, fun x hx nx => ?_, ⟨fun i hi => ?_, fun i hi => ?_⟩, hU⟩
  · have ne : x ≠ s + 1 := by unfold Stb at hx; omega
    refine (q.oth (h.2.2.1 x hx) ne).2.2.2 (fun u => ?_)
    unfold Cim Ipk at u
    unfold Stb at hx
    omega
  · rw [e3, (rv i hi).1, (rv i hi).2.1]; exact hr.1 i hi
  · rw [e3, (rv i hi).2.2]; exact hr.2 i hi
theorem unk_same (h : Unk M s cn un) (e : ∀ x, Stb s x → x ≠ s + 126 → mI M' x = mI M x) (e6 : mI M' (s + 126) = mI M (s + 126)) : Unk M' s cn un := by
  unfold Unk Slo at h ⊢
  rw [e s (Or.inl rfl) (by omega), e (s + 124) (Or.inr (Or.inr (Or.inr (Or.inr (Or.inr (Or.inl rfl)))))) (by omega), e (s + 125) (Or.inr (Or.inr (Or.inr (Or.inr (Or.inr (Or.inr (Or.inl rfl))))))) (by omega), e (s + 122) (Or.inr (Or.inr (Or.inr (Or.inl rfl)))) (by omega), e (s + 123) (Or.inr (Or.inr (Or.inr (Or.inr (Or.inl rfl))))) (by omega), e6]
  exact h
theorem st122 : Stb s (s + 122) ∧ Stb s (s + 123) ∧ Stb s (s + 125) := ⟨Or.inr (Or.inr (Or.inr (Or.inl rfl))), Or.inr (Or.inr (Or.inr (Or.inr (Or.inl rfl)))), Or.inr (Or.inr (Or.inr (Or.inr (Or.inr (Or.inr (Or.inl rfl))))))⟩
theorem s_im5 {pl : Int} (hpl : i32 pl) (h0 : Sva L W s g a R k cn cc bc M0) (hcn : cn ≤ k) (hk : k ≤ 512) (hL : LHs M0 s cn cc) (hr : Rsm M0 R cn 17 ∧ Rt1 M0 R cn) (hW : ∀ x, Tpk (s + 1) x → B ≤ W x) (b1 : 300 ≤ B) (hB : B ≤ 16000) (u40 : un ≤ 40) : ∀ (t i : Nat) (bt : Int) (M : mM), un ≤ i + t → i ≤ un → (bt = 0 ∨ bt = 1) → imI L W s g a R k cn cc bc un M0 M → h_So_improve_5 G (d + 6) s pl a bt i M (fun x M' => (x = 0 ∨ x = 1) ∧ imI L W s g a R k cn cc bc un M0 M') := by
  intro t
  induction t with
  | zero =>
    intro i bt M h1 h2 hb hI
    have ei : i = un := by omega
    subst ei
    obtain ⟨-, ⟨⟨o, ⟨⟨s0, -⟩, -⟩, -⟩, -⟩, -, -, -, hU⟩ := id hI
    refine k_So_improve_5 o hpl (m_b32 hb) ⟨by omega, by omega⟩ ?_
    rw [hU.1]
    exact ⟨s0, fun _ => ⟨hb, hb, hI⟩, fun u => absurd (Int.le_refl _) u⟩
  | succ t ih =>
    intro i bt M h1 h2 hb hI
    by_cases ei : i = un
    · exact ih i bt M (by omega) h2 hb hI
    obtain ⟨hN, hS, eR, st, ⟨hrs, ht1⟩, hU⟩ := id hI
    obtain ⟨⟨o, ⟨⟨s0, gs⟩, ⟨r0, -, -, r3, -, r5, r6, -, r8, r9, -⟩, ⟨-, -, k5, k6, -, k8, k9, -⟩, ⟨-, -, n5, n6, -, n8, n9, -⟩⟩, ⟨g0, ⟨q2, -⟩, gk, ⟨m2, -⟩⟩, -, hT⟩, ⟨hF, hSK, hRs, hfw⟩, -, -, ⟨t1, t2, t3, t4, -, t7⟩, hrow, hD⟩ := id hS
    obtain ⟨hc1, hc2, hc3⟩ := hT.1
    obtain ⟨kst, c, lo, hi', e1, hkc, e4, e2, e3, l1, l2⟩ := hU.2.2.2 i (by omega)
    obtain ⟨lo', hi2, f1, f2, f3, f4⟩ := hL kst hkc
    rw [← st (s + 122) st122.1 (by omega)] at f1
    rw [← st (s + 123) st122.2.1 (by omega)] at f2
    have next : ∀ (bt' : Int) (M' : mM), (bt' = 0 ∨ bt' = 1) → imI L W s g a R k cn cc bc un M0 M' → h_So_improve_122 G (d + 6) s pl a bt' i M' (fun x M' => (x = 0 ∨ x = 1) ∧ imI L W s g a R k cn cc bc un M0 M') := fun bt' M' hb' hI' => by
      refine k_So_improve_122 hI'.2.1.1.1 hpl (m_b32 hb') ⟨by omega, by omega⟩ ?_
      rw [show ((i : Int) + 1) = ((i + 1 : Nat) : Int) by omega]
      exact ih (i + 1) bt' M' (by omega) (by omega) hb' hI'
    refine k_So_improve_5 o hpl (m_b32 hb) ⟨by omega, by omega⟩ ?_
    rw [hU.1, r8, n8, r3, q2, m2, r5, r6, n5, n6, r0, Int.toNat_natCast, e1, Int.toNat_natCast, e2, e3]
    refine ⟨s0, fun u => absurd u (by omega), fun _ => ⟨k8, ⟨by omega, by omega⟩, g0, gk 2 (by decide) (by decide), ⟨by omega, by omega⟩, fun _ => ⟨k6, ⟨by omega, by omega⟩, k5, ⟨by omega, by omega⟩, ⟨by omega, by omega⟩⟩, fun _ => next bt M hb hI, fun nn => ⟨k5, ⟨by omega, by omega⟩, k6, ⟨by omega, by omega⟩, fun v33 e33 => ⟨hSK.1.1, ?_⟩⟩⟩⟩
    have v01 : i32 v33 := by rw [e33]; split <;> exact ⟨by decide, by decide⟩
    refine (f_pick (d := d) (S := 17) (B := B) v01 (hS.te.pe hcn) hrs hW (by omega) hB (show lo < hi' by omega) (by omega) hc1 hc3 (fun c' _ hc' => hT.2.1 c' (by omega))).mono (fun x40 M39 q => ?_)
    obtain ⟨p1, p2, p3, p4, p5⟩ := q
    have x1 : NX L W (Tpk (s + 1)) (Cim s) True (s + 1) M M39 := (p1.nx hF).mono hF (fun _ u => u) hN.2.1.1 (fun x u => Or.inl u) (fun x u => hS.cl (n := cn) hcn x u.so) (fun u => u)
    have stb1 : ∀ x, Stb s x → mI M39 x = mI M x := fun x hx => by
      have ne : x ≠ s + 1 := by unfold Stb at hx; omega
      refine ((p1.nx hF).oth (hS.2.2.1 x hx) ne).2.2.2 (fun u => ?_)
      unfold Ipk at u
      unfold Stb at hx
      omega
    have N1 := hN.trans x1
    have U1 : Unk M39 s cn un := unk_same hU (fun x hx _ => stb1 x hx) (stb1 (s + 126) (Or.inr (Or.inr (Or.inr (Or.inr (Or.inr (Or.inr (Or.inr (Or.inl rfl)))))))))
    have I1 := im_mk h0 hcn hr N1 p2 U1
    obtain ⟨-, hS1, eR1, -, ⟨hrs1, ht11⟩, -⟩ := id I1
    obtain ⟨⟨o1, ⟨⟨s01, -⟩, ⟨r01, -⟩, -⟩, -⟩, ⟨hF1, -, -, -⟩, -, -, ⟨t11, t21, t31, t41, -, t71⟩, hrow1, -⟩ := id hS1
    have fr := t71 kst (by omega)
    have ap := hS1.te.2.2.2.1 kst (by omega)
    obtain ⟨i9, -, -⟩ := p2.bt
    have fw := p2.frl i9
    have ob : Osz M39 (mR M39 (s + 1) 9) 139 := ⟨hF1.szv fw.2.1 p3.2.1, hF1.szv fw.2.2 (Int.lt_of_lt_of_le p3.1.2 (p30m (by decide))), p3.2.2.1.1, by have := p3.2.2.1.2; omega⟩
    have orw : Osz M39 (mR M39 R kst) 139 := by
      have sm := hrs1 kst hkc
      have a1 := hF1.szv fr.2.1 sm.2.2
      have a2 := hF1.szv fr.2.2 sm.2.1
      have a3 := ht11 kst hkc
      exact ⟨by omega, by omega, by omega, by omega⟩
    rw [t21, t41, r01]
    refine ⟨⟨by omega, by omega⟩, o1, s01, t11, t31, ⟨by omega, by omega⟩, p2.1.1, (f_orderOfPicked (d := d) o1 hF1 p2 fr ob orw ⟨fun u => ap.1 (Or.inr (Or.inl u)), fun u => ap.2.1 (Or.inr (Or.inl u))⟩ (by have := hW _ (Or.inr (Or.inl (Or.inl rfl))); omega) (by have := hW _ (Or.inr (Or.inl (Or.inr rfl))); omega)).mono (fun x48 M47 q => ?_)⟩
    obtain ⟨n2, xx⟩ := q
    have x2 : NX L W (Tpk (s + 1)) (Cim s) True (s + 1) M39 M47 := (n2.nx hF1).mono hF1 (fun _ u => Or.inr (Or.inl u)) hN.2.1.1 (fun _ u => u.elim) (fun x u => hS1.cl (n := cn) hcn x u.so) (fun u => u.elim)
    have sk2 := n2.sk hF1 p2
    have stb2 : ∀ x, Stb s x → mI M47 x = mI M39 x := fun x hx => by
      have ne : x ≠ s + 1 := by unfold Stb at hx; omega
      exact ((n2.nx hF1).oth (hS1.2.2.1 x hx) ne).2.2.2 (fun u => u)
    have N2 := N1.trans x2
    have U2 : Unk M47 s cn un := unk_same U1 (fun x hx _ => stb2 x hx) (stb2 (s + 126) (Or.inr (Or.inr (Or.inr (Or.inr (Or.inr (Or.inr (Or.inr (Or.inl rfl)))))))))
    have I2 := im_mk h0 hcn hr N2 sk2 U2
    obtain ⟨-, hS2, -, st2, -, -⟩ := id I2
    obtain ⟨⟨o2, ⟨⟨s02, -⟩, ⟨-, -, -, -, -, -, -, -, -, r92, -⟩, ⟨-, -, -, -, -, -, k92, -⟩, ⟨-, -, -, -, -, -, n92, -⟩⟩, -⟩, ⟨hF2, -⟩, hSt2, -⟩ := id hS2
    rw [r92, n92]
    refine ⟨by rcases xx with e | e | e <;> rw [e] <;> exact ⟨by decide, by decide⟩, o2, fun _ => next bt M47 hb I2, fun _ => ⟨s02, k92, ⟨by omega, by omega⟩, fun M58 e58 => ?_⟩⟩
    have f58 : FI (fun z => z = s + 126) M47 M58 := by rw [e58]; exact FI.ui rfl
    have o58 : mOk M58 := by rw [e58]; exact mOk_UI o2 ⟨by omega, by omega⟩
    obtain ⟨x3, -⟩ := f58.nx (T := Tpk (s + 1)) (r := False) (z := s + 1) o58 hF2 hN.2.1.1 (fun x u => by rw [u]; exact hSt2 _ (Or.inr (Or.inr (Or.inr (Or.inr (Or.inr (Or.inr (Or.inr (Or.inl rfl))))))))) hS2.z9
    have x3' : NX L W (Tpk (s + 1)) (Cim s) True (s + 1) M47 M58 := x3.mono hF2 (fun _ u => u) hN.2.1.1 (fun _ u => Or.inr u) (fun x u => hS2.cl (n := cn) hcn x u.so) (fun u => u.elim)
    refine next 1 M58 (Or.inr rfl) (im_mk h0 hcn hr (N2.trans x3') (x3.sk hF2 sk2) ?_)
    have kp : ∀ {x : Nat}, x ≠ s + 126 → mI M58 x = mI M47 x := fun hx => f58.2.2.2.2.2.2 _ hx
    obtain ⟨w1, w2, w3, w4⟩ := U2
    refine ⟨by rw [kp (by omega)]; exact w1, w2, fun j hj => by rw [kp (show s + 124 ≠ s + 126 by omega)]; exact w3 j hj, fun j hj => ?_⟩
    rw [kp (show s + 125 ≠ s + 126 by omega), kp (show s + 122 ≠ s + 126 by omega), kp (show s + 123 ≠ s + 126 by omega), mI_ui _ j e58]
    by_cases cj : j = i
    · rw [if_pos ⟨rfl, cj⟩, cj]
      refine ⟨kst, x40.toNat, lo, hi', ?_, hkc, by omega, ?_, ?_, by omega, by omega⟩
      · rw [stb2 (s + 125) st122.2.2, stb1 (s + 125) st122.2.2]; exact e1
      · rw [stb2 (s + 122) st122.1, stb1 (s + 122) st122.1]; exact e2
      · rw [stb2 (s + 123) st122.2.1, stb1 (s + 123) st122.2.1]; exact e3
    · rw [if_neg (fun u => cj u.2)]
      exact w4 j hj
theorem s_So_improve {pl : Int} (hpl : i32 pl) (h0 : Sva L W s g a R k cn cc bc M) (hcn : cn ≤ k) (hk : k ≤ 512) (hL : LHs M s cn cc) (hU : Unk M s cn un) (hr : Rsm M R cn 17 ∧ Rt1 M R cn) (hW : ∀ x, Tpk (s + 1) x → B ≤ W x) (b1 : 300 ≤ B) (hB : B ≤ 16000) : Ci G y_So_improve (d + 7) [vr s, vi pl, vr a] M (fun x M' => (x = 0 ∨ x = 1) ∧ imI L W s g a R k cn cc bc un M M') := by
  have hF := h0.2.1.1
  refine k_So_improve h0.1.1 hpl ?_
  exact s_im5 hpl h0 hcn hk hL hr hW b1 hB hU.2.1 un 0 0 M (by omega) (by omega) (Or.inl rfl) (im_mk h0 hcn hr (NX.refl h0.1.1 hF h0.2.1.2.1.tpk (fun x u => h0.cl (n := cn) hcn x u.so) h0.z9) h0.2.1.2.1 hU)
end NBU
