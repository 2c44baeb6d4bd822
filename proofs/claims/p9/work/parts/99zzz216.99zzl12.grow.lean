section
/-! The class's Solver: small steps and growth keep it. -/
section NBY
variable {G : mG} {d s g a R R' cn cc bc i k k' n c un x y B : Nat} {M M0 M' M1 M2 M3 : mM} {L L' : List Nat} {W : Nat → Nat} {S : Nat → Prop}
theorem Oc.fi (h : Oc L M x) (f : FI S M M') : Oc L M' x := ⟨by rw [f.2.2.2.2.1]; exact h.1, h.2.1, fun a ha u => h.2.2 a ha (by rw [← f.2.2.1]; exact u)⟩
theorem FrL.fi (h : FrL L M x) (f : FI S M M') : FrL L M' x := by
  obtain ⟨⟨h1, h2, h3⟩, h4⟩ := h
  exact ⟨⟨by rw [f.1]; exact h1, by rw [f.2.2.1]; exact h2, by rw [f.2.2.2.2.1]; exact h3⟩, h4⟩
/-- tables and the mark of a table of fractions -/
def Sta (s a x : Nat) : Prop := x = a ∨ Stb s x
theorem Sva.sta (h : Sva L W s g a R k cn cc bc M) : ∀ x, Sta s a x → Oc L M x := fun x u => u.elim (fun u => by rw [u]; exact h.2.2.2.2.1.2.2.2.2.1.1) (h.2.2.1 x)
theorem Sva.gst (h : Sva L W s g a R k cn cc bc M) (hi : i ≤ 9) : ¬ Sta s a (g + i) := by
  have gs := h.1.2.1.1.2
  have ka := h.2.2.2.2.1.1
  intro u
  rcases u with u | u
  · have := h.1.2.2.1.kd hi
    by_cases e : i = 0
    · have g0 := h.1.2.2.1.1
      rw [e, Nat.add_zero] at u
      rw [u, ka] at g0
      omega
    · have g0 := h.1.2.2.1.2.2.1 i (by omega) hi
      rw [u, ka] at g0
      omega
  · unfold Stb at u
    omega
/-- ints of the Solver's own tables change -/
theorem Sva.fi (h : Sva L W s g a R k cn cc bc M) (f : FI (Sta s a) M M') (o : mOk M') : Sva L W s g a R k cn cc bc M' ∧ (∀ b, b ∈ L → nv M' b = nv M b) ∧ ∀ i, i < k → mI M' (mR M R i) = mI M (mR M R i) := by
  have gst : ∀ i, i ≤ 9 → ¬ Sta s a (g + i) := fun i hi => h.gst hi
  have sta := h.sta
  obtain ⟨hg, ⟨hF, hSK, hRs, hfw⟩, hSt, hgo, ⟨t1, t2, t3, t4, ⟨t5, t6⟩, t7⟩, hrow, hD⟩ := id h
  obtain ⟨xx, v⟩ := f.nx (T := Tat s) (r := False) (z := s + 1) o hF h.tat sta h.z9
  refine ⟨⟨hg.fi f o gst, ⟨xx.nf, xx.sk hF hSK, ?_, hfw.fi f⟩, fun x hx => (hSt x hx).fi f, fun i hi => (hgo i hi).fi f, ⟨by rw [f.1]; exact t1, by rw [f.2.2.1]; exact t2, by rw [f.1]; exact t3, by rw [f.2.1]; exact t4, ⟨t5.fi f, t6.fi f⟩, fun i hi => by rw [f.2.2.1]; exact (t7 i hi).fi f⟩, fun i hi => by rw [f.2.2.1]; exact hrow i hi, fun i j hi hj ij => by rw [f.2.2.1]; exact hD i j hi hj ij⟩, v, fun i hi => ?_⟩
  · obtain ⟨r1, r2, r3, r4⟩ := hRs
    exact ⟨r1.fi f, fun i hi => (r2 i hi).fi f, fun i hi => by rw [f.2.2.1]; exact r3 i hi, r4⟩
  · refine f.2.2.2.2.2.2 _ (fun u => ?_)
    have k11 := (t7 i hi).1.1
    have hb := hrow i hi
    rcases u with u | u
    · rw [u, t1] at k11; omega
    · unfold Stb at u; omega
/-- the table grows -/
theorem Sva.gw (h : Sva L W s g a R k cn cc bc M) (hg : Gw L W a M L' M') (hT : Te L' W (s + 1) g a R' k' M') (hrow : ∀ i, i < k' → s + 133 < mR M' R' i) : Sva L' W s g a R' k' cn cc bc M' ∧ (∀ x, Stb s x → mI M' x = mI M x) ∧ ∀ i, i ≤ 9 → mI M' (g + i) = mI M (g + i) := by
  obtain ⟨⟨o, ⟨s0, sr, sk, sn⟩, hG, ⟨g3, n3⟩, hGT⟩, ⟨hF, hSK, hRs, hfw⟩, hSt, hgo, ⟨t1, -⟩, -, -⟩ := id h
  have gg := hg
  obtain ⟨o', ⟨-, hF'⟩, l1, l2, f, na, ka⟩ := hg
  obtain ⟨-, ⟨hG', hgo'⟩, hRT, -, hD'⟩ := id hT
  have gi := (gg.gk ⟨hG, hgo⟩).2
  have ns : ∀ x, mK M x ≠ 13 → x ≠ a := fun x hx e => hx (by rw [e]; exact ka)
  obtain ⟨k1, k2, k3, k4, k5, k6, k7, k8, k9⟩ := id sk
  have os : ∀ x, Stb s x → mK M' x = mK M x ∧ mN M' x = mN M x ∧ (x ≠ a → mR M' x = mR M x) ∧ mI M' x = mI M x := fun x hx => by
    obtain ⟨a1, a2, a3, a4, a5⟩ := f.2 x (hSt x hx).1
    exact ⟨a1, a2, a4, a5 (fun u => u)⟩
  have e0 := os s (Or.inl rfl)
  have e29 := os (s + 29) (Or.inr (Or.inl rfl))
  have e30 := os (s + 30) (Or.inr (Or.inr (Or.inl rfl)))
  have e122 := os (s + 122) (Or.inr (Or.inr (Or.inr (Or.inl rfl))))
  have e123 := os (s + 123) (Or.inr (Or.inr (Or.inr (Or.inr (Or.inl rfl)))))
  have e124 := os (s + 124) (Or.inr (Or.inr (Or.inr (Or.inr (Or.inr (Or.inl rfl))))))
  have e125 := os (s + 125) (Or.inr (Or.inr (Or.inr (Or.inr (Or.inr (Or.inr (Or.inl rfl)))))))
  have e126 := os (s + 126) (Or.inr (Or.inr (Or.inr (Or.inr (Or.inr (Or.inr (Or.inr (Or.inl rfl))))))))
  have e127 := os (s + 127) (Or.inr (Or.inr (Or.inr (Or.inr (Or.inr (Or.inr (Or.inr (Or.inr (Or.inl rfl)))))))))
  have e128 := os (s + 128) (Or.inr (Or.inr (Or.inr (Or.inr (Or.inr (Or.inr (Or.inr (Or.inr (Or.inr rfl)))))))))
  have sa : s ≠ a := ns s (by rw [s0.1]; decide)
  have ga : g ≠ a := ns g (by rw [hG.1]; decide)
  have g0z := (hgo 0 (by decide)).1
  rw [Nat.add_zero] at g0z
  have gR : mR M' g = mR M g := (f.2 g g0z).2.2.2.1 ga
  have n3' : mN M' (g + 3) = mN M (g + 3) := (f.2 _ (hgo 3 (by decide)).1).2.1
  refine ⟨⟨⟨o', ⟨⟨by rw [e0.1]; exact s0.1, s0.2⟩, by rw [e0.2.2.1 sa]; exact sr, by rw [e29.1, e30.1, e122.1, e123.1, e124.1, e125.1, e126.1, e127.1, e128.1]; exact sk, by rw [e29.2.1, e30.2.1, e122.2.1, e123.2.1, e124.2.1, e125.2.1, e126.2.1, e127.2.1, e128.2.1]; exact sn⟩, hG', ⟨by rw [gR]; exact g3, by rw [n3']; exact n3⟩, hGT.same gi⟩, ⟨hF', gg.sk hSK, ?_, (gg.frl hfw).1⟩, fun x hx => gg.oc (hSt x hx), hgo', hRT, hrow, hD'⟩, fun x hx => (os x hx).2.2.2, gi⟩
  obtain ⟨⟨c0, c1, c2, c3⟩, c4, c5, c6⟩ := hRs
  have oe : ∀ i, i ≤ 6 → mK M' (s + 31 + i) = mK M (s + 31 + i) ∧ mN M' (s + 31 + i) = mN M (s + 31 + i) ∧ (s + 31 + i ≠ a → mR M' (s + 31 + i) = mR M (s + 31 + i)) := fun i hi => by
    obtain ⟨a1, a2, a3, a4, a5⟩ := f.2 _ (c4 i hi).1
    exact ⟨a1, a2, a4⟩
  have r0 := oe 0 (by decide)
  rw [Nat.add_zero] at r0
  exact ⟨⟨by rw [r0.1]; exact c0, by rw [r0.2.2 (ns _ (by rw [c0]; decide))]; exact c1, by rw [(oe 1 (by decide)).1, (oe 2 (by decide)).1, (oe 3 (by decide)).1, (oe 4 (by decide)).1, (oe 5 (by decide)).1, (oe 6 (by decide)).1]; exact c2, by rw [(oe 1 (by decide)).2.1, (oe 2 (by decide)).2.1, (oe 3 (by decide)).2.1, (oe 4 (by decide)).2.1, (oe 5 (by decide)).2.1, (oe 6 (by decide)).2.1]; exact c3⟩, fun i hi => gg.oc (c4 i hi), fun i hi => by rw [(oe 2 (by decide)).2.2 (ns _ (by rw [c2.2.1]; decide))]; exact ⟨(c5 i hi).1, l1 _ (c5 i hi).2⟩, l1 _ c6⟩
end NBY
end
section
/-! The class's Solver: workOut. -/
section NBZ
variable {G : mG} {d s g a R R' cn cc bc i k k' n c un x y B : Nat} {M M0 M' M1 M2 M3 : mM} {L L' : List Nat} {W : Nat → Nat} {wt : Nat → Nat}
/-- between the rounds -/
def loI (L : List Nat) (W : Nat → Nat) (s g a R k cn cc bc un : Nat) (wt : Nat → Nat) (M0 M : mM) : Prop := NX L W (Tso s M0 R cn) (Cso s M0 R cn) True (s + 1) M0 M ∧ Sva L W s g a R k cn cc bc M ∧ mR M R = mR M0 R ∧ (Rsm M R cn 17 ∧ Rt1 M R cn) ∧ LHs M s cn cc ∧ Unk M s cn un ∧ (∀ i, i < un → wtO M s g i (wt i) ∧ wt i ≤ 33) ∧ mI M (s + 30) = mI M0 (s + 30)
theorem tso_e (e : mR M R = mR M0 R) : Tso s M R cn = Tso s M0 R cn ∧ Cso s M R cn = Cso s M0 R cn := by
  constructor
  · funext z
    unfold Tso Trw
    rw [e]
  · funext z
    unfold Cso Irw
    rw [e]
theorem lhs_same (h : LHs M s cn cc) (e2 : mI M' (s + 122) = mI M (s + 122)) (e3 : mI M' (s + 123) = mI M (s + 123)) : LHs M' s cn cc := by
  unfold LHs at h ⊢
  rw [e2, e3]
  exact h
theorem wto_same (h : wtO M s g i n) (e2 : mI M' (s + 122) = mI M (s + 122)) (e3 : mI M' (s + 123) = mI M (s + 123)) (e5 : mI M' (s + 125) = mI M (s + 125)) (e6 : mI M' (g + 6) = mI M (g + 6)) : wtO M' s g i n := by
  unfold wtO at h ⊢
  rw [e2, e3, e5, e6]
  exact h
theorem st126 : Stb s (s + 126) := Or.inr (Or.inr (Or.inr (Or.inr (Or.inr (Or.inr (Or.inr (Or.inl rfl)))))))
theorem st30 : Stb s (s + 30) := Or.inr (Or.inr (Or.inl rfl))
theorem lo_ev (hI : loI L W s g a R k cn cc bc un wt M0 M) (hcn : cn ≤ k) (e : evI L W s g a R k cn cc bc M M') : loI L W s g a R k cn cc bc un wt M0 M' := by
  obtain ⟨hN, hS, eR, ⟨hr, ht⟩, hL, hU, hw, h30⟩ := hI
  obtain ⟨q, S1, eR1, st, r1, ti, gi⟩ := e
  obtain ⟨eT, eC⟩ := tso_e (s := s) (cn := cn) eR
  have hF := hS.2.1.1
  have q' : NX L W (Tso s M R cn) (Cso s M R cn) True (s + 1) M M' := q.mono hF (fun _ u => u) (hS.tl hcn) (fun x u => u.so) (hS.cl hcn) (fun u => u.elim)
  rw [eT, eC] at q'
  have e2 := st (s + 122) st122.1
  have e3 := st (s + 123) st122.2.1
  have e5 := st (s + 125) st122.2.2
  refine ⟨hN.trans q', S1, by rw [eR1, eR], ⟨r1, fun i hi => by rw [eR1, ti i hi]; exact ht i hi⟩, lhs_same hL e2 e3, unk_same hU (fun x hx _ => st x hx) (st (s + 126) st126), fun i hi => ⟨wto_same (hw i hi).1 e2 e3 e5 (gi 6 (by decide)), (hw i hi).2⟩, (st (s + 30) st30).trans h30⟩
theorem lo_im (hI : loI L W s g a R k cn cc bc un wt M0 M) (hcn : cn ≤ k) (e : imI L W s g a R k cn cc bc un M M') : loI L W s g a R k cn cc bc un wt M0 M' := by
  obtain ⟨hN, hS, eR, ⟨hr, ht⟩, hL, hU, hw, h30⟩ := hI
  obtain ⟨q, S1, eR1, st, r1, U1⟩ := e
  obtain ⟨eT, eC⟩ := tso_e (s := s) (cn := cn) eR
  have hF := hS.2.1.1
  have q' : NX L W (Tso s M R cn) (Cso s M R cn) True (s + 1) M M' := q.mono hF (fun _ u => Or.inl u) (hS.tl hcn) (fun x u => u.so) (hS.cl hcn) (fun u => u)
  have gi := (hS.nx hcn q' S1.2.1.2.1).2.1
  rw [eT, eC] at q'
  have e2 := st (s + 122) st122.1 (by omega)
  have e3 := st (s + 123) st122.2.1 (by omega)
  have e5 := st (s + 125) st122.2.2 (by omega)
  exact ⟨hN.trans q', S1, by rw [eR1, eR], r1, lhs_same hL e2 e3, U1, fun i hi => ⟨wto_same (hw i hi).1 e2 e3 e5 (gi 6 (by decide)), (hw i hi).2⟩, (st (s + 30) st30 (by omega)).trans h30⟩
/-- the rounds -/
theorem s_wo45 {Q : Int → mM → Prop} (hcn : cn ≤ k) (hk : k ≤ 512) (h480 : wsu wt un ≤ 480) (hWr : ∀ i, i < k → 17 ≤ W (mR M0 R i + 1) ∧ 17 ≤ W (mR M0 R i + 3)) (hWs : ∀ x, Trs (s + 31) x → 40 ≤ W x) (hW : ∀ x, Tat s x → B ≤ W x) (b1 : 300 ≤ B) (hB : B ≤ 16000)
    (hQ : ∀ M M30, loI L W s g a R k cn cc bc un wt M0 M → M30 = mUI M a 1 1 → Q 0 M30) : ∀ (t rn : Nat) (bt : Int) (M : mM), 1000000 ≤ rn + t → rn ≤ 1000000 → (bt = 0 ∨ bt = 1) → loI L W s g a R k cn cc bc un wt M0 M → h_So_workOut_45 G (d + 7) s a bt rn M Q := by
  intro t
  induction t with
  | zero =>
    intro rn bt M h1 h2 hb hI
    have hS := hI.2.1
    exact k_So_workOut_45 hS.1.1 (m_b32 hb) ⟨by omega, by omega⟩ ⟨fun _ => ⟨hS.2.2.2.2.1.1, fun M30 e30 => hQ M M30 hI e30⟩, fun u => absurd (Or.inl (by omega)) u⟩
  | succ t ih =>
    intro rn bt M h1 h2 hb hI
    obtain ⟨hN, hS, eR, hr, hL, hU, hw, -⟩ := id hI
    refine k_So_workOut_45 hS.1.1 (m_b32 hb) ⟨by omega, by omega⟩ ⟨fun _ => ⟨hS.2.2.2.2.1.1, fun M30 e30 => hQ M M30 hI e30⟩, fun u => ⟨hS.1.2.1.1.1, ?_⟩⟩
    rw [show ((rn : Int) + 1) = ((rn + 1 : Nat) : Int) by omega]
    have rl : rn < 1000000 := by
      by_cases c : (1000000 : Int) ≤ rn
      · exact absurd (Or.inl c) u
      · omega
    refine (s_So_evaluate (d := d + 1) (wt := wt) hS hcn hk hL hU hw h480 hr.1 (fun i hi => by rw [eR]; exact hWr i hi) hWs).mono (fun M34 q => ?_)
    have I34 := lo_ev hI hcn q
    obtain ⟨-, S34, -, r34, L34, U34, -⟩ := id I34
    refine ⟨S34.1.1, S34.1.2.1.1.1, (s_So_improve (d := d) (pl := 2) ⟨by decide, by decide⟩ S34 hcn hk L34 U34 r34 (fun x hx => hW x (Or.inl hx)) b1 hB).mono (fun x39 M38 q2 => ?_)⟩
    obtain ⟨x01, im38⟩ := q2
    have I38 := lo_im I34 hcn im38
    obtain ⟨-, S38, -, r38, L38, U38, -⟩ := id I38
    refine ⟨m_b32 x01, S38.1.1, fun _ => ⟨S38.1.2.1.1.1, (s_So_improve (d := d) (pl := 1) ⟨by decide, by decide⟩ S38 hcn hk L38 U38 r38 (fun x hx => hW x (Or.inl hx)) b1 hB).mono (fun x46 M45 q3 => ?_)⟩, fun _ => ih (rn + 1) 1 M38 (by omega) (by omega) (Or.inr rfl) I38⟩
    obtain ⟨x01', im45⟩ := q3
    have I45 := lo_im I38 hcn im45
    exact ⟨m_b32 x01', I45.2.1.1.1, fun v49 e49 => ih (rn + 1) v49 M45 (by omega) (by omega) (by rw [e49]; split <;> omega) I45⟩
/-- the first part of workOut: tables alone have changed -/
def woI (L : List Nat) (W : Nat → Nat) (s g a R k cn cc bc : Nat) (M0 M : mM) : Prop := mOk M ∧ FI (Sta s a) M0 M ∧ Sva L W s g a R k cn cc bc M ∧ mI M (s + 30) = mI M0 (s + 30) ∧ mI M a 1 = 0
/-- what workOut leaves behind -/
def wkoQ (L : List Nat) (W : Nat → Nat) (s g a R k cn cc bc : Nat) (M0 : mM) (x : Int) (M' : mM) : Prop := ((x = 5 ∨ x = 6) ∧ woI L W s g a R k cn cc bc M0 M') ∨ (x = 0 ∧ ∃ M1 L' R' k' M2 M3 un wt M4, woI L W s g a R k cn cc bc M0 M1 ∧ Gw L W a M1 L' M2 ∧ Te L' W (s + 1) g a R' k' M2 ∧ ((M2 = M1 ∧ L' = L ∧ R' = R ∧ k' = k) ∨ rvG L M1 R k L' M2 R' k') ∧ (cn ≤ k' ∧ k ≤ k' ∧ k' ≤ 512) ∧ (∀ i, i < k → mR M2 R' i = mR M1 R i) ∧ (∀ i, k ≤ i → i < k' → mR M2 R' i = mZ M1 + 1 + 5 * (i - k) ∧ mI M2 (mZ M1 + 1 + 5 * (i - k)) 2 = 1) ∧ NL L' W (Trw M2 R' cn) (Irw M2 R' cn) False (s + 1) M2 M3 ∧ loI L' W s g a R' k' cn cc bc un wt M3 M4 ∧ M' = mUI M4 a 1 1 ∧ mI M' (s + 30) = mI M0 (s + 30))
theorem s_So_workOut {kp : Int} (hkp : i32 kp) (h : Sva L W s g a R k cn cc bc M) (hk : k ≤ 512) (hz : s + 133 < mZ M) (ht : Tld M g cn kp) (hWr : ∀ i, i < k → 17 ≤ W (mR M R i + 1) ∧ 17 ≤ W (mR M R i + 3)) (hWn : ∀ x, mZ M < x → 17 ≤ W x ∧ W x ≤ 20000) (hWs : ∀ x, Trs (s + 31) x → 40 ≤ W x) (hW : ∀ x, Tat s x → B ≤ W x) (b1 : 300 ≤ B) (hB : B ≤ 16000) : Ci G y_So_workOut (d + 8) [vr s, vi kp, vr a] M (fun x M' => wkoQ L W s g a R k cn cc bc M x M' ∧ (kp = 0 → kdT (xtm M g cn) → svA9 (xtm M g cn) x)) := by
  have gst : ∀ i, i ≤ 9 → ¬ Sta s a (g + i) := fun i hi => h.gst hi
  have nas : ∀ x, Stb s x → x ≠ a := fun x hx e => by
    have ka := h.2.2.2.2.1.1
    obtain ⟨⟨-, ⟨⟨s0, -⟩, -, ⟨k1, k2, k3, k4, k5, k6, k7, k8, k9⟩, -⟩, -⟩, -⟩ := id h
    rw [← e] at ka
    unfold Stb at hx
    rcases hx with u | u | u | u | u | u | u | u | u | u <;> rw [u] at ka <;> omega
  refine k_So_workOut h.1.1 hkp ⟨h.2.2.2.2.1.1, fun M2 e2 => ?_⟩
  have f2 : FI (Sta s a) M M2 := by rw [e2]; exact FI.ui (Or.inl rfl)
  have o2 : mOk M2 := by rw [e2]; exact mOk_UI h.1.1 ⟨by decide, by decide⟩
  have S2 := (h.fi f2 o2).1
  have g2 : ∀ i, i ≤ 9 → mI M2 (g + i) = mI M (g + i) := fun i hi => f2.2.2.2.2.2.2 _ (gst i hi)
  refine ⟨S2.1.2.1.1.1, (s_So_leaveCommands (d := d + 7) hkp S2.1 (fun h0 j hj e x y f1 f4 => ?_)).mono (fun M5 q => ?_)⟩
  · rw [g2 2 (by decide)] at e
    rw [g2 4 (by decide)] at f1 f4
    rw [g2 3 (by decide)]
    exact ht h0 j hj e x y f1 f4
  obtain ⟨f5, sg5, L5, X5⟩ := q
  have f5' : FI (Sta s a) M2 M5 := f5.mono (fun z u => Or.inr (u.elim (fun u => by rw [u]; exact st122.1) (fun u => by rw [u]; exact st122.2.1)))
  have S5 := (S2.fi f5' sg5.1).1
  refine ⟨sg5.1, sg5.2.1.1.1, (x_So_findUnknown (d := d + 5) sg5 L5).mono (fun x10 M9 q => ?_)⟩
  obtain ⟨un, ⟨f9, sg9, L9, U9, mb9, su9⟩, hres⟩ := q
  have x01 : x10 = 0 ∨ x10 = 1 := by
    rcases hres with ⟨u, -⟩ | ⟨u, -⟩
    · exact Or.inr u
    · exact Or.inl u
  have f9' : FI (Sta s a) M5 M9 := f9.mono (fun z u => Or.inr (by
    rcases u with u | u | u | u
    · exact Or.inl u
    · exact Or.inr (Or.inr (Or.inr (Or.inr (Or.inr (Or.inl u)))))
    · rw [u]; exact st122.2.2
    · rw [u]; exact st126))
  have S9 := (S5.fi f9' sg9.1).1
  have e30 : mI M9 (s + 30) = mI M (s + 30) := by
    rw [f9.2.2.2.2.2.2 (s + 30) (fun u => by unfold Sun at u; omega), f5.2.2.2.2.2.2 (s + 30) (fun u => by unfold S56 at u; omega)]
    funext j
    rw [mI_ui _ j e2, if_neg (fun u => nas (s + 30) st30 u.1)]
  have a56 : ¬ S56 s a := fun u => u.elim (fun u => nas (s + 122) st122.1 u.symm) (fun u => nas (s + 123) st122.2.1 u.symm)
  have aSn : ¬ Sun s a := fun u => by
    rcases u with u | u | u | u
    · exact nas s (Or.inl rfl) u.symm
    · exact nas (s + 124) (Or.inr (Or.inr (Or.inr (Or.inr (Or.inr (Or.inl rfl)))))) u.symm
    · exact nas (s + 125) st122.2.2 u.symm
    · exact nas (s + 126) st126 u.symm
  have fl0 : mI M9 a 1 = 0 := by rw [f9.2.2.2.2.2.2 a aSn, f5.2.2.2.2.2.2 a a56, mI_ui a 1 e2, if_pos ⟨rfl, rfl⟩]
  have I9 : woI L W s g a R k cn cc bc M M9 := ⟨sg9.1, (f2.trans f5').trans f9', S9, e30, fl0⟩
  have clt : kp = 0 → kdT (xtm M g cn) → ClT M9 s g cn (xtm M g cn) := fun k0 kd => by
    refine clt_of (M := M) h.1.2.2.2.2 (fun k hk => ?_) (fun i hi => I9.2.1.2.2.2.2.2.2 _ (gst i hi)) kd
    obtain ⟨a1, a2⟩ := X5 k0 k hk
    rw [f9.2.2.2.2.2.2 (s + 122) (fun u => by unfold Sun at u; omega), f9.2.2.2.2.2.2 (s + 123) (fun u => by unfold Sun at u; omega), ← g2 4 (by decide)]
    exact ⟨a1, a2⟩
  have cn5 : cn ≤ 512 := h.1.2.2.2.2.1.1
  refine ⟨m_b32 x01, sg9.1, fun z => ⟨Or.inl ⟨Or.inl rfl, I9⟩, fun k0 kd => ?_⟩, fun z => ⟨sg9.2.1.1.1, (x_So_weights (d := d + 6) sg9 L9 U9).mono (fun x16 M15 q => ?_)⟩⟩
  · rcases hres with ⟨u, -⟩ | ⟨-, e40, k9, hk9, k90, lo9, hi9, l91, l92, hco⟩
    · exact absurd (z.symm.trans u) (by decide)
    · subst e40
      exact cl_many (clt k0 kd) U9.2.2.1 cn5 mb9 su9 hk9 k90 l91 l92 hco (fun J' hc j a b => cl_inn (clt k0 kd) U9.2.2.1 cn5 mb9 hc j ⟨a, b⟩)
  have hno : noM M9 s g cn 0 := by
    rcases hres with ⟨-, u⟩ | ⟨u, -⟩
    · exact u
    · exact absurd u z
  obtain ⟨e15, wt, ew, hw0⟩ := q
  have hw : ∀ i, i < un → wtO M9 s g i (wt i) ∧ wt i ≤ 33 := fun i hi => ⟨(hw0 i hi).1.wto, (hw0 i hi).2⟩
  have few : ∀ r : Int, ((480 < ((wsu wt un : Nat) : Int) ∧ r = 6) ∨ (((wsu wt un : Nat) : Int) ≤ 480 ∧ r = 0)) → kp = 0 → kdT (xtm M g cn) → svA9 (xtm M g cn) r := fun r hr k0 kd => cl_few (clt k0 kd) U9.2.2.1 cn5 U9.2.1 mb9 su9 hno (fun i hi => by
    obtain ⟨k9, c9, lo9, hi9, q1, q2, -⟩ := U9.2.2.2 i hi
    exact ⟨k9, q1, q2⟩) (fun i hi => (hw0 i hi).1) hr
  have w33 : wsu wt un ≤ wsu (fun _ => 33) un := wsu_le un (fun i hi => (hw i hi).2)
  have w33' : ∀ n, wsu (fun _ => 33) n = 33 * n := fun n => by
    induction n with
    | zero => rfl
    | succ n ih => show wsu (fun _ => 33) n + 33 = _; rw [ih]; omega
  rw [w33'] at w33
  have u40 := U9.2.1
  rw [e15, ew]
  refine ⟨⟨by omega, by omega⟩, sg9.1, fun le => ⟨sg9.2.1.1.1, S9.2.2.2.2.1.1, ?_⟩, fun ng => ⟨Or.inl ⟨Or.inr rfl, I9⟩, few 6 (Or.inl ⟨Int.not_le.mp ng, rfl⟩)⟩⟩
  have z9 : mZ M9 = mZ M := I9.2.1.2.2.2.2.1
  have r3 : mR M9 s 3 = g := sg9.2.1.2.1.2.2.2.1
  rw [r3]
  refine (f_begin (d := d + 3) S9.te hk sg9.2.2.2.2.1.1 sg9.2.2.2.2.2.2.2 (fun x hx => by have := hWn x (by omega); omega)).mono (fun M22 q => ?_)
  obtain ⟨L', R', k', MB, gw, te, ⟨c1, c2⟩, gr, p1, p2, nb, bg, -⟩ := q
  have k5 : k' ≤ 512 := by
    rcases gr with ⟨-, -, -, e⟩ | ⟨-, e, -⟩ <;> omega
  have z133 : s + 133 < mZ M9 := by rw [z9]; exact hz
  have row' : ∀ i, i < k' → s + 133 < mR MB R' i := fun i hi => by
    by_cases c : i < k
    · rw [p1 i c]; exact S9.2.2.2.2.2.1 i c
    · rw [(p2 i (by omega) hi).1]; omega
  obtain ⟨SB, stB, giB⟩ := S9.gw gw te row'
  have FB := SB.2.1.1
  have nbx : NX L' W (Tso s MB R' cn) (Cso s MB R' cn) False (s + 1) MB M22 := (nb.nx FB).mono FB (fun _ u => Or.inr (Or.inr (Or.inr u))) (SB.tl c1) (fun _ u => Or.inr (Or.inr (Or.inr (Or.inr (Or.inr u))))) (SB.cl c1) (fun u => u)
  obtain ⟨S22, gi22, eR22⟩ := SB.nx c1 nbx (nb.sk FB SB.2.1.2.1)
  have st22 : ∀ x, Stb s x → mI M22 x = mI M9 x := fun x hx => by
    have ne : x ≠ s + 1 := by unfold Stb at hx; omega
    rw [((nb.nx FB).oth (SB.2.2.1 x hx) ne).2.2.2 (fun ⟨i, hi, u⟩ => by
      have := row' i (by omega)
      unfold Stb at hx
      omega), stB x hx]
  have e2' := st22 (s + 122) st122.1
  have e3' := st22 (s + 123) st122.2.1
  have e5' := st22 (s + 125) st122.2.2
  have I22 : loI L' W s g a R' k' cn cc bc un wt M22 M22 := by
    refine ⟨NX.refl nb.ok S22.2.1.1 (S22.tl c1) (S22.cl c1) S22.z9, S22, rfl, ⟨fun i hi => ?_, fun i hi => (bg i hi).2.2⟩, lhs_same L9 e2' e3', unk_same U9 (fun x hx _ => st22 x hx) (st22 (s + 126) st126), fun i hi => ⟨wto_same (hw i hi).1 e2' e3' e5' (by rw [gi22 6 (by decide), giB 6 (by decide)]), (hw i hi).2⟩, rfl⟩
    obtain ⟨b1', b3', -⟩ := bg i hi
    have p1' : (1 : Int) < 2 ^ (30 * 17) := Int.lt_of_lt_of_le (show (1 : Int) < 2 ^ (30 * 1) by decide) (p30m (by decide))
    rw [b3']
    exact ⟨by decide, p1', by rcases b1' with e | e <;> rw [e] <;> omega⟩
  have wr' : ∀ i, i < k' → 17 ≤ W (mR M22 R' i + 1) ∧ 17 ≤ W (mR M22 R' i + 3) := fun i hi => by
    rw [eR22]
    by_cases c : i < k
    · rw [p1 i c, I9.2.1.2.2.1]; exact hWr i c
    · rw [(p2 i (by omega) hi).1]
      exact ⟨(hWn _ (by omega)).1, (hWn _ (by omega)).1⟩
  refine ⟨nb.ok, s_wo45 (d := d) (wt := wt) (un := un) c1 k5 (by omega) wr' hWs hW b1 hB (fun M4 M30 hI e30' => ?_) 1000000 0 1 M22 (by omega) (by omega) (Or.inr rfl) I22⟩
  refine ⟨Or.inr ⟨rfl, M9, L', R', k', MB, M22, un, wt, M4, I9, gw, te, gr, ⟨c1, c2, k5⟩, p1, p2, nb, hI, e30', ?_⟩, few 0 (Or.inr ⟨le, rfl⟩)⟩
  funext j
  rw [mI_ui _ j e30', if_neg (fun u => nas (s + 30) st30 u.1), hI.2.2.2.2.2.2.2, st22 (s + 30) st30, e30]
end NBZ
end
section
/-! The class's top: division by 0, whole parts, digits. -/
section NCA
variable {G : mG} {d a b q e z n s x t pr st : Nat} {M M0 M' M1 M2 M3 : mM} {L : List Nat} {W : Nat → Nat}
theorem f_divide0 (hO : mOk M) (hF : NF L W M) (hb : b ∈ L) (hq : q ∈ L) (bq : b ≠ q) (hb0 : nv M b = 0) : Cv G y_Na_divide (d + 3) [vr a, vr b, vr q, vr e] M (fun M' => NC L W (fun x => x = q) M M' ∧ nv M' q = 0) := by
  refine k_Na_divide hO ⟨hF.kd hq, (f_put0 (d := d + 2) ⟨by decide, by decide⟩ hO hF hq).mono (fun M2 k2 => ?_)⟩
  obtain ⟨c1, v1⟩ := k2
  have F1 := c1.nf
  have z0 : sz M2 b = 0 := (F1.sz0 hb).2 (by rw [c1.v hF hb bq]; exact hb0)
  have tb := F1.nt hb
  rw [tb.2.1, z0]
  exact ⟨c1.ok, F1.kd hb, fun u => absurd rfl u, fun _ => ⟨c1, v1⟩, fun u => absurd (Or.inl rfl) u⟩
/-- how often a divisor is in a number, 0 for a divisor of 0 -/
theorem f_wholePartZ (hO : mOk M) (hF : NF L W M) (hS : SK L M z) (ha : a ∈ L) (hb : b ∈ L) (ab : a ≠ b) (na : ¬ T4 z a) (nb : ¬ T4 z b) (wa : sz M a + 2 ≤ W a) (w5 : sz M a + 1 ≤ W (z + 5)) (w7 : sz M b + 1 ≤ W (z + 7)) : Ci G y_Sc_wholePart (d + 4) [vr z, vr a, vr b] M (fun x M' => NC L W (fun x => x = a ∨ x = z + 5 ∨ x = z + 7) M M' ∧ 0 ≤ x ∧ x < 1073741824) := by
  by_cases b0 : 0 < nv M b
  · exact (f_wholePart (d := d) hO hF hS ha hb ab na nb b0 wa w5 w7).mono (fun x M' k => ⟨k.1, k.2.2.1, k.2.2.2.1⟩)
  · have z0 : nv M b = 0 := by have := hF.nn0 hb; omega
    obtain ⟨⟨k1, k1'⟩, ⟨-, -, r2, r3, -⟩, -, -, -, ⟨-, -, m5, m7, -⟩, -⟩ := id hS
    have b5 : b ≠ z + 5 := fun e => nb (Or.inr (Or.inr (Or.inl e)))
    refine k_Sc_wholePart hO ?_
    rw [r2, r3]
    refine ⟨k1, hF.kd ha, (f_divide0 (d := d) hO hF hb m5 b5 z0).mono (fun M3 k => ?_)⟩
    obtain ⟨c, v⟩ := k
    have hF3 := c.nf
    have hS3 := (c.nl (I := fun _ => False) (r := False) noI hS.z9).sk hF hS
    obtain ⟨⟨j1, -⟩, ⟨-, -, j2, -⟩, -⟩ := id hS3
    have t5 := hF3.nt m5
    have q0 : sz M3 (z + 5) = 0 := (hF3.sz0 m5).2 v
    rw [j2, t5.2.1, q0]
    refine ⟨c.ok, j1, hF3.kd m5, fun u => absurd rfl u, fun v11 e11 => ?_⟩
    rw [if_pos (show ((0 : Nat) : Int) = 0 from rfl)] at e11
    rw [e11]
    refine ⟨c.mono (fun t ht => Or.inr (Or.inl ht)) (fun t ht => ?_) hF, by decide, by decide⟩
    rcases ht with u | u | u
    · rw [u]; exact ha
    · rw [u]; exact m5
    · rw [u]; exact m7
theorem i2c_b (x : Int) (h : 48 ≤ x ∧ x < 58) : 0 ≤ i2cI x ∧ i2cI x < 65536 := by
  obtain ⟨n, hn, e⟩ : ∃ n : Nat, n < 58 ∧ x = ((n : Nat) : Int) := ⟨x.toNat, by omega, by omega⟩
  have : ∀ n : Nat, n < 58 → 0 ≤ i2cI ((n : Nat) : Int) ∧ i2cI ((n : Nat) : Int) < 65536 := by decide
  rw [e]
  exact this n hn
/-- printed characters -/
def Pch (M : mM) (pr : Nat) : Prop := ∀ j, j < 400 → 0 ≤ mI M pr j ∧ mI M pr j < 65536
/-- the printer's places: t the object, pr its characters, n its number -/
def Prt (L : List Nat) (M : mM) (t pr n : Nat) : Prop := (mK M t = 1 ∧ mR M t 15 = n ∧ mR M t 17 = pr) ∧ (mK M pr = 32 ∧ mN M pr = 400) ∧ (Oc L M t ∧ Oc L M pr ∧ t ≠ pr) ∧ n ∈ L ∧ Pch M pr
def Cpr (t pr x : Nat) : Prop := x = t ∨ x = pr
/-- while digits are printed: at most p characters -/
def pnI (L : List Nat) (W : Nat → Nat) (z t pr n p : Nat) (M0 M : mM) : Prop := NX L W (fun x => x = n) (Cpr t pr) False z M0 M ∧ Prt L M t pr n ∧ ∃ c : Nat, mI M t 18 = ((c : Nat) : Int) ∧ c ≤ p ∧ ∀ i, i ≠ 18 → mI M t i = mI M0 t i
theorem Prt.nx (h : Prt L M t pr n) (q : NX L W (fun x => x = n) (Cpr t pr) False z M M') (hF : NF L W M) (nz : t ≠ z ∧ pr ≠ z) (hp : Pch M' pr) : Prt L M' t pr n := by
  obtain ⟨⟨h1, h2, h3⟩, ⟨h4, h5⟩, ⟨h6, h7, h8⟩, h9, -⟩ := h
  have ot := q.oth h6 nz.1
  have op := q.oth h7 nz.2
  exact ⟨⟨by rw [ot.1]; exact h1, by rw [ot.2.2.1]; exact h2, by rw [ot.2.2.1]; exact h3⟩, ⟨by rw [op.1]; exact h4, by rw [op.2.1]; exact h5⟩, ⟨q.oc hF h6, q.oc hF h7, h8⟩, h9, hp⟩
theorem Prt.cl (h : Prt L M t pr n) : ∀ x, Cpr t pr x → Oc L M x := fun x u => u.elim (fun u => by rw [u]; exact h.2.2.1.1) (fun u => by rw [u]; exact h.2.2.1.2.1)
theorem Prt.tl (h : Prt L M t pr n) : ∀ x, (fun x => x = n) x → x ∈ L := fun x u => by rw [u]; exact h.2.2.2.1
/-- a character is printed -/
theorem pn_put {p : Nat} {v : Int} {c : Nat} (hI : pnI L W z t pr n p M0 M) (nz : t ≠ z ∧ pr ≠ z) (hz : z < mZ M ∧ mK M z = 9) (hc : mI M t 18 = ((c : Nat) : Int)) (hcp : c ≤ p) (hp : p + 1 ≤ 400) (e1 : M1 = mUI M t 18 (((c : Nat) : Int) + 1)) (hv : 0 ≤ v ∧ v < 65536) (e2 : M2 = mUI M1 pr c v) : pnI L W z t pr n (p + 1) M0 M2 ∧ (∀ b, b ∈ L → nv M2 b = nv M b) := by
  obtain ⟨hN, hP, c0, -, -, oi⟩ := hI
  obtain ⟨⟨h1, h2, h3⟩, ⟨h4, h5⟩, ⟨h6, h7, h8⟩, h9, h10⟩ := id hP
  have f1 : FI (Cpr t pr) M M1 := by rw [e1]; exact FI.ui (Or.inl rfl)
  have f2 : FI (Cpr t pr) M1 M2 := by rw [e2]; exact FI.ui (Or.inr rfl)
  have o2 : mOk M2 := by rw [e2]; exact mOk_UI (by rw [e1]; exact mOk_UI hN.ok ⟨by omega, by omega⟩) ⟨by omega, by omega⟩
  have ff := f1.trans f2
  obtain ⟨x, v'⟩ := ff.nx (T := fun x => x = n) (r := False) (z := z) o2 hN.nf hP.tl hP.cl hz
  have pp : Pch M2 pr := fun j hj => by
    rw [mI_ui pr j e2]
    by_cases cj : pr = pr ∧ j = c
    · rw [if_pos cj]; exact hv
    · rw [if_neg cj, mI_ui pr j e1, if_neg (fun u => h8 u.1.symm)]; exact h10 j hj
  have ti : ∀ i, mI M2 t i = if i = 18 then ((c : Nat) : Int) + 1 else mI M t i := fun i => by
    rw [mI_ui t i e2, if_neg (fun u => h8 u.1), mI_ui t i e1]
    by_cases ci : i = 18
    · rw [if_pos ⟨rfl, ci⟩, if_pos ci]
    · rw [if_neg (fun u => ci u.2), if_neg ci]
  exact ⟨⟨hN.trans x, hP.nx x hN.nf nz pp, c + 1, by rw [ti, if_pos rfl]; omega, by omega, fun i hi => by rw [ti, if_neg hi]; exact oi i hi⟩, v'⟩
end NCA
end
section
/-! The class's top: a number is printed. -/
section NCB
variable {G : mG} {d a b z n x t pr st p : Nat} {M M0 M' M1 M2 M3 : mM} {L : List Nat} {W : Nat → Nat}
theorem NX.z9 {T C : Nat → Prop} {r : Prop} (h : NX L W T C r z M M') : z < mZ M' ∧ mK M' z = 9 := ⟨Nat.lt_of_lt_of_le h.2.1.2.2.1 h.2.2.1.1.1, by rw [h.kind h.2.1.2.2.1]; exact h.2.1.2.2.2⟩
/-- turning the characters round -/
theorem s_pn144 {Q : mM → Prop} (nz : t ≠ z ∧ pr ≠ z) (hQ : ∀ M', pnI L W z t pr n p M0 M' → Q M') : ∀ (k : Nat) (lo hi : Int) (M : mM), hi - lo ≤ k → 0 ≤ lo → lo < 400 → -1 ≤ hi → hi < 400 → pnI L W z t pr n p M0 M → h_CA_printNumber_144 G d t lo hi M Q := by
  intro k
  induction k with
  | zero =>
    intro lo hi M h1 h2 h2' h3 h4 hI
    exact k_CA_printNumber_144 hI.1.ok ⟨by omega, by omega⟩ ⟨by omega, by omega⟩ ⟨fun _ => hQ M hI, fun u => absurd (by omega) u⟩
  | succ k ih =>
    intro lo hi M h1 h2 h2' h3 h4 hI
    refine k_CA_printNumber_144 hI.1.ok ⟨by omega, by omega⟩ ⟨by omega, by omega⟩ ⟨fun _ => hQ M hI, fun u => ?_⟩
    obtain ⟨hN, hP, c, hc, hcp, oi⟩ := id hI
    obtain ⟨⟨e1, e2, e3⟩, ⟨k1, n1⟩, ⟨o1, o2, ne⟩, mn, hp⟩ := id hP
    obtain ⟨l, el⟩ : ∃ l : Nat, lo = ((l : Nat) : Int) := ⟨lo.toNat, by omega⟩
    obtain ⟨h, eh⟩ : ∃ h : Nat, hi = ((h : Nat) : Int) := ⟨hi.toNat, by omega⟩
    subst el
    subst eh
    have pl := hp l (by omega)
    have ph := hp h (by omega)
    rw [e3, n1, Int.toNat_natCast, Int.toNat_natCast]
    refine ⟨e1, k1, ⟨by omega, by omega⟩, ⟨by omega, by omega⟩, ⟨by omega, by omega⟩, ph, fun M70 e70 => ?_⟩
    have f70 : FI (Cpr t pr) M M70 := by rw [e70]; exact FI.ui (Or.inr rfl)
    rw [f70.1, f70.2.1, f70.2.2.1, e3, n1]
    refine ⟨k1, ⟨by omega, by omega⟩, pl, fun M75 e75 => ?_⟩
    have f75 : FI (Cpr t pr) M70 M75 := by rw [e75]; exact FI.ui (Or.inr rfl)
    have o75 : mOk M75 := by rw [e75]; exact mOk_UI (by rw [e70]; exact mOk_UI hN.ok ⟨by omega, by omega⟩) ⟨by omega, by omega⟩
    obtain ⟨xx, -⟩ := (f70.trans f75).nx (T := fun x => x = n) (r := False) (z := z) o75 hN.nf hP.tl hP.cl hN.z9
    have pp : Pch M75 pr := fun j hj => by
      rw [mI_ui pr j e75]
      by_cases cj : pr = pr ∧ j = h
      · rw [if_pos cj]; exact pl
      · rw [if_neg cj, mI_ui pr j e70]
        by_cases cj2 : pr = pr ∧ j = l
        · rw [if_pos cj2]; exact ph
        · rw [if_neg cj2]; exact hp j hj
    have tt : mI M75 t = mI M t := by
      funext i
      rw [mI_ui t i e75, if_neg (fun u => ne u.1), mI_ui t i e70, if_neg (fun u => ne u.1)]
    exact ih _ _ M75 (by omega) (by omega) (by omega) (by omega) (by omega) ⟨hN.trans xx, hP.nx xx hN.nf nz pp, c, by rw [tt]; exact hc, hcp, fun i hi => by rw [tt]; exact oi i hi⟩
/-- nine digits -/
theorem s_pn68 {Q : mM → Prop} {l2 l3 : Int} {b5 : Int} {v : Int} (h2 : i32 l2) (h3 : i32 l3) (h5 : b5 = 0 ∨ b5 = 1) (nz : t ≠ z ∧ pr ≠ z) (hp : p + 9 ≤ 400) (hQ : ∀ M', pnI L W z t pr n (p + 9) M0 M' → nv M' n = v → h_CA_printNumber_15 G d t l2 (l3 + 1) M' Q) : ∀ (k i : Nat) (nine : Int) (M : mM), 9 ≤ i + k → i ≤ 9 → 0 ≤ nine → nine < 1000000000 → pnI L W z t pr n (p + i) M0 M → nv M n = v → h_CA_printNumber_68 G d t l2 l3 nine b5 i M Q := by
  have up : ∀ {i : Nat} {M : mM}, i ≤ 9 → pnI L W z t pr n (p + i) M0 M → pnI L W z t pr n (p + 9) M0 M := fun hi h => by
    obtain ⟨a1, a2, c, a3, a4, a5⟩ := h
    exact ⟨a1, a2, c, a3, by omega, a5⟩
  intro k
  induction k with
  | zero =>
    intro i nine M h1 h2' h6 h7 hI hv
    exact k_CA_printNumber_68 hI.1.ok h2 h3 ⟨by omega, by omega⟩ (m_b32 h5) ⟨by omega, by omega⟩ ⟨fun _ => hQ M (up h2' hI) hv, fun u => absurd (Or.inl (by omega)) u⟩
  | succ k ih =>
    intro i nine M h1 h2' h6 h7 hI hv
    refine k_CA_printNumber_68 hI.1.ok h2 h3 ⟨by omega, by omega⟩ (m_b32 h5) ⟨by omega, by omega⟩ ⟨fun _ => hQ M (up h2' hI) hv, fun u => ?_⟩
    have i9 : i < 9 := by
      by_cases c : (9 : Int) ≤ i
      · exact absurd (Or.inl c) u
      · omega
    obtain ⟨hN, hP, c, hc, hcp, oi⟩ := id hI
    obtain ⟨⟨e1, e2, e3⟩, ⟨k1, n1⟩, ⟨o1, o2, ne⟩, mn, hp'⟩ := id hP
    have tm : Int.tmod nine 10 = nine % 10 := Int.tmod_eq_emod_of_nonneg h6
    have td : Int.tdiv nine 10 = nine / 10 := Int.tdiv_eq_ediv_of_nonneg h6
    rw [hc, e3, tm, td]
    have cb := i2c_b (48 + nine % 10) ⟨by omega, by omega⟩
    refine ⟨e1, ⟨by omega, by omega⟩, fun M46 e46 => ?_⟩
    have f46 : FI (Cpr t pr) M M46 := by rw [e46]; exact FI.ui (Or.inl rfl)
    rw [f46.1, f46.2.1, n1, Int.toNat_natCast]
    refine ⟨k1, ⟨by omega, by omega⟩, cb, fun M51 e51 => ?_⟩
    obtain ⟨I2, v2⟩ := pn_put hI nz hN.z9 hc hcp (by omega) e46 cb e51
    rw [show ((i : Int) + 1) = ((i + 1 : Nat) : Int) by omega]
    exact ih (i + 1) _ M51 (by omega) (by omega) (by omega) (by omega) I2 (by rw [v2 n mn]; exact hv)
theorem p9 (k : Nat) : (1000000000 : Int) ^ (k + 1) = 1000000000 * 1000000000 ^ k := by rw [Int.pow_succ, Int.mul_comm]
/-- the digits of a number, from the place st on -/
theorem s_CA_printNumber (hO : mOk M) (hF : NF L W M) (hP : Prt L M t pr n) (nz : t ≠ z ∧ pr ≠ z) (hz : z < mZ M ∧ mK M z = 9) (ha : a ∈ L) (na : n ≠ a) (hv : nv M a < 2 ^ (30 * 17)) (wn : 17 ≤ W n) (hs : mI M t 18 = ((st : Nat) : Int)) (hst : st + 162 ≤ 400) : Cv G y_CA_printNumber (d + 2) [vr t, vr a] M (pnI L W z t pr n (st + 162) M) := by
  obtain ⟨⟨e1, e2, e3⟩, ⟨k1, n1⟩, ⟨o1, o2, ne⟩, mn, hp⟩ := id hP
  refine k_CA_printNumber hO ?_
  rw [e2]
  refine ⟨e1, hF.kd mn, (f_put1 (d := d) hO hF mn ha na (by have := hF.szv ha hv; omega)).mono (fun M3 q => ?_)⟩
  obtain ⟨c3, v3⟩ := q
  have x3 : NX L W (fun x => x = n) (Cpr t pr) False z M M3 := c3.nx hP.cl hz
  have ot := c3.oth o1
  have op := c3.oth o2
  have P3 : Prt L M3 t pr n := hP.nx x3 hF nz (fun j hj => by rw [op.2.2.2]; exact hp j hj)
  have hs3 : mI M3 t 18 = ((st : Nat) : Int) := by rw [ot.2.2.2]; exact hs
  have big : (2 : Int) ^ (30 * 17) ≤ 1000000000 ^ 18 := by decide +kernel
  rw [hs3]
  refine ⟨c3.ok, P3.1.1, ?_⟩
  suffices HH : ∀ (k i : Nat) (M1 : mM), 18 ≤ i + k → i ≤ 18 → pnI L W z t pr n (st + 9 * i) M M1 → nv M1 n < 1000000000 ^ (18 - i) → h_CA_printNumber_15 G (d + 1) t st i M1 (pnI L W z t pr n (st + 162) M) from
    HH 18 0 M3 (by omega) (by omega) ⟨x3, P3, st, hs3, by omega, fun i _ => by rw [ot.2.2.2]⟩ (by rw [v3]; exact Int.lt_of_lt_of_le hv big)
  have up : ∀ {i : Nat} {M : mM} {M0 : mM}, i ≤ 18 → pnI L W z t pr n (st + 9 * i) M0 M → pnI L W z t pr n (st + 162) M0 M := fun hi h => by
    obtain ⟨a1, a2, c, a3, a4, a5⟩ := h
    exact ⟨a1, a2, c, a3, by omega, a5⟩
  have turn : ∀ (i : Nat) (M1 : mM), i ≤ 18 → pnI L W z t pr n (st + 9 * i) M M1 → mK M1 t = 1 ∧ h_CA_printNumber_144 G (d + 1) t st ((mI M1 t 18) - 1) M1 (pnI L W z t pr n (st + 162) M) := fun i M1 hi hI => by
    have hI' := up hi hI
    obtain ⟨-, hP1, c, hc, hcp, -⟩ := id hI'
    rw [hc]
    exact ⟨hP1.1.1, s_pn144 nz (fun M' h => h) 400 _ _ M1 (by omega) (by omega) (by omega) (by omega) (by omega) hI'⟩
  intro k
  induction k with
  | zero =>
    intro i M1 h1 h2 hI hv1
    have ei : i = 18 := by omega
    subst ei
    obtain ⟨hN, hP1, -⟩ := id hI
    have m1 := hP1.2.2.2.1
    have z0 : sz M1 n = 0 := (hN.nf.sz0 m1).2 (by
      have := hN.nf.nn0 m1
      have h0 : (1000000000 : Int) ^ (18 - 18) = 1 := by decide
      omega)
    refine k_CA_printNumber_15 hN.ok ⟨by omega, by omega⟩ ⟨by omega, by omega⟩ ?_
    rw [hP1.1.2.1, (hN.nf.nt m1).2.1, z0]
    exact ⟨fun _ _ => ⟨hP1.1.1, hN.nf.kd m1⟩, fun _ => turn 18 M1 (Nat.le_refl _) hI, fun u => absurd (Or.inr ⟨by decide, by decide⟩) u⟩
  | succ k ih =>
    intro i M1 h1 h2 hI hv1
    by_cases ei : i = 18
    · exact ih i M1 (by omega) h2 hI hv1
    obtain ⟨hN, hP1, -⟩ := id hI
    have m1 := hP1.2.2.2.1
    refine k_CA_printNumber_15 hN.ok ⟨by omega, by omega⟩ ⟨by omega, by omega⟩ ?_
    rw [hP1.1.2.1]
    refine ⟨fun _ _ => ⟨hP1.1.1, hN.nf.kd m1⟩, fun _ => turn i M1 h2 hI, fun _ => ⟨hP1.1.1, hN.nf.kd m1, (f_divideSmall (d := d + 1) (dv := 1000000000) ⟨by decide, by decide⟩ hN.ok hN.nf m1).mono (fun x19 M18 q => ?_)⟩⟩
    obtain ⟨c18, hx, v18⟩ := q
    have x18 : NX L W (fun x => x = n) (Cpr t pr) False z M1 M18 := c18.nx hP1.cl hN.z9
    have ot1 := c18.oth hP1.2.2.1.1
    have op1 := c18.oth hP1.2.2.1.2.1
    have P18 : Prt L M18 t pr n := hP1.nx x18 hN.nf nz (fun j hj => by rw [op1.2.2.2]; exact hP1.2.2.2.2 j hj)
    have n18 := c18.nf.nn0 m1
    have vb : nv M18 n < 1000000000 ^ (18 - (i + 1)) := by
      rw [show 18 - i = (18 - (i + 1)) + 1 by omega, p9] at hv1
      omega
    have I18 : pnI L W z t pr n (st + 9 * i) M M18 := by
      obtain ⟨-, -, c, hc, hcp, oi⟩ := hI
      exact ⟨hN.trans x18, P18, c, by rw [ot1.2.2.2]; exact hc, hcp, fun j hj => by rw [ot1.2.2.2]; exact oi j hj⟩
    rw [P18.1.2.1]
    refine ⟨⟨by omega, by omega⟩, c18.ok, P18.1.1, c18.nf.kd m1, fun v24 e24 => ?_⟩
    have b24 : v24 = 0 ∨ v24 = 1 := by rw [e24]; split <;> omega
    refine s_pn68 (p := st + 9 * i) (v := nv M18 n) ⟨by omega, by omega⟩ ⟨by omega, by omega⟩ b24 nz (by omega) (fun M' hI' hv' => ?_) 9 0 x19 M18 (by omega) (by omega) hx.1 hx.2 I18 rfl
    rw [show ((i : Int) + 1) = ((i + 1 : Nat) : Int) by omega]
    exact ih (i + 1) M' (by omega) (by omega) (by rw [show st + 9 * (i + 1) = st + 9 * i + 9 by omega]; exact hI') (by rw [hv']; exact vb)
end NCB
end
section
/-! The class's top: questions about the game. -/
section NCC
variable {G : mG} {d t g s c cn cc bc : Nat} {M M' : mM}
theorem GR.cnt (hr : GR M g cn cc bc) : mI M g 0 = ((cn : Nat) : Int) ∧ cn ≤ 512 := by
  rcases hr with ⟨e1, e2⟩ | ⟨-, q⟩
  · exact ⟨by rw [e1]; exact e2, by omega⟩
  · exact ⟨q.1.1, q.1.2.1⟩
theorem GR.cmd (hr : GR M g cn cc bc) (c1 : 1 ≤ cn) : (cc ≤ bc ∧ bc ≤ 4096 ∧ cn ≤ 512) ∧ ∀ c, c < cc → cmdG M g cn bc c := by
  rcases hr with ⟨e1, -⟩ | ⟨-, q⟩
  · omega
  · obtain ⟨⟨-, q2, -⟩, -, -, t1, t2, t3, -⟩ := q
    exact ⟨⟨t1, t2, q2⟩, t3⟩
/-- the top with its game -/
def Tg (M : mM) (t g cn cc bc : Nat) : Prop := mOk M ∧ (mK M t = 1 ∧ mR M t 9 = g) ∧ GK M g ∧ GR M g cn cc bc
theorem s_CA_place (h : Tg M t g cn cc bc) : Ci G y_CA_place d [vr t] M (fun r M' => M' = M ∧ i32 r ∧ r = mI M t 7) := k_CA_place h.1 ⟨h.2.1.1, rfl, (h.1 _ _).1, rfl⟩
theorem s_CA_state (h : Tg M t g cn cc bc) : Ci G y_CA_state d [vr t] M (fun r M' => M' = M ∧ i32 r ∧ r = mI M t 8) := k_CA_state h.1 ⟨h.2.1.1, rfl, (h.1 _ _).1, rfl⟩
theorem s_CA_states (h : Tg M t g cn cc bc) : Ci G y_CA_states d [vr t] M (fun r M' => M' = M ∧ r = ((cn : Nat) : Int)) := by
  obtain ⟨h1, ⟨h2, h3⟩, h4, h5⟩ := h
  refine k_CA_states h1 ?_
  rw [h3]
  exact ⟨h2, h4.1, rfl, h5.cnt.1⟩
theorem s_CA_items {l : Int} {p : Nat} (il : i32 l) (h : Tg M t g cn cc bc) (hp : mR M t 4 = p ∧ mK M p = 6) : Ci G y_CA_items d [vr t, vi l] M (fun r M' => (M' = M ∧ i32 r) ∧ r = if mI M t 6 = 0 then -1 else if l = 0 then mI M p 3 else if l = 1 then mI M p 7 else if l = 2 then mI M p 12 else -1) := by
  obtain ⟨h1, ⟨h2, h3⟩, h4, h5⟩ := h
  refine k_CA_items h1 il ?_
  rw [hp.1]
  have m1 : (M = M ∧ i32 (-1)) := ⟨rfl, by decide, by decide⟩
  exact ⟨h2, fun u => ⟨m1, by rw [if_pos u]⟩, fun u => ⟨fun u0 => ⟨hp.2, ⟨rfl, (h1 _ _).1⟩, by rw [if_neg u, if_pos u0]⟩, fun u0 => ⟨fun u1 => ⟨hp.2, ⟨rfl, (h1 _ _).1⟩, by rw [if_neg u, if_neg u0, if_pos u1]⟩, fun u1 => ⟨fun u2 => ⟨hp.2, ⟨rfl, (h1 _ _).1⟩, by rw [if_neg u, if_neg u0, if_neg u1, if_pos u2]⟩, fun u2 => ⟨m1, by rw [if_neg u, if_neg u0, if_neg u1, if_neg u2]⟩⟩⟩⟩⟩
theorem s_CA_next {l1 l2 : Int} (i1 : i32 l1) (i2 : i32 l2) (h : Tg M t g cn cc bc) : Ci G y_CA_next (d + 2) [vr t, vi l1, vi l2] M (fun r M' => M' = M ∧ i32 r) := by
  obtain ⟨h1, ⟨h2, h3⟩, h4, h5⟩ := h
  have hc := h5.cnt
  obtain ⟨g0, ⟨-, -, g3, -⟩, ⟨-, -, k3, -⟩, ⟨-, -, n3, -⟩⟩ := id h4
  refine k_CA_next h1 i1 i2 ?_
  rw [h3]
  refine ⟨h2, g0, (s_Ga_hasState i1 h1 g0 hc.1).mono (fun x4 M3 q => ?_)⟩
  obtain ⟨e, hx, hi⟩ := q
  subst e
  rw [h3, g3, n3]
  refine ⟨m_b32 hx, h1, fun _ => ⟨rfl, by decide, by decide⟩, fun u => ?_⟩
  have b := hi.mp (fun w => u (Or.inl w))
  refine ⟨h2, g0, k3, by omega, (s_Ga_commandAt (d := d) i1 (h1 _ _).1 h1 h4 h5).mono (fun x16 M15 q => ?_)⟩
  obtain ⟨e, hx16, hi16⟩ := q
  subst e
  refine ⟨hx16, h1, fun _ => ⟨rfl, i1⟩, fun u16 => ?_⟩
  rcases hi16 with w | w
  · exact absurd w u16
  obtain ⟨b1, b2⟩ := h5.cmd w.2.2
  have m := b2 x16.toNat (by omega)
  rw [h3]
  have e16 : ((x16.toNat : Nat) : Int) = x16 := by omega
  have key := s_Ga_drawn (G := G) (d := d + 1) (l2 := l2) i2 h1 h4 (by omega) b1.1 b1.2.1 b1.2.2 m
  rw [e16] at key
  exact ⟨h2, g0, key.mono (fun x25 M24 q => ⟨q.2.1, by rw [q.1]; exact h1, q.1, q.2.1⟩)⟩
end NCC
end
