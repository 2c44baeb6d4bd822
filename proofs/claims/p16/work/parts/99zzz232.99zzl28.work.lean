/-! The class's top: what workOut leaves of the numbers. -/
section NCO
variable {G : mG} {d t g s b i j a Ra n cn cc bc z w R' k' : Nat} {v R k Rn kn : Nat → Nat} {M M0 M' M1 : mM} {L L' L1 : List Nat} {W : Nat → Nat} {T C S Z : Nat → Prop} {r : Prop}
/-- a step and the cells of the numbers after it -/
def Sp (Z : Nat → Prop) (s : Nat) (v : Nat → Nat) (M M' : mM) (L : List Nat) (R k : Nat → Nat) : Prop := FC Z M M' ∧ Cnu (Zn Z M M') L s v R k M'
theorem Sp.trans {R1 k1 : Nat → Nat} (h : Sp Z s v M M1 L1 R1 k1) (q : Sp (Zn Z M M1) s v M1 M' L' Rn kn) : Sp Z s v M M' L' Rn kn := ⟨h.1.trans q.1, q.2.cg (fun _ u => (Zn.trans h.1.1.1 q.1.1.1).mp u)⟩
theorem Cnu.sp (hc : Cnu Z L s v R k M) : Sp Z s v M M L R k := ⟨FC.refl, hc.cg (fun _ u => Or.inl u)⟩
/-- what a step on table i leaves of the numbers -/
def nmQ (Z : Nat → Prop) (L : List Nat) (W : Nat → Nat) (s g b cn cc bc : Nat) (v k : Nat → Nat) (i : Nat) (M M' : mM) : Prop := ∃ L' Rn kn, Nms L' W s g b cn cc bc v Rn kn M' ∧ Sp Z s v M M' L' Rn kn ∧ Rq L k M L' kn M' ∧ (∀ j, j ≤ 9 → mI M' (g + j) = mI M (g + j)) ∧ (∀ j, j < 4 → j ≠ i → mI M' (v j) = mI M (v j))
theorem Sva.stk (h : Sva L W s g a Ra n cn cc bc M) : ∀ x, Sta s a x → mK M x ≠ 11 := fun x u => by
  have ka := h.2.2.2.2.1.1
  obtain ⟨⟨-, ⟨⟨s0, -⟩, -, ⟨k1, k2, k3, k4, k5, k6, k7, k8, k9⟩, -⟩, -⟩, -⟩ := id h
  rcases u with u | u
  · rw [u]; omega
  · unfold Stb at u
    rcases u with u | u | u | u | u | u | u | u | u | u <;> rw [u] <;> omega
/-- workOut's beginning -/
theorem Nms.wo (h : Nms L W s g b cn cc bc v R k M) (hc : Cnu Z L s v R k M) (i4 : i < 4) (wo : woI L W s g (v i) (R i) (k i) cn cc bc M M1) : Nms L W s g b cn cc bc v R k M1 ∧ Sp Z s v M M1 L R k ∧ Rq L k M L k M1 ∧ (∀ j, j ≤ 9 → mI M1 (g + j) = mI M (g + j)) ∧ (∀ j, j < 4 → j ≠ i → mI M1 (v j) = mI M (v j)) := by
  have sv := h.1.sva h.2.2.1.1 (h.2.1.1 i i4)
  obtain ⟨o1, f1, S1, e30, fl⟩ := wo
  have vj : ∀ j, j < 4 → j ≠ i → mI M1 (v j) = mI M (v j) := fun j hj ji => f1.2.2.2.2.2.2 _ (fun u => by
    rcases u with u | u
    · exact (h.2.1.2 j i hj i4 ji).2.1 u
    · have := (h.2.1.1 j hj).2.2.2.2.1
      unfold Stb at u
      omega)
  refine ⟨h.fi f1 o1 (fun x u => ⟨sv.sta x u, sv.stk x u⟩) S1.sb (fun j hj j2 => ?_), ⟨f1.fc (fun x u => ?_), f1.cnu hc⟩, f1.rq, fun j hj => f1.2.2.2.2.2.2 _ (sv.gst hj), vj⟩
  · by_cases c : j = i
    · subst c; exact Or.inr fl
    · exact Or.inl (by rw [vj j hj c])
  · rcases u with u | u
    · rw [u]; exact (hc.2.2.1 i i4).1
    · exact hc.1 x (by unfold Stb at u; omega) (by unfold Stb at u; omega)
/-- the list grows -/
theorem Nms.gro (h : Nms L W s g b cn cc bc v R k M) (q : Gro s M M') : Nms L W s g b cn cc bc v R k M' ∧ Sva L W s g (v 0) (R 0) (k 0) cn cc bc M' ∧ Ot L M' s (mZ M) 2400 ∧ (∀ x, x < mZ M → mI M' x = mI M x) ∧ (∀ a, a ∈ L → cp M' a = cp M a ∧ mR M' a = mR M a) := by
  have hz : s + 134 < mZ M := by
    have := h.2.2.1
    omega
  have sv := h.1.sva h.2.2.1.1 (h.2.1.1 0 (by decide))
  obtain ⟨S', ot, ls, I', -⟩ := sv.gro hz q
  have hF := h.1.2.1.1
  have os := h.1.2.2.1 s (Or.inl rfl)
  have b1 := h.2.2.1.1
  have zz := q.new.2.2.1
  refine ⟨(h.keep0 ⟨by omega, fun x a1 a2 => q.sm (by omega) (by omega), fun a ha => ⟨q.sm (hF.lt ha).1 (fun u => os.2.1 (by rw [← u]; exact ha)), q.sm (hF.lt ha).2 (os.2.2 a ha)⟩, fun i hi => ?_⟩ S'.1 (fun i hi i2 => Or.inr (Or.inl ⟨by rw [I' _ (h.2.1.1 i hi).1.2.2.2.2.1.1.1], rfl⟩))).1, S', ot, I', fun a ha => ⟨(ls a ha).2.1, (ls a ha).2.2⟩⟩
  have ti := h.2.1.1 i hi
  have l5 := ti.2.2.2.2
  have sv' := q.sm ti.1.2.2.2.2.1.1.1 (show v i ≠ s by omega)
  exact ⟨⟨sv'.1, sv'.2.2.1⟩, q.sm ti.1.2.2.2.2.1.2.1 (by omega), fun j hj => q.sm (ti.1.2.2.2.2.2 j hj).1.2.2 (by have := ti.2.1 j hj; omega)⟩
theorem Nms.cgr {R2 k2 : Nat → Nat} (h : Nms L W s g b cn cc bc v R k M) (e : ∀ i, i < 4 → R2 i = R i ∧ k2 i = k i) : Nms L W s g b cn cc bc v R2 k2 M := ⟨h.1, ⟨fun i hi => by rw [(e i hi).1, (e i hi).2]; exact h.2.1.1 i hi, fun i j hi hj ij => by rw [(e i hi).1, (e i hi).2, (e j hj).1, (e j hj).2]; exact h.2.1.2 i j hi hj ij⟩, h.2.2.1, fun i hi i2 => by rw [(e i hi).1, (e i hi).2]; exact h.2.2.2 i hi i2⟩
theorem up1_id {f : Nat → Nat} : up1 f i (f i) = f := by
  funext j
  unfold up1
  split
  · rename_i e; rw [e]
  · rfl
theorem Nms.gr1 {M5 : mM} {O' n' : Nat} (h : Nms L W s g b cn cc bc v R k M) (hc : Cnu Z L s v R k M) (q : gr1 s M M5 (R 4) (k 4) O' n') : Nms L W s g b cn cc bc v (up1 R 4 O') (up1 k 4 n') M5 ∧ Sp Z s v M M5 L (up1 R 4 O') (up1 k 4 n') ∧ Rq L k M L (up1 k 4 n') M5 ∧ ∀ x, x < mZ M → mI M5 x = mI M x := by
  rcases q with ⟨e, e1, e2⟩ | ⟨e0, gq, e1, e2⟩
  · rw [e, e1, e2, up1_id, up1_id]
    exact ⟨h, hc.sp, Rq.refl, fun _ _ => rfl⟩
  obtain ⟨N, S', ot, I', ls⟩ := h.gro gq
  obtain ⟨c1, c2, c3, c4, c5, c6⟩ := hc
  obtain ⟨z1, z2, z3, z4, -⟩ := gq.new
  obtain ⟨w1, w2, w3, w4, w5⟩ := gq.own c6.1
  have n0 : ∀ j, j < 4 → up1 R 4 O' j = R j ∧ up1 k 4 n' j = k j := fun j hj => ⟨up1_n (by omega), up1_n (by omega)⟩
  rw [e1, e2] at n0 ⊢
  refine ⟨N.cgr n0, ⟨⟨⟨by omega, by omega⟩, fun x hx => ?_⟩, fun x a1 a2 => Or.inl (c1 x a1 a2), fun a ha => ?_, fun i hi => ?_, ?_, ?_, c6.sm (fun a ha => (ls a ha).2) (by omega)⟩, ?_, I'⟩
  · by_cases c : x = s
    · rw [c]
      exact ⟨w1, w2, fun nz => absurd (c1 s (Nat.le_refl _) (by omega)) nz⟩
    · have sm := gq.sm hx c
      exact ⟨sm.1, sm.2.1, fun _ => ⟨gq.lng hx, sm.2.2.1, sm.2.2.2⟩⟩
  · rw [(ls a ha).2]
    exact ⟨Or.inl (c2 a ha).1, Or.inl (c2 a ha).2⟩
  · have ti := h.2.1.1 i hi
    have l5 := ti.2.2.2.2
    have sR := gq.sm ti.1.2.2.2.2.1.2.1 (show R i ≠ s by omega)
    rw [(n0 i hi).1, (n0 i hi).2, sR.2.2.1]
    exact ⟨Or.inl (c3 i hi).1, Or.inl (c3 i hi).2.1, fun j hj => Or.inl ((c3 i hi).2.2 j hj)⟩
  · rw [up1_s]
    exact Or.inr ⟨Nat.le_refl _, by omega⟩
  · rw [up1_s, up1_s]
    exact ot
  · have q0 := (n0 0 (by decide)).2
    have q1 := (n0 1 (by decide)).2
    have q2 := (n0 2 (by decide)).2
    have q3 := (n0 3 (by decide)).2
    have p1 : psum (cp M5) L = psum (cp M) L := psum_cg L (fun a ha => (ls a ha).1)
    have p2 : psum (fun p => cp M5 p / 4) L = psum (fun p => cp M p / 4) L := psum_cg L (fun a ha => by show cp M5 a / 4 = cp M a / 4; rw [(ls a ha).1])
    unfold Rq Pn Qn
    rw [q0, q1, q2, q3, up1_s, p1, p2, e0]
    refine ⟨by omega, by omega, Nat.le_refl _, fun _ u => u, fun f u => u.sm (gq.sm u.1.2.2 (fun e => ?_)) (by omega)⟩
    have k11 := u.1.1
    rw [e, h.1.1.2.1.1.1] at k11
    exact absurd k11 (by decide)
theorem Nms.work {kp : Int} (hkp : i32 kp) (h : Nms L W s g b cn cc bc v R k M) (hc : Cnu Z L s v R k M) (i4 : i < 4) (ht : Tld M g cn kp) (hWr : ∀ x, b ≤ x → 17 ≤ W x ∧ W x ≤ 20000) (hWs : ∀ x, s ≤ x → x ≤ s + 134 → 300 ≤ W x) : Ci G y_So_workOut (d + 8) [vr s, vi kp, vr (v i)] M (fun x M' => (x = 0 ∨ x = 5 ∨ x = 6) ∧ nmQ Z L W s g b cn cc bc v k i M M' ∧ mI M' (s + 30) = mI M (s + 30) ∧ (x ≠ 0 → mI M' (v i) 1 = 0) ∧ (x = 0 → mI M' (v i) 1 = 1) ∧ (kp = 0 → kdT (xtm M g cn) → svA9 (xtm M g cn) x)) := by
  have sv := h.1.sva h.2.2.1.1 (h.2.1.1 i i4)
  have bz := h.2.2.1
  have rb := (h.2.1.1 i i4).2.1
  refine (s_So_workOut (d := d) (B := 300) hkp sv hc.2.2.2.2.1 (h.2.1.1 i i4).2.2.2.1 (by omega) ht (fun l hl => ?_) (fun x hx => hWr x (by omega)) (fun x u => ?_) (fun x u => ?_) (by decide) (by decide)).mono (fun x M' q => ?_)
  · have := rb l hl
    exact ⟨(hWr _ (by omega)).1, (hWr _ (by omega)).1⟩
  · have := hWs x (by rcases u with u | ⟨i, hi, u⟩ <;> omega) (by rcases u with u | ⟨i, hi, u⟩ <;> omega)
    omega
  · exact hWs x (by unfold Tat Tpk T4 Tor T2 at u; omega) (by unfold Tat Tpk T4 Tor T2 at u; omega)
  obtain ⟨q, qsv⟩ := q
  rcases q with ⟨hx, wo⟩ | ⟨hx, M1, L', R', k', M2, M3, un, wt, M4, M5, O', n', M6, wo, gw, te, gr, ⟨c1, c2, k5⟩, p1, p2, nb, lo, gq, l2, eM, e30⟩
  · obtain ⟨N1, P1, Q1, G1, V1⟩ := h.wo hc i4 wo
    exact ⟨Or.inr hx, ⟨L, R, k, N1, P1, Q1, G1, V1⟩, wo.2.2.2.1, fun _ => wo.2.2.2.2, fun e => by omega, qsv⟩
  · obtain ⟨N1, P1, Q1, G1, V1⟩ := h.wo hc i4 wo
    have p2' : ∀ j, k i ≤ j → j < k' → mR M2 R' j = mZ M1 + 1 + 5 * (j - k i) := fun j a b => (p2 j a b).1
    obtain ⟨N2, S2⟩ := N1.gw i4 gw te k5 gr p1 p2' wo.2.2.2.2
    have P2 := P1.trans (gw.fc i4 P1.2 N1.2.1 te gr p1 p2')
    have Q2 := Q1.trans (rv_rq (R := R) i4 gw gr)
    have FB := S2.2.1.1
    have ti2 := N2.2.1.1 i i4
    rw [up1_s, up1_s] at ti2
    have nbx : NX L' W (Tso s M2 R' cn) (Cso s M2 R' cn) True (s + 1) M2 M3 := (nb.nx FB).mono FB (fun _ u => Or.inr (Or.inr (Or.inr u))) (S2.tl c1) (fun _ u => Or.inr (Or.inr (Or.inr (Or.inr (Or.inr u))))) (S2.cl c1) (fun u => u.elim)
    obtain ⟨lN, lS, lR, ⟨lr, lt⟩, -⟩ := lo
    have eR3 := (ti2.nx (nb.nx FB) FB).2
    obtain ⟨eT, eC⟩ := tso_e (s := s) (cn := cn) eR3
    rw [eT, eC] at lN
    have q24 := nbx.trans lN
    have hT : ∀ x, Tso s M2 R' cn x → (s ≤ x ∧ x ≤ s + 134) ∨ Trw M2 (up1 R i R' i) cn x := fun x u => by rw [up1_s]; exact tso_lo u
    have hC : ∀ x, Cso s M2 R' cn x → (s ≤ x ∧ x ≤ s + 134) ∨ Irw M2 (up1 R i R' i) cn x := fun x u => by rw [up1_s]; exact cso_lo u
    have ck : cn ≤ up1 k i k' i := by rw [up1_s]; exact c1
    have N4 : Nms L' W s g b cn cc bc v (up1 R i R') (up1 k i k') M4 := N2.nx2 i4 q24 ck hT hC lS.sb (fun _ => by rw [up1_s, up1_s]; exact fun _ => ⟨c1, lr, lt⟩)
    have V4 := (N2.nx i4 q24 ck hT hC).2.1
    have P4 := P2.trans (q24.fc FB P2.2 N2.2.1 (fun x u => by
      rcases hC x u with w | ⟨l, hl, w⟩
      · exact P2.2.1 x w.1 w.2
      · rw [w]; exact (P2.2.2.2.1 i i4).2.2 l (by omega)))
    have Q4 : Rq L k M L' (up1 k i k') M4 := Q2.trans (q24.rq FB)
    have G4 := (S2.nx c1 q24 lS.2.1.2.1).2.1
    have r4 : up1 R i R' 4 = R 4 := up1_n (by omega)
    have k4 : up1 k i k' 4 = k 4 := up1_n (by omega)
    rw [← r4, ← k4] at gq
    obtain ⟨N5, P45, Q45, I5⟩ := N4.gr1 P4.2 gq
    have P5 := P4.trans P45
    have Q5 := Q4.trans Q45
    have ri : up1 (up1 R i R') 4 O' i = R' := by rw [up1_n (by omega), up1_s]
    have ki : up1 (up1 k i k') 4 n' i = k' := by rw [up1_n (by omega), up1_s]
    have S5 := N5.1.sva N5.2.2.1.1 (N5.2.1.1 i i4)
    rw [ri, ki] at S5
    have ot5 : Ot L' M5 s O' n' := by
      have := P5.2.2.2.2.2.1
      rw [up1_s, up1_s] at this
      exact this
    have zO : Zn Z M M5 O' := by
      have := P5.2.2.2.2.1
      rw [up1_s] at this
      exact this
    obtain ⟨lN2, S6, lR2, ⟨lr2, lt2⟩, -⟩ := l2
    have hT6 : ∀ x, Tso s M5 R' cn x → (s ≤ x ∧ x ≤ s + 134) ∨ Trw M5 (up1 (up1 R i R') 4 O' i) cn x := fun x u => by rw [ri]; exact tso_lo u
    have hC6 : ∀ x, Co2 s M5 R' cn O' x → (s ≤ x ∧ x ≤ s + 134) ∨ Irw M5 (up1 (up1 R i R') 4 O' i) cn x ∨ mK M5 x = 30 := fun x u => by
      rw [ri]
      rcases u with u | u
      · exact (cso_lo u).imp id Or.inl
      · exact Or.inr (Or.inr (by rw [u]; exact ot5.1.2.1))
    have ck6 : cn ≤ up1 (up1 k i k') 4 n' i := by rw [ki]; exact c1
    have F5 := S5.2.1.1
    have N6 : Nms L' W s g b cn cc bc v (up1 (up1 R i R') 4 O') (up1 (up1 k i k') 4 n') M6 := N5.nx23 i4 lN2 ck6 hT6 hC6 S6.sb (fun _ => by rw [ri, ki]; exact fun _ => ⟨c1, lr2, lt2⟩)
    have V6 := (N5.nx3 i4 lN2 ck6 hT6 hC6).2.1
    have P6 := P5.trans (lN2.fc F5 P5.2 N5.2.1 (fun x u => by
      rcases u with u | u
      · rcases cso_lo u with w | ⟨l, hl, w⟩
        · exact P5.2.1 x w.1 w.2
        · have := (P5.2.2.2.1 i i4).2.2 l (by rw [ki]; omega)
          rw [ri] at this
          rw [w]; exact this
      · rw [u]; exact zO))
    have Q6 : Rq L k M L' (up1 (up1 k i k') 4 n') M6 := Q5.trans (lN2.rq F5)
    have gs := S5.1.2.1.1.2
    have G6 := (S5.nxg lN2 (fun j hj u => by
      rcases u with u | u
      · exact S5.gC c1 hj u
      · have := ot5.2.2
        omega) S6.2.1.2.1).2.1
    have f5 : FI (fun x => x = v i) M6 M' := by rw [eM]; exact FI.ui rfl
    have o5 : mOk M' := by rw [eM]; exact mOk_UI S6.1.1 ⟨by decide, by decide⟩
    obtain ⟨S7, n5, r5⟩ := S6.fi (f5.mono (fun x u => Or.inl u)) o5
    have P7 : Sp Z s v M M' L' (up1 (up1 R i R') 4 O') (up1 (up1 k i k') 4 n') := P6.trans ⟨f5.fc (fun x u => by rw [u]; exact (P6.2.2.2.1 i i4).1), f5.cnu P6.2⟩
    have V2 : ∀ j, j < 4 → mI M2 (v j) = mI M1 (v j) := fun j hj => (gw.2.2.2.2.1.2 _ (N1.2.1.1 j hj).1.2.2.2.2.1.1.1).2.2.2.2 (fun u => u)
    have V45 : ∀ j, j < 4 → mI M5 (v j) = mI M4 (v j) := fun j hj => I5 _ (N4.2.1.1 j hj).1.2.2.2.2.1.1.1
    have V5 : ∀ j, j < 4 → j ≠ i → mI M' (v j) = mI M6 (v j) := fun j hj ji => f5.2.2.2.2.2.2 _ (fun u => (h.2.1.2 j i hj i4 ji).2.1 u)
    have rows := S6.2.2.2.2.1.2.2.2.2.2
    refine ⟨Or.inl hx, ⟨L', up1 (up1 R i R') 4 O', up1 (up1 k i k') 4 n', ⟨S7.sb, N6.2.1.fi f5, ⟨bz.1, by rw [f5.2.2.2.2.1]; exact N6.2.2.1.2⟩, fun j hj j2 => ?_⟩, P7, Q6.trans f5.rq, fun j hj => ?_, fun j hj ji => by rw [V5 j hj ji, (V6 j hj).2, V45 j hj, (V4 j hj).2, V2 j hj, V1 j hj ji]⟩, e30, fun e => absurd hx e, fun _ => by rw [eM, mI_UI, if_pos ⟨rfl, rfl⟩], qsv⟩
    · by_cases c : j = i
      · subst c
        rw [ri, ki]
        refine fun _ => ⟨c1, fun l hl => ?_, fun l hl => ?_⟩
        · rw [f5.2.2.1, n5 _ (rows l (by omega)).2.1, n5 _ (rows l (by omega)).2.2]; exact lr2 l hl
        · rw [f5.2.2.1, r5 l (by omega)]; exact lt2 l hl
      · exact (N6.2.2.2 j hj j2).fi (N6.2.1.1 j hj) S6.2.1.1 f5 o5 S6.z9 (fun x u => by rw [u]; exact ⟨(N6.2.1.1 i i4).1.2.2.2.2.1.1, by rw [(N6.2.1.1 i i4).1.1]; decide⟩) (Or.inl (by rw [V5 j hj c]))
    · rw [f5.2.2.2.2.2.2 _ (fun e => S6.gst hj (Or.inl e)), G6 j hj, I5 _ (N4.1.2.2.2 j hj).1, G4 j hj, (gw.2.2.2.2.1.2 _ (N1.1.2.2.2 j hj).1).2.2.2.2 (fun u => u), G1 j hj]
/-- ranks and choices, and whether values hold, change no table -/
theorem Nms.sv (h : Nms L W s g b cn cc bc v R k M) (hc : Cnu Z L s v R k M) (i4 : i < 4) (hn : cn ≤ k i) (q : svQ L W s g (v i) (R i) (k i) cn cc bc M M') : nmQ Z L W s g b cn cc bc v k i M M' ∧ mI M' (v i) = mI M (v i) := by
  obtain ⟨q1, q2, q3, q4, q5⟩ := q
  have hT : ∀ x, Tso s M (R i) cn x → (s ≤ x ∧ x ≤ s + 134) ∨ Trw M (R i) cn x := fun x u => tso_lo u
  have hC : ∀ x, Cso s M (R i) cn x → (s ≤ x ∧ x ≤ s + 134) ∨ Irw M (R i) cn x := fun x u => cso_lo u
  have V := (h.nx i4 q1 hn hT hC).2.1
  refine ⟨⟨L, R, k, h.nx2 i4 q1 hn hT hC q2.sb (fun _ _ => ⟨hn, q4.1, q4.2⟩), q1.fc h.1.2.1.1 hc h.2.1 (fun x u => ?_), q1.rq h.1.2.1.1, q5, fun j hj _ => (V j hj).2⟩, (V i i4).2⟩
  rcases hC x u with w | ⟨l, hl, w⟩
  · exact hc.1 x w.1 w.2
  · rw [w]; exact (hc.2.2.1 i i4).2.2 l (by omega)
end NCO
