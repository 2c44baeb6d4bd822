section
/-! The class's top: steps of its numbers; the room they take. -/
section NCN
variable {G : mG} {d t g s b i j a Ra n cn cc bc z w R' k' : Nat} {v R k Rn kn : Nat → Nat} {M M0 M' M1 : mM} {L L' : List Nat} {W : Nat → Nat} {T C S Z : Nat → Prop} {r : Prop}
/-- the room of a table's array: the last growth may be a small one -/
def pk4 (k : Nat) : Nat := 2 * k + (if k = 512 then 512 else 0)
def Pn (L : List Nat) (k : Nat → Nat) (M : mM) : Nat := 2 * psum (cp M) L + (pk4 (k 0) + pk4 (k 1) + pk4 (k 2) + pk4 (k 3))
def Qn (L : List Nat) (k : Nat → Nat) (M : mM) : Nat := psum (fun p => cp M p / 4) L + 4 * (k 0 + k 1 + k 2 + k 3)
/-- the room that a step of numbers takes -/
def Rq (L : List Nat) (k : Nat → Nat) (M : mM) (L' : List Nat) (kn : Nat → Nat) (M' : mM) : Prop := mS M' + Pn L k M ≤ mS M + Pn L' kn M' ∧ mZ M' + Qn L k M ≤ mZ M + Qn L' kn M' ∧ L'.length + 2 * (k 0 + k 1 + k 2 + k 3) ≤ L.length + 2 * (kn 0 + kn 1 + kn 2 + kn 3) ∧ (∀ x, x ∈ L → x ∈ L') ∧ ∀ f, FrL L M f → FrL L' M' f
theorem Rq.refl : Rq L k M L k M := ⟨Nat.le_refl _, Nat.le_refl _, Nat.le_refl _, fun _ u => u, fun _ u => u⟩
theorem Rq.trans {L1 : List Nat} {k1 : Nat → Nat} (h : Rq L k M L1 k1 M1) (q : Rq L1 k1 M1 L' kn M') : Rq L k M L' kn M' := by
  obtain ⟨h1, h2, h3, h4, h5⟩ := h
  obtain ⟨q1, q2, q3, q4, q5⟩ := q
  exact ⟨by omega, by omega, by omega, fun x u => q4 x (h4 x u), fun f u => q5 f (h5 f u)⟩
theorem NX.rq (q : NX L W T C r z M M') (hF : NF L W M) : Rq L k M L k M' := by
  obtain ⟨h1, h2⟩ := q.2.2.2.2
  unfold Rq Pn Qn
  exact ⟨by omega, by omega, Nat.le_refl _, fun _ u => u, fun f u => (q.frl hF u).1⟩
theorem FI.rq (f : FI S M M') : Rq L k M L k M' := by
  have cc : cp M' = cp M := by funext x; unfold cp; rw [f.2.2.1, f.2.1]
  unfold Rq Pn Qn
  rw [cc, f.2.2.2.2.1, f.2.2.2.2.2.1]
  exact ⟨Nat.le_refl _, Nat.le_refl _, Nat.le_refl _, fun _ u => u, fun x u => u.fi f⟩
/-- a sum over four places of which one has changed -/
theorem four_up {f : Nat → Nat} (i4 : i < 4) : f (up1 k i k' 0) + f (up1 k i k' 1) + f (up1 k i k' 2) + f (up1 k i k' 3) + f (k i) = f (k 0) + f (k 1) + f (k 2) + f (k 3) + f k' := by
  have : i = 0 ∨ i = 1 ∨ i = 2 ∨ i = 3 := by omega
  rcases this with e | e | e | e <;> subst e <;> simp only [up1] <;> simp <;> omega
theorem rv_rq (i4 : i < 4) (gw : Gw L W w M L' M') (h : (M' = M ∧ L' = L ∧ R' = R i ∧ k' = k i) ∨ rvG L M (R i) (k i) L' M' R' k') : Rq L k M L' (up1 k i k') M' := by
  have l1 := gw.2.2.1
  have lf : ∀ f, FrL L M f → FrL L' M' f := fun f u => (gw.frl u).1
  clear gw
  have f1 := four_up (k := k) (k' := k') (f := pk4) i4
  have f2 := four_up (k := k) (k' := k') (f := fun x => x) i4
  rcases h with ⟨e1, e2, -, e4⟩ | ⟨-, ⟨c1, c2, c3⟩, l, ⟨z1, z2⟩, p1, p2⟩
  · subst e1 e2
    rw [e4] at f1 f2 ⊢
    unfold Rq Pn Qn
    exact ⟨by omega, by omega, by omega, l1, lf⟩
  · have pk1 : pk4 (k i) + k' ≤ pk4 k' := by
      unfold pk4
      rw [if_neg (by omega)]
      split <;> omega
    unfold Rq Pn Qn
    exact ⟨by omega, by omega, by omega, l1, lf⟩
/-- ints of other cells change -/
theorem Nms.fi (h : Nms L W s g b cn cc bc v R k M) (f : FI S M M') (o : mOk M') (hS : ∀ x, S x → Oc L M x ∧ mK M x ≠ 11) (sb' : Sb L W s g cn cc bc M') (e1 : ∀ j, j < 4 → j ≠ 2 → mI M' (v j) 1 = mI M (v j) 1 ∨ mI M' (v j) 1 = 0) : Nms L W s g b cn cc bc v R k M' := by
  obtain ⟨sb, tb, ⟨b1, b2⟩, tk⟩ := h
  exact ⟨sb', tb.fi f, ⟨b1, by rw [f.2.2.2.2.1]; exact b2⟩, fun j hj j2 => (tk j hj j2).fi (tb.1 j hj) sb.2.1.1 f o sb.2.1.2.1.z9 hS (e1 j hj j2)⟩
theorem Nms.nx2 (h : Nms L W s g b cn cc bc v R k M) (i4 : i < 4) (q : NX L W T C r (s + 1) M M') (hn : n ≤ k i) (hT : ∀ x, T x → (s ≤ x ∧ x ≤ s + 133) ∨ Trw M (R i) n x) (hC : ∀ x, C x → (s ≤ x ∧ x ≤ s + 133) ∨ Irw M (R i) n x) (sb' : Sb L W s g cn cc bc M') (ti : i ≠ 2 → Tk M' cn (v i) (R i) (k i)) : Nms L W s g b cn cc bc v R k M' := by
  obtain ⟨a1, a2, a3⟩ := h.nx i4 q hn hT hC
  refine ⟨sb', a1, ⟨h.2.2.1.1, Nat.le_trans h.2.2.1.2 q.2.2.1.1.1⟩, fun j hj j2 => ?_⟩
  by_cases c : j = i
  · subst c; exact ti j2
  · exact a3 j hj j2 c
/-- one table grows, which isn't known -/
theorem Nms.gw (h : Nms L W s g b cn cc bc v R k M) (i4 : i < 4) (q : Gw L W (v i) M L' M') (te : Te L' W (s + 1) g (v i) R' k' M') (k5 : k' ≤ 512) (gr : (M' = M ∧ L' = L ∧ R' = R i ∧ k' = k i) ∨ rvG L M (R i) (k i) L' M' R' k') (p1 : ∀ j, j < k i → mR M' R' j = mR M (R i) j) (p2 : ∀ j, k i ≤ j → j < k' → mR M' R' j = mZ M + 1 + 5 * (j - k i)) (fl : mI M (v i) 1 = 0) : Nms L' W s g b cn cc bc v (up1 R i R') (up1 k i k') M' ∧ Sva L' W s g (v i) R' k' cn cc bc M' := by
  obtain ⟨sb, tb, ⟨b1, b2⟩, tk⟩ := h
  have gr' : R' = R i ∨ R' = mZ M := by
    rcases gr with e | e
    · exact Or.inl e.2.2.1
    · exact Or.inr e.1
  have tb' := tb.gw b2 i4 q te.2.2.1 te.2.2.2.2 k5 gr' p1 p2
  have ti' := tb'.1 i i4
  rw [up1_s, up1_s] at ti'
  obtain ⟨sv', -, -⟩ := (sb.sva b1 (tb.1 i i4)).gw q te (fun j hj => by have := ti'.2.1 j hj; omega)
  have ei : ∀ j, j < 4 → mI M' (v j) = mI M (v j) := fun j hj => (q.2.2.2.2.1.2 _ (tb.1 j hj).1.2.2.2.2.1.1.1).2.2.2.2 (fun u => u)
  refine ⟨⟨sv'.sb, tb', ⟨b1, Nat.le_trans b2 q.2.2.2.2.1.1.1⟩, fun j hj j2 => ?_⟩, sv'⟩
  by_cases c : j = i
  · subst c
    rw [up1_s, up1_s]
    intro kn
    rw [ei j hj] at kn
    exact absurd fl kn
  · rw [up1_n c, up1_n c]
    exact (tk j hj j2).gw (tb.1 j hj) q (tb.2 j i hj i4 c).2.1
/-- its cells -/
theorem Gw.fc (q : Gw L W (v i) M L' M') (i4 : i < 4) (hc : Cnu Z L s v R k M) (tb : Tb0 L M s b v R k) (te : Te L' W (s + 1) g (v i) R' k' M') (gr : (M' = M ∧ L' = L ∧ R' = R i ∧ k' = k i) ∨ rvG L M (R i) (k i) L' M' R' k') (p1 : ∀ j, j < k i → mR M' R' j = mR M (R i) j) (p2 : ∀ j, k i ≤ j → j < k' → mR M' R' j = mZ M + 1 + 5 * (j - k i)) : FC Z M M' ∧ Cnu (Zn Z M M') L' s v (up1 R i R') (up1 k i k') M' := by
  obtain ⟨c1, c2, c3⟩ := hc
  have l2 := q.2.2.2.1
  have f := q.2.2.2.2.1
  have fl := te.2.2.1.2.2.2.2.2
  refine ⟨f.fc (fun _ u => u.elim) (fun x u => by rw [u]; exact (c3 i i4).1), fun x a1 a2 => Or.inl (c1 x a1 a2), fun a ha => ?_, fun j hj => ⟨Or.inl (c3 j hj).1, ?_⟩⟩
  · have lt := q.2.1.2.lt ha
    rcases l2 a ha with u | u
    · rw [(q.rf u).1]
      exact ⟨Or.inl (c2 a u).1, Or.inl (c2 a u).2⟩
    · exact ⟨Or.inr ⟨by omega, lt.1⟩, Or.inr ⟨by omega, lt.2⟩⟩
  · by_cases c : j = i
    · subst c
      rw [up1_s, up1_s]
      refine ⟨?_, fun l hl => ?_⟩
      · rcases gr with e | e
        · rw [e.2.2.1]; exact Or.inl (c3 j hj).2.1
        · rw [e.1]; exact Or.inr ⟨Nat.le_refl _, by have := e.2.2.2.1.1; omega⟩
      · by_cases cl : l < k j
        · rw [p1 l cl]; exact Or.inl ((c3 j hj).2.2 l cl)
        · have z := (fl l hl).1.2.2
          have e := p2 l (by omega) hl
          exact Or.inr ⟨by omega, z⟩
    · rw [up1_n c, up1_n c, ((tb.1 j hj).gw q (tb.2 j i hj i4 c).2.1).2]
      exact ⟨Or.inl (c3 j hj).2.1, fun l hl => Or.inl ((c3 j hj).2.2 l hl)⟩
theorem FI.cnu (f : FI S M M') (hc : Cnu Z L s v R k M) : Cnu (Zn Z M M') L s v R k M' := by
  obtain ⟨c1, c2, c3⟩ := hc
  refine ⟨fun x a1 a2 => Or.inl (c1 x a1 a2), fun a ha => ?_, fun i hi => ?_⟩
  · rw [f.2.2.1]
    exact ⟨Or.inl (c2 a ha).1, Or.inl (c2 a ha).2⟩
  · rw [f.2.2.1]
    exact ⟨Or.inl (c3 i hi).1, Or.inl (c3 i hi).2.1, fun j hj => Or.inl ((c3 i hi).2.2 j hj)⟩
/-- the same cells by another name -/
theorem Cnu.cg {Z' : Nat → Prop} (hc : Cnu Z L s v R k M) (hz : ∀ x, Z x → Z' x) : Cnu Z' L s v R k M := ⟨fun x a b => hz x (hc.1 x a b), fun a ha => ⟨hz _ (hc.2.1 a ha).1, hz _ (hc.2.1 a ha).2⟩, fun i hi => ⟨hz _ (hc.2.2 i hi).1, hz _ (hc.2.2 i hi).2.1, fun j hj => hz _ ((hc.2.2 i hi).2.2 j hj)⟩⟩
end NCN
end
section
/-! The class's top: what workOut leaves of the numbers. -/
section NCO
variable {G : mG} {d t g s b i j a Ra n cn cc bc z w R' k' : Nat} {v R k Rn kn : Nat → Nat} {M M0 M' M1 : mM} {L L' L1 : List Nat} {W : Nat → Nat} {T C S Z : Nat → Prop} {r : Prop}
/-- a step and the cells of the numbers after it -/
def Sp (Z : Nat → Prop) (s : Nat) (v : Nat → Nat) (M M' : mM) (L : List Nat) (R k : Nat → Nat) : Prop := FC Z M M' ∧ Cnu (Zn Z M M') L s v R k M'
theorem Sp.trans {R1 k1 : Nat → Nat} (h : Sp Z s v M M1 L1 R1 k1) (q : Sp (Zn Z M M1) s v M1 M' L' Rn kn) : Sp Z s v M M' L' Rn kn := ⟨h.1.trans q.1, q.2.cg (fun _ u => (Zn.trans h.1.1.1 q.1.1.1).mp u)⟩
theorem Cnu.sp (hc : Cnu Z L s v R k M) : Sp Z s v M M L R k := ⟨FC.refl, hc.cg (fun _ u => Or.inl u)⟩
/-- what a step on table i leaves of the numbers -/
def nmQ (Z : Nat → Prop) (L : List Nat) (W : Nat → Nat) (s g b cn cc bc : Nat) (v k : Nat → Nat) (i : Nat) (M M' : mM) : Prop := ∃ L' Rn kn, Nms L' W s g b cn cc bc v Rn kn M' ∧ Sp Z s v M M' L' Rn kn ∧ Rq L k M L' kn M' ∧ (∀ j, j ≤ 9 → mI M' (g + j) = mI M (g + j)) ∧ (∀ j, j < 4 → j ≠ i → mI M' (v j) = mI M (v j))
theorem Sva.stk (h : Sva L W s g a Ra n cn cc bc M) : ∀ x, Sta s a x → mK M x ≠ 11 := fun x u => by
  have ka := h.2.2.2.2.1.1
  obtain ⟨⟨-, ⟨⟨s0, -⟩, -, ⟨k1, k2, k3, k4, k5, k6, k7, k8, k9⟩, -⟩, -⟩, -⟩ := id h
  rcases u with u | u
  · rw [u]; omega
  · unfold Stb at u
    rcases u with u | u | u | u | u | u | u | u | u | u <;> rw [u] <;> omega
/-- workOut's beginning -/
theorem Nms.wo (h : Nms L W s g b cn cc bc v R k M) (hc : Cnu Z L s v R k M) (i4 : i < 4) (wo : woI L W s g (v i) (R i) (k i) cn cc bc M M1) : Nms L W s g b cn cc bc v R k M1 ∧ Sp Z s v M M1 L R k ∧ Rq L k M L k M1 ∧ (∀ j, j ≤ 9 → mI M1 (g + j) = mI M (g + j)) ∧ (∀ j, j < 4 → j ≠ i → mI M1 (v j) = mI M (v j)) := by
  have sv := h.1.sva h.2.2.1.1 (h.2.1.1 i i4)
  obtain ⟨o1, f1, S1, e30, fl⟩ := wo
  have vj : ∀ j, j < 4 → j ≠ i → mI M1 (v j) = mI M (v j) := fun j hj ji => f1.2.2.2.2.2.2 _ (fun u => by
    rcases u with u | u
    · exact (h.2.1.2 j i hj i4 ji).2.1 u
    · have := (h.2.1.1 j hj).2.2.2.2.1
      unfold Stb at u
      omega)
  refine ⟨h.fi f1 o1 (fun x u => ⟨sv.sta x u, sv.stk x u⟩) S1.sb (fun j hj j2 => ?_), ⟨f1.fc (fun x u => ?_), f1.cnu hc⟩, f1.rq, fun j hj => f1.2.2.2.2.2.2 _ (sv.gst hj), vj⟩
  · by_cases c : j = i
    · subst c; exact Or.inr fl
    · exact Or.inl (by rw [vj j hj c])
  · rcases u with u | u
    · rw [u]; exact (hc.2.2 i i4).1
    · exact hc.1 x (by unfold Stb at u; omega) (by unfold Stb at u; omega)
theorem Nms.work {kp : Int} (hkp : i32 kp) (h : Nms L W s g b cn cc bc v R k M) (hc : Cnu Z L s v R k M) (i4 : i < 4) (ht : Tld M g cn kp) (hWr : ∀ x, b ≤ x → 17 ≤ W x ∧ W x ≤ 20000) (hWs : ∀ x, s ≤ x → x ≤ s + 133 → 300 ≤ W x) : Ci G y_So_workOut (d + 8) [vr s, vi kp, vr (v i)] M (fun x M' => (x = 0 ∨ x = 5 ∨ x = 6) ∧ nmQ Z L W s g b cn cc bc v k i M M' ∧ mI M' (s + 30) = mI M (s + 30) ∧ (x ≠ 0 → mI M' (v i) 1 = 0) ∧ (x = 0 → mI M' (v i) 1 = 1) ∧ (kp = 0 → kdT (xtm M g cn) → svA9 (xtm M g cn) x)) := by
  have sv := h.1.sva h.2.2.1.1 (h.2.1.1 i i4)
  have bz := h.2.2.1
  have rb := (h.2.1.1 i i4).2.1
  refine (s_So_workOut (d := d) (B := 300) hkp sv (h.2.1.1 i i4).2.2.2.1 (by omega) ht (fun l hl => ?_) (fun x hx => hWr x (by omega)) (fun x u => ?_) (fun x u => ?_) (by decide) (by decide)).mono (fun x M' q => ?_)
  · have := rb l hl
    exact ⟨(hWr _ (by omega)).1, (hWr _ (by omega)).1⟩
  · have := hWs x (by rcases u with u | ⟨i, hi, u⟩ <;> omega) (by rcases u with u | ⟨i, hi, u⟩ <;> omega)
    omega
  · exact hWs x (by unfold Tat Tpk T4 Tor T2 at u; omega) (by unfold Tat Tpk T4 Tor T2 at u; omega)
  obtain ⟨q, qsv⟩ := q
  rcases q with ⟨hx, wo⟩ | ⟨hx, M1, L', R', k', M2, M3, un, wt, M4, wo, gw, te, gr, ⟨c1, c2, k5⟩, p1, p2, nb, lo, eM, e30⟩
  · obtain ⟨N1, P1, Q1, G1, V1⟩ := h.wo hc i4 wo
    exact ⟨Or.inr hx, ⟨L, R, k, N1, P1, Q1, G1, V1⟩, wo.2.2.2.1, fun _ => wo.2.2.2.2, fun e => by omega, qsv⟩
  · obtain ⟨N1, P1, Q1, G1, V1⟩ := h.wo hc i4 wo
    have p2' : ∀ j, k i ≤ j → j < k' → mR M2 R' j = mZ M1 + 1 + 5 * (j - k i) := fun j a b => (p2 j a b).1
    obtain ⟨N2, S2⟩ := N1.gw i4 gw te k5 gr p1 p2' wo.2.2.2.2
    have P2 := P1.trans (gw.fc i4 P1.2 N1.2.1 te gr p1 p2')
    have Q2 := Q1.trans (rv_rq (R := R) i4 gw gr)
    have FB := S2.2.1.1
    have ti2 := N2.2.1.1 i i4
    rw [up1_s, up1_s] at ti2
    have nbx : NX L' W (Tso s M2 R' cn) (Cso s M2 R' cn) True (s + 1) M2 M3 := (nb.nx FB).mono FB (fun _ u => Or.inr (Or.inr (Or.inr u))) (S2.tl c1) (fun _ u => Or.inr (Or.inr (Or.inr (Or.inr (Or.inr u))))) (S2.cl c1) (fun u => u.elim)
    obtain ⟨lN, lS, lR, ⟨lr, lt⟩, -⟩ := lo
    have eR3 := (ti2.nx (nb.nx FB) FB).2
    obtain ⟨eT, eC⟩ := tso_e (s := s) (cn := cn) eR3
    rw [eT, eC] at lN
    have q24 := nbx.trans lN
    have hT : ∀ x, Tso s M2 R' cn x → (s ≤ x ∧ x ≤ s + 133) ∨ Trw M2 (up1 R i R' i) cn x := fun x u => by rw [up1_s]; exact tso_lo u
    have hC : ∀ x, Cso s M2 R' cn x → (s ≤ x ∧ x ≤ s + 133) ∨ Irw M2 (up1 R i R' i) cn x := fun x u => by rw [up1_s]; exact cso_lo u
    have ck : cn ≤ up1 k i k' i := by rw [up1_s]; exact c1
    have N4 : Nms L' W s g b cn cc bc v (up1 R i R') (up1 k i k') M4 := N2.nx2 i4 q24 ck hT hC lS.sb (fun _ => by rw [up1_s, up1_s]; exact fun _ => ⟨c1, lr, lt⟩)
    have V4 := (N2.nx i4 q24 ck hT hC).2.1
    have P4 := P2.trans (q24.fc FB P2.2 N2.2.1 (fun x u => by
      rcases hC x u with w | ⟨l, hl, w⟩
      · exact P2.2.1 x w.1 w.2
      · rw [w]; exact (P2.2.2.2 i i4).2.2 l (by omega)))
    have Q4 : Rq L k M L' (up1 k i k') M4 := Q2.trans (q24.rq FB)
    have G4 := (S2.nx c1 q24 lS.2.1.2.1).2.1
    have f5 : FI (fun x => x = v i) M4 M' := by rw [eM]; exact FI.ui rfl
    have o5 : mOk M' := by rw [eM]; exact mOk_UI lS.1.1 ⟨by decide, by decide⟩
    obtain ⟨S5, n5, r5⟩ := lS.fi (f5.mono (fun x u => Or.inl u)) o5
    have P5 : Sp Z s v M M' L' (up1 R i R') (up1 k i k') := P4.trans ⟨f5.fc (fun x u => by rw [u]; exact (P4.2.2.2 i i4).1), f5.cnu P4.2⟩
    have V2 : ∀ j, j < 4 → mI M2 (v j) = mI M1 (v j) := fun j hj => (gw.2.2.2.2.1.2 _ (N1.2.1.1 j hj).1.2.2.2.2.1.1.1).2.2.2.2 (fun u => u)
    have V5 : ∀ j, j < 4 → j ≠ i → mI M' (v j) = mI M4 (v j) := fun j hj ji => f5.2.2.2.2.2.2 _ (fun u => (h.2.1.2 j i hj i4 ji).2.1 u)
    have rows := lS.2.2.2.2.1.2.2.2.2.2
    refine ⟨Or.inl hx, ⟨L', up1 R i R', up1 k i k', ⟨S5.sb, N4.2.1.fi f5, ⟨bz.1, by rw [f5.2.2.2.2.1]; exact N4.2.2.1.2⟩, fun j hj j2 => ?_⟩, P5, Q4.trans f5.rq, fun j hj => ?_, fun j hj ji => by rw [V5 j hj ji, (V4 j hj).2, V2 j hj, V1 j hj ji]⟩, e30, fun e => absurd hx e, fun _ => by rw [eM, mI_UI, if_pos ⟨rfl, rfl⟩], qsv⟩
    · by_cases c : j = i
      · subst c
        rw [up1_s, up1_s]
        refine fun _ => ⟨c1, fun l hl => ?_, fun l hl => ?_⟩
        · rw [f5.2.2.1, n5 _ (rows l (by omega)).2.1, n5 _ (rows l (by omega)).2.2]; exact lr l hl
        · rw [f5.2.2.1, r5 l (by omega)]; exact lt l hl
      · exact (N4.2.2.2 j hj j2).fi (N4.2.1.1 j hj) lS.2.1.1 f5 o5 lS.z9 (fun x u => by rw [u]; exact ⟨(N4.2.1.1 i i4).1.2.2.2.2.1.1, by rw [(N4.2.1.1 i i4).1.1]; decide⟩) (Or.inl (by rw [V5 j hj c]))
    · rw [f5.2.2.2.2.2.2 _ (fun e => lS.gst hj (Or.inl e)), G4 j hj, (gw.2.2.2.2.1.2 _ (N1.1.2.2.2 j hj).1).2.2.2.2 (fun u => u), G1 j hj]
/-- ranks and choices, and whether values hold, change no table -/
theorem Nms.sv (h : Nms L W s g b cn cc bc v R k M) (hc : Cnu Z L s v R k M) (i4 : i < 4) (hn : cn ≤ k i) (q : svQ L W s g (v i) (R i) (k i) cn cc bc M M') : nmQ Z L W s g b cn cc bc v k i M M' ∧ mI M' (v i) = mI M (v i) := by
  obtain ⟨q1, q2, q3, q4, q5⟩ := q
  have hT : ∀ x, Tso s M (R i) cn x → (s ≤ x ∧ x ≤ s + 133) ∨ Trw M (R i) cn x := fun x u => tso_lo u
  have hC : ∀ x, Cso s M (R i) cn x → (s ≤ x ∧ x ≤ s + 133) ∨ Irw M (R i) cn x := fun x u => cso_lo u
  have V := (h.nx i4 q1 hn hT hC).2.1
  refine ⟨⟨L, R, k, h.nx2 i4 q1 hn hT hC q2.sb (fun _ _ => ⟨hn, q4.1, q4.2⟩), q1.fc h.1.2.1.1 hc h.2.1 (fun x u => ?_), q1.rq h.1.2.1.1, q5, fun j hj _ => (V j hj).2⟩, (V i i4).2⟩
  rcases hC x u with w | ⟨l, hl, w⟩
  · exact hc.1 x w.1 w.2
  · rw [w]; exact (hc.2.2 i i4).2.2 l (by omega)
end NCO
end
section
/-! The class's top: solve, judge, check. -/
section NCP
variable {G : mG} {d t g s b i j a Ra n cn cc bc z w R' k' : Nat} {v R k Rn kn : Nat → Nat} {M M0 M' M1 : mM} {L L' L1 : List Nat} {W : Nat → Nat} {T C S Z : Nat → Prop} {r : Prop}
/-- the top's references -/
def Tr (t : Nat) (v : Nat → Nat) (M : mM) : Prop := mK M t = 1 ∧ (mR M t 9 = t + 62 ∧ mR M t 10 = t + 85) ∧ (mR M t 11 = v 0 ∧ mR M t 12 = v 1 ∧ mR M t 13 = v 2 ∧ mR M t 14 = v 3) ∧ (mR M t 15 = t + 227 ∧ mR M t 16 = t + 229 ∧ mR M t 17 = t + 234) ∧ t < mZ M
theorem Tr.fc (h : Tr t v M) (f : FC Z M M') (nz : ¬ Z t) : Tr t v M' ∧ mI M' t = mI M t := by
  obtain ⟨h1, h2, h3, h4, h5⟩ := h
  obtain ⟨f1, -, f2⟩ := f.2 t h5
  obtain ⟨-, e1, e2⟩ := f2 nz
  have := f.1.1
  exact ⟨⟨by rw [f1]; exact h1, by rw [e1]; exact h2, by rw [e1]; exact h3, by rw [e1]; exact h4, by omega⟩, e2⟩
theorem Nms.cnt (h : Nms L W s g b cn cc bc v R k M) : mI M g 0 = ((cn : Nat) : Int) ∧ mK M g = 7 ∧ mK M s = 8 ∧ mOk M := ⟨h.1.1.2.2.2.2.2.2.2, h.1.1.2.2.1.1, h.1.1.2.1.1.1, h.1.1.1⟩
theorem w_tat (hWs : ∀ x, s ≤ x → x ≤ s + 133 → 300 ≤ W x) : ∀ x, Tat s x → 300 ≤ W x := fun x u => hWs x (by unfold Tat Tpk T4 Tor T2 at u; omega) (by unfold Tat Tpk T4 Tor T2 at u; omega)
theorem n_CA_solve (h : Nms L W (t + 85) (t + 62) b cn cc bc v R k M) (hc : Cnu Z L (t + 85) v R k M) (hr : Tr t v M) (nz : ¬ Z t) (c1 : 1 ≤ cn) (hWr : ∀ x, b ≤ x → 17 ≤ W x ∧ W x ≤ 20000) (hWs : ∀ x, t + 85 ≤ x → x ≤ t + 85 + 133 → 300 ≤ W x) : Ci G y_CA_solve (d + 9) [vr t] M (fun x M' => i32 x ∧ nmQ Z L W (t + 85) (t + 62) b cn cc bc v k 0 M M' ∧ (mI M' (v 0) 1 ≠ 0 → Chs M' (t + 85) (t + 62) cn) ∧ (kdT (xtm M (t + 62) cn) → svA9 (xtm M (t + 62) cn) x) ∧ mI M' (v 0) 1 = if x = 0 then 1 else 0) := by
  obtain ⟨e0, kg, ks, o⟩ := h.cnt
  refine k_CA_solve o ?_
  rw [hr.2.1.1, hr.2.1.2, hr.2.2.1.1, e0]
  refine ⟨hr.1, kg, fun u => absurd u (by omega), fun _ => ⟨ks, (h.work (d := d) (kp := 0) ⟨by decide, by decide⟩ hc (by decide) (fun u => absurd rfl u) hWr hWs).mono (fun x M6 q => ?_)⟩⟩
  obtain ⟨hx, q1, q2, q3, q4, q5⟩ := q
  have ix : i32 x := by rcases hx with u | u | u <;> rw [u] <;> exact ⟨by decide, by decide⟩
  obtain ⟨L1, R1, k1, N1, P1, Q1, G1, V1⟩ := id q1
  obtain ⟨-, -, ks6, o6⟩ := N1.cnt
  have r6 := (hr.fc P1.1 nz).1
  rw [r6.2.1.2, r6.2.2.1.1]
  refine ⟨ix, o6, fun u => ⟨r6.1, ks6, ?_⟩, fun u => ⟨ix, q1, fun w => absurd (q3 u) w, q5 rfl, by rw [if_neg u]; exact q3 u⟩⟩
  obtain ⟨ck, rs, rt⟩ := N1.2.2.2 0 (by decide) (by decide) (by rw [q4 u]; decide)
  refine (s_So_rankAndChoose (d := d + 1) (B := 300) (N1.1.sva N1.2.2.1.1 (N1.2.1.1 0 (by decide))) ck (N1.2.1.1 0 (by decide)).2.2.2.1 ⟨rs, rt⟩ (w_tat hWs) (by decide) (by decide)).mono (fun M15 q => ?_)
  obtain ⟨p1, p2⟩ := q
  obtain ⟨⟨L2, R2, k2, N2, P2, Q2, G2, V2⟩, ev0⟩ := N1.sv P1.2 (by decide) ck p1
  exact ⟨p1.2.1.1.1, ix, ⟨L2, R2, k2, N2, P1.trans P2, Q1.trans Q2, fun j hj => by rw [G2 j hj, G1 j hj], fun j hj ji => by rw [V2 j hj ji, V1 j hj ji]⟩, fun _ => p2, q5 rfl, by rw [if_pos u, ev0]; exact q4 u⟩
theorem n_CA_judge {l : Int} (hl : l = 1 ∨ l = 2) (h : Nms L W (t + 85) (t + 62) b cn cc bc v R k M) (hc : Cnu Z L (t + 85) v R k M) (hr : Tr t v M) (c1 : 1 ≤ cn) (ht : Tld M (t + 62) cn l) (hWr : ∀ x, b ≤ x → 17 ≤ W x ∧ W x ≤ 20000) (hWs : ∀ x, t + 85 ≤ x → x ≤ t + 85 + 133 → 300 ≤ W x) : Ci G y_CA_judge (d + 9) [vr t, vi l] M (fun x M' => i32 x ∧ nmQ Z L W (t + 85) (t + 62) b cn cc bc v k 3 M M' ∧ mI M' (t + 85 + 30) = mI M (t + 85 + 30)) := by
  obtain ⟨e0, kg, ks, o⟩ := h.cnt
  have il : i32 l := by rcases hl with u | u <;> rw [u] <;> exact ⟨by decide, by decide⟩
  refine k_CA_judge o il ?_
  rw [hr.2.1.1, hr.2.1.2, hr.2.2.1.2.2.2, e0]
  refine ⟨fun _ => ⟨hr.1, kg, fun u => absurd u (by omega), fun _ => ⟨ks, (h.work (d := d) il hc (by decide) ht hWr hWs).mono (fun x M6 q => ?_)⟩⟩, fun u => absurd hl u⟩
  obtain ⟨hx, q1, q2, -⟩ := q
  have ix : i32 x := by rcases hx with u | u | u <;> rw [u] <;> exact ⟨by decide, by decide⟩
  obtain ⟨L1, R1, k1, N1, -⟩ := id q1
  exact ⟨ix, N1.cnt.2.2.2, ix, q1, q2⟩
theorem n_CA_check (h : Nms L W (t + 85) (t + 62) b cn cc bc v R k M) (hc : Cnu Z L (t + 85) v R k M) (hr : Tr t v M) (hWs : ∀ x, t + 85 ≤ x → x ≤ t + 85 + 133 → 300 ≤ W x) : Ci G y_CA_check (d + 8) [vr t] M (fun x M' => i32 x ∧ (M' = M ∨ (nmQ Z L W (t + 85) (t + 62) b cn cc bc v k 0 M M' ∧ mI M' (v 0) = mI M (v 0) ∧ mI M' (t + 85 + 30) = mI M (t + 85 + 30)))) := by
  obtain ⟨e0, kg, ks, o⟩ := h.cnt
  have t0 := h.2.1.1 0 (by decide)
  refine k_CA_check o ?_
  rw [hr.2.2.1.1, hr.2.1.2]
  refine ⟨hr.1, t0.1.1, fun _ => ⟨⟨by decide, by decide⟩, Or.inl rfl⟩, fun u => ⟨ks, ?_⟩⟩
  obtain ⟨ck, rs, rt⟩ := h.2.2.2 0 (by decide) (by decide) u
  refine (s_So_holds (d := d) (B := 300) (h.1.sva h.2.2.1.1 t0) ck t0.2.2.2.1 ⟨rs, rt⟩ (w_tat hWs) (by decide) (by decide)).mono (fun x M6 q => ?_)
  obtain ⟨x01, q1, q2⟩ := q
  refine ⟨m_b32 x01, q1.2.1.1.1, fun y ey => ⟨by rw [ey]; split <;> exact ⟨by decide, by decide⟩, Or.inr ?_⟩⟩
  obtain ⟨p1, p2⟩ := h.sv hc (by decide) ck q1
  exact ⟨p1, p2, q2⟩
end NCP
end
section
/-! The class's top: numbers of which nothing was touched. -/
section NCQ
variable {G : mG} {d t g s b e f i j a Ra n cn cc bc cn' cc' bc' z w x Y Cy : Nat} {v R k : Nat → Nat} {M M0 M' M1 : mM} {L L' : List Nat} {W : Nat → Nat} {T C S Z : Nat → Prop} {r : Prop}
/-- a cell is the same (but for longs) -/
def Sm (M M' : mM) (x : Nat) : Prop := mK M' x = mK M x ∧ mN M' x = mN M x ∧ mR M' x = mR M x ∧ mI M' x = mI M x
theorem FC.sm (h : FC Z M M') (hx : x < mZ M) (nz : ¬ Z x) : Sm M M' x := ⟨(h.2 x hx).1, (h.2 x hx).2.1, ((h.2 x hx).2.2 nz).2.1, ((h.2 x hx).2.2 nz).2.2⟩
theorem Nt.sm (h : Nt M a Y Cy n) (ha : Sm M M' a) (hY : Sm M M' Y) (hz : mZ M ≤ mZ M') : Nt M' a Y Cy n := by
  obtain ⟨⟨l0, p0, kX, nX, e, ne, y1, y2⟩, g1, g2, g3, g4⟩ := h
  exact ⟨⟨by rw [ha.1]; exact l0, by rw [ha.2.2.1]; exact p0, by rw [hY.1]; exact kX, by rw [hY.2.1]; exact nX, e, ne, by omega, by omega⟩, by rw [ha.2.2.2]; exact g1, g2, fun j hj => by rw [hY.2.2.2]; exact g3 j hj, by rw [hY.2.2.2]; exact g4⟩
theorem NF.sm (h : NF L W M) (hs : ∀ a, a ∈ L → Sm M M' a ∧ Sm M M' (mR M a 0)) (hz : mZ M ≤ mZ M') : NF L W M' ∧ ∀ a, a ∈ L → nv M' a = nv M a ∧ cp M' a = cp M a ∧ mR M' a = mR M a := by
  have cc : ∀ a, a ∈ L → cp M' a = cp M a := fun a ha => by
    unfold cp
    rw [(hs a ha).1.2.2.1, (hs a ha).2.2.1]
  have nt' : ∀ a, a ∈ L → Nt M' a (mR M a 0) (cp M a) (sz M a) := fun a ha => (h.nt ha).sm (hs a ha).1 (hs a ha).2 hz
  refine ⟨⟨h.1, fun a ha => ⟨(nt' a ha).nn, by rw [cc a ha]; exact (h.2.1 a ha).2.1, (h.2.1 a ha).2.2⟩, fun a b ha hb u => h.2.2 a b ha hb (by rw [← (hs a ha).1.2.2.1, ← (hs b hb).1.2.2.1]; exact u)⟩, fun a ha => ⟨?_, cc a ha, (hs a ha).1.2.2.1⟩⟩
  rw [(nt' a ha).nv, (h.nt ha).nv, (hs a ha).2.2.2.2]
theorem Oc.sm (h : Oc L M x) (hr : ∀ a, a ∈ L → mR M' a = mR M a) (hz : mZ M ≤ mZ M') : Oc L M' x := ⟨Nat.lt_of_lt_of_le h.1 hz, h.2.1, fun a ha u => h.2.2 a ha (by rw [← hr a ha]; exact u)⟩
theorem FrP.sm (h : FrP M f) (hs : Sm M M' f) (hz : mZ M ≤ mZ M') : FrP M' f := ⟨by rw [hs.1]; exact h.1, by rw [hs.2.2.1]; exact h.2.1, Nat.lt_of_lt_of_le h.2.2 hz⟩
theorem FrL.sm (h : FrL L M f) (hs : Sm M M' f) (hz : mZ M ≤ mZ M') : FrL L M' f := ⟨h.1.sm hs hz, h.2⟩
theorem SK.sm (h : SK L M z) (h0 : Sm M M' z) (h13 : Sm M M' (z + 13)) (h18 : Sm M M' (z + 18)) (h23 : Sm M M' (z + 23)) (hz : mZ M ≤ mZ M') : SK L M' z := by
  obtain ⟨⟨k1, k2⟩, k3, k4, ⟨k5, k6, k7⟩, ⟨k8, k9⟩, k10, k11⟩ := h
  exact ⟨⟨by rw [h0.1]; exact k1, by omega⟩, by rw [h0.2.2.1]; exact k3, by rw [h0.2.2.1]; exact k4, ⟨by rw [h13.1]; exact k5, by rw [h13.2.1]; exact k6, by omega⟩, ⟨k8.sm h18 hz, k9.sm h23 hz⟩, k10, k11⟩
theorem RsK.sm (h : RsK L M e) (hs : ∀ i, i ≤ 6 → Sm M M' (e + i)) (hr : ∀ a, a ∈ L → mR M' a = mR M a) (hz : mZ M ≤ mZ M') : RsK L M' e := by
  obtain ⟨⟨c0, c1, c2, c3⟩, c4, c5, c6⟩ := h
  have s0 := hs 0 (by decide)
  rw [Nat.add_zero] at s0
  have s1 := hs 1 (by decide)
  have s2 := hs 2 (by decide)
  have s3 := hs 3 (by decide)
  have s4 := hs 4 (by decide)
  have s5 := hs 5 (by decide)
  have s6 := hs 6 (by decide)
  refine ⟨⟨by rw [s0.1]; exact c0, by rw [s0.2.2.1]; exact c1, by rw [s1.1, s2.1, s3.1, s4.1, s5.1, s6.1]; exact c2, by rw [s1.2.1, s2.2.1, s3.2.1, s4.2.1, s5.2.1, s6.2.1]; exact c3⟩, fun i hi => (c4 i hi).sm hr hz, fun i hi => by rw [s2.2.2.1]; exact c5 i hi, c6⟩
theorem SoT.sm (h : SoT M s g) (hs : ∀ x, s ≤ x → x ≤ s + 133 → Sm M M' x) : SoT M' s g := by
  have q := fun i (hi : i ≤ 133) => hs (s + i) (by omega) (by omega)
  obtain ⟨⟨a1, a2⟩, a3, a4, a5⟩ := h
  have s0 := hs s (by omega) (by omega)
  exact ⟨⟨by rw [s0.1]; exact a1, a2⟩, by rw [s0.2.2.1]; exact a3, by rw [(q 29 (by decide)).1, (q 30 (by decide)).1, (q 122 (by decide)).1, (q 123 (by decide)).1, (q 124 (by decide)).1, (q 125 (by decide)).1, (q 126 (by decide)).1, (q 127 (by decide)).1, (q 128 (by decide)).1]; exact a4, by rw [(q 29 (by decide)).2.1, (q 30 (by decide)).2.1, (q 122 (by decide)).2.1, (q 123 (by decide)).2.1, (q 124 (by decide)).2.1, (q 125 (by decide)).2.1, (q 126 (by decide)).2.1, (q 127 (by decide)).2.1, (q 128 (by decide)).2.1]; exact a5⟩
theorem SG.sm (h : SG M s g cn cc bc) (o : mOk M') (hs : ∀ x, s ≤ x → x ≤ s + 133 → Sm M M' x) (hg : ∀ i, i ≤ 9 → Sm M M' (g + i)) : SG M' s g cn cc bc := by
  obtain ⟨-, h2, ⟨b1, b2, b3, b4⟩, ⟨h4, h5⟩, h6⟩ := h
  have g0 := hg 0 (by decide)
  rw [Nat.add_zero] at g0
  exact ⟨o, h2.sm hs, ⟨by rw [g0.1]; exact b1, by rw [g0.2.2.1]; exact b2, fun i i1 i2 => by rw [(hg i i2).1]; exact b3 i i1 i2, by rw [(hg 2 (by decide)).2.1, (hg 4 (by decide)).2.1, (hg 6 (by decide)).2.1, (hg 7 (by decide)).2.1, (hg 8 (by decide)).2.1, (hg 9 (by decide)).2.1]; exact b4⟩, ⟨by rw [g0.2.2.1]; exact h4, by rw [(hg 3 (by decide)).2.1]; exact h5⟩, h6.same (fun i hi => (hg i hi).2.2.2)⟩
theorem Tb1.sm (h : Tb1 L M s b a Ra n) (ha : mK M' a = mK M a ∧ mR M' a = mR M a) (hR : Sm M M' Ra) (hrow : ∀ j, j < n → Sm M M' (mR M Ra j)) (hr : ∀ a, a ∈ L → mR M' a = mR M a) (hz : mZ M ≤ mZ M') : Tb1 L M' s b a Ra n := by
  obtain ⟨⟨h1, h2, h3, h4, ⟨h5, h6⟩, h7⟩, h8, h9, h10, h11⟩ := h
  exact ⟨⟨by rw [ha.1]; exact h1, by rw [ha.2]; exact h2, by rw [hR.1]; exact h3, by rw [hR.2.1]; exact h4, ⟨h5.sm hr hz, h6.sm hr hz⟩, fun i hi => by rw [hR.2.2.1]; exact (h7 i hi).sm (hrow i hi) hz⟩, by rw [hR.2.2.1]; exact h8, by unfold RwD; rw [hR.2.2.1]; exact h9, h10, h11⟩
/-- all cells of the numbers are the same, but for the marks of the tables -/
def Ks (L : List Nat) (s : Nat) (v R k : Nat → Nat) (M M' : mM) : Prop := mZ M ≤ mZ M' ∧ (∀ x, s ≤ x → x ≤ s + 133 → Sm M M' x) ∧ (∀ a, a ∈ L → Sm M M' a ∧ Sm M M' (mR M a 0)) ∧ (∀ i, i < 4 → (mK M' (v i) = mK M (v i) ∧ mR M' (v i) = mR M (v i)) ∧ Sm M M' (R i) ∧ ∀ j, j < k i → Sm M M' (mR M (R i) j))
theorem Nms.keep (h : Nms L W s g b cn cc bc v R k M) (hk : Ks L s v R k M M') (sg : SG M' s g cn' cc' bc') (tk : ∀ i, i < 4 → i ≠ 2 → mI M' (v i) 1 = 0 ∨ (mI M' (v i) 1 = mI M (v i) 1 ∧ cn' = cn) ∨ cn' = 0) : Nms L W s g b cn' cc' bc' v R k M' ∧ ∀ a, a ∈ L → cp M' a = cp M a := by
  obtain ⟨⟨-, ⟨hF, hS, hRs, hf⟩, hSt, hgo⟩, tb, ⟨b1, b2⟩, tk0⟩ := h
  obtain ⟨hz, k1, k2, k3⟩ := hk
  obtain ⟨F', nvs⟩ := hF.sm k2 hz
  have hr : ∀ a, a ∈ L → mR M' a = mR M a := fun a ha => (nvs a ha).2.2
  refine ⟨⟨⟨sg, ⟨F', hS.sm (k1 _ (by omega) (by omega)) (k1 _ (by omega) (by omega)) (k1 _ (by omega) (by omega)) (k1 _ (by omega) (by omega)) hz, hRs.sm (fun i hi => k1 _ (by omega) (by omega)) hr hz, hf.sm (k1 _ (by omega) (by omega)) hz⟩, fun x hx => (hSt x hx).sm hr hz, fun i hi => (hgo i hi).sm hr hz⟩, ⟨fun i hi => (tb.1 i hi).sm (k3 i hi).1 (k3 i hi).2.1 (k3 i hi).2.2 hr hz, fun i j hi hj ij => ⟨?_, (tb.2 i j hi hj ij).2⟩⟩, ⟨b1, by omega⟩, fun i hi i2 => ?_⟩, fun a ha => (nvs a ha).2.1⟩
  · unfold Rsp
    rw [(k3 i hi).2.1.2.2.1, (k3 j hj).2.1.2.2.1]
    exact (tb.2 i j hi hj ij).1
  · rcases tk i hi i2 with e | ⟨e, ec⟩ | ec
    · intro kn
      exact absurd e kn
    · rw [ec]
      refine (tk0 i hi i2).keep (Or.inl e) (k3 i hi).2.1.2.2.1 (fun l hl => ?_)
      have fl := (tb.1 i hi).1.2.2.2.2.2 l hl
      exact ⟨(nvs _ fl.2.1).1, (nvs _ fl.2.2).1, ((k3 i hi).2.2 l hl).2.2.2⟩
    · subst ec
      exact fun _ => ⟨Nat.zero_le _, fun l hl => absurd hl (Nat.not_lt_zero _), fun l hl => absurd hl (Nat.not_lt_zero _)⟩
/-- the room of the numbers is the same -/
theorem pn_cg (hc : ∀ a, a ∈ L → cp M' a = cp M a) : Pn L k M' = Pn L k M ∧ Qn L k M' = Qn L k M := by
  unfold Pn Qn
  rw [psum_cg L hc, psum_cg (f := fun p => cp M' p / 4) (g := fun p => cp M p / 4) L (fun p hp => by show cp M' p / 4 = cp M p / 4; rw [hc p hp])]
  exact ⟨rfl, rfl⟩
/-- the cells of the numbers -/
def Zm (L : List Nat) (s : Nat) (v R k : Nat → Nat) (M : mM) (x : Nat) : Prop := (s ≤ x ∧ x ≤ s + 133) ∨ x ∈ L ∨ (∃ a, a ∈ L ∧ x = mR M a 0) ∨ ∃ i, i < 4 ∧ (x = v i ∨ x = R i ∨ ∃ j, j < k i ∧ x = mR M (R i) j)
theorem zm_in (hc : Cnu Z L s v R k M) : ∀ x, Zm L s v R k M x → Z x := fun x u => by
  rcases u with u | u | ⟨a, ha, u⟩ | ⟨i, hi, u | u | ⟨j, hj, u⟩⟩
  · exact hc.1 x u.1 u.2
  · exact (hc.2.1 x u).1
  · rw [u]; exact (hc.2.1 a ha).2
  · rw [u]; exact (hc.2.2 i hi).1
  · rw [u]; exact (hc.2.2 i hi).2.1
  · rw [u]; exact (hc.2.2 i hi).2.2 j hj
/-- what leaves them alone -/
theorem FC.ks (f : FC Z M M') (h : Nms L W s g b cn cc bc v R k M) (hz : ∀ x, Zm L s v R k M x → ¬ Z x ∨ ∃ i, i < 4 ∧ x = v i ∧ mR M' x = mR M x) : Ks L s v R k M M' := by
  have tb := h.2.1
  have hF := h.1.2.1.1
  have hk : ∀ i, i < 4 → mK M (v i) = 13 := fun i hi => (tb.1 i hi).1.1
  have sm : ∀ x, x < mZ M → Zm L s v R k M x → mK M x ≠ 13 → Sm M M' x := fun x hx zx k13 => by
    rcases hz x zx with u | ⟨i, hi, u, -⟩
    · exact f.sm hx u
    · rw [u] at k13; exact absurd (hk i hi) k13
  have zz := h.2.2.1
  refine ⟨f.1.1, fun x a1 a2 => ?_, fun a ha => ⟨sm a (hF.lt ha).1 (Or.inr (Or.inl ha)) (by rw [hF.kd ha]; decide), sm _ (hF.lt ha).2 (Or.inr (Or.inr (Or.inl ⟨a, ha, rfl⟩))) (by rw [hF.ka ha]; decide)⟩, fun i hi => ⟨⟨?_, ?_⟩, ?_, fun j hj => ?_⟩⟩
  · rcases hz x (Or.inl ⟨a1, a2⟩) with u | ⟨i, hi, u, -⟩
    · exact f.sm (by omega) u
    · have := (tb.1 i hi).2.2.2.2.1; omega
  · exact (f.2 _ (tb.1 i hi).1.2.2.2.2.1.1.1).1
  · have lt := (tb.1 i hi).1.2.2.2.2.1.1.1
    rcases hz (v i) (Or.inr (Or.inr (Or.inr ⟨i, hi, Or.inl rfl⟩))) with u | ⟨-, -, -, u⟩
    · exact ((f.2 _ lt).2.2 u).2.1
    · exact u
  · exact sm _ (tb.1 i hi).1.2.2.2.2.1.2.1 (Or.inr (Or.inr (Or.inr ⟨i, hi, Or.inr (Or.inl rfl)⟩))) (by rw [(tb.1 i hi).1.2.2.1]; decide)
  · have fl := (tb.1 i hi).1.2.2.2.2.2 j hj
    exact sm _ fl.1.2.2 (Or.inr (Or.inr (Or.inr ⟨i, hi, Or.inr (Or.inr ⟨j, hj, rfl⟩)⟩))) (by rw [fl.1.1]; decide)
/-- a step elsewhere -/
theorem Nms.off (h : Nms L W s g b cn cc bc v R k M) (f : FC Z M M') (o : mOk M') (hz : ∀ x, Zm L s v R k M x → ¬ Z x) (hg : ∀ i, i ≤ 9 → ¬ Z (g + i)) : Nms L W s g b cn cc bc v R k M' ∧ Ks L s v R k M M' ∧ ∀ a, a ∈ L → cp M' a = cp M a := by
  have bz := h.2.2.1
  have ks := f.ks h (fun x u => Or.inl (hz x u))
  obtain ⟨a1, a2⟩ := h.keep ks (h.1.1.sm o (fun x a b => f.sm (by omega) (hz x (Or.inl ⟨a, b⟩))) (fun i hi => f.sm (h.1.2.2.2 i hi).1 (hg i hi))) (fun i hi i2 => Or.inr (Or.inl ⟨by rw [(f.sm (h.2.1.1 i hi).1.2.2.2.2.1.1.1 (hz _ (Or.inr (Or.inr (Or.inr ⟨i, hi, Or.inl rfl⟩))))).2.2.2], rfl⟩))
  exact ⟨a1, ks, a2⟩
theorem Ks.cnu (hk : Ks L s v R k M M') (hc : Cnu Z L s v R k M) : Cnu Z L s v R k M' := by
  obtain ⟨hz, k1, k2, k3⟩ := hk
  refine ⟨hc.1, fun a ha => by rw [(k2 a ha).1.2.2.1]; exact hc.2.1 a ha, fun i hi => ?_⟩
  rw [(k3 i hi).2.1.2.2.1]
  exact hc.2.2 i hi
/-- what lies outside is no number and no limbs -/
theorem Cnu.oc (h : Cnu Z L s v R k M) (hx : x < mZ M) (nz : ¬ Z x) : Oc L M x := ⟨hx, fun u => nz (h.2.1 x u).1, fun a ha e => nz (by rw [← e]; exact (h.2.1 a ha).2)⟩
/-- a table is known -/
theorem Nms.mark (h : Nms L W s g b cn cc bc v R k M) (i4 : i < 4) (tk : cn ≤ k i ∧ Rsm M (R i) cn 17 ∧ Rt1 M (R i) cn) (e : M' = mUI M (v i) 1 1) : Nms L W s g b cn cc bc v R k M' ∧ FI (fun x => x = v i) M M' ∧ mOk M' := by
  have sv := h.1.sva h.2.2.1.1 (h.2.1.1 i i4)
  have f5 : FI (fun x => x = v i) M M' := by rw [e]; exact FI.ui rfl
  have o5 : mOk M' := by rw [e]; exact mOk_UI sv.1.1 ⟨by decide, by decide⟩
  obtain ⟨S5, n5, r5⟩ := sv.fi (f5.mono (fun x u => Or.inl u)) o5
  have rows := sv.2.2.2.2.1.2.2.2.2.2
  refine ⟨⟨S5.sb, h.2.1.fi f5, ⟨h.2.2.1.1, by rw [f5.2.2.2.2.1]; exact h.2.2.1.2⟩, fun j hj j2 => ?_⟩, f5, o5⟩
  by_cases c : j = i
  · subst c
    obtain ⟨c1, lr, lt⟩ := tk
    refine fun _ => ⟨c1, fun l hl => ?_, fun l hl => ?_⟩
    · rw [f5.2.2.1, n5 _ (rows l (by omega)).2.1, n5 _ (rows l (by omega)).2.2]; exact lr l hl
    · rw [f5.2.2.1, r5 l (by omega)]; exact lt l hl
  · exact (h.2.2.2 j hj j2).fi (h.2.1.1 j hj) sv.2.1.1 f5 o5 sv.z9 (fun x u => by rw [u]; exact ⟨(h.2.1.1 i i4).1.2.2.2.2.1.1, by rw [(h.2.1.1 i i4).1.1]; decide⟩) (Or.inl (by rw [f5.2.2.2.2.2.2 _ (fun u => (h.2.1.2 j i hj i4 c).2.1 u)]))
end NCQ
end
