section
/-! The class at rest: a text is translated, and becomes the text. -/
section NDC
variable {G : mG} {d t x n cn cc bc T Kt N A B D Cw p O P K p' O' P' K' Ab Be Cm U Ag Bg Cg Ps Pc Ps1 Pc1 A1 B1 D1 O1 P1 K1 Ab1 Be1 Cm1 N0 nw : Nat} {M M' M1 M2 : mM} {Z Y C : Nat → Prop} {v R k : Nat → Nat} {Ls : List Nat} {c9 c8 : tG9}
theorem Wf.fi1 {w : Nat} {S : Nat → Prop} (h : Wf M w T A B D N0 Cw nw) (f : FI S M M') (hw : ¬ S w) (hA : ¬ S A) (hB : ¬ S B) (hD : ¬ S D) : Wf M' w T A B D N0 Cw nw := by
  unfold Wf WA at h ⊢
  rw [f.1, f.2.1, f.2.2.1, f.2.2.2.2.2.2 w hw, f.2.2.2.2.2.2 A hA, f.2.2.2.2.2.2 B hB, f.2.2.2.2.2.2 D hD]
  exact h
/-- two different places of the list of cells -/
theorem nd_ne (nd : [T, A, B, D, O, P, O', P', Ab, Be, Ag, Bg].Nodup) : (T ≠ O' ∧ T ≠ P' ∧ T ≠ Ab ∧ T ≠ Be) ∧ (A ≠ O' ∧ A ≠ P' ∧ A ≠ Ab ∧ A ≠ Be) ∧ (B ≠ O' ∧ B ≠ P' ∧ B ≠ Ab ∧ B ≠ Be) ∧ (D ≠ O' ∧ D ≠ P' ∧ D ≠ Ab ∧ D ≠ Be) ∧ (O ≠ O' ∧ O ≠ P' ∧ O ≠ Ab ∧ O ≠ Be) ∧ (P ≠ O' ∧ P ≠ P' ∧ P ≠ Ab ∧ P ≠ Be) := by
  simp only [List.nodup_cons, List.mem_cons, not_or, List.not_mem_nil, not_false_eq_true, and_true] at nd
  obtain ⟨⟨-, -, -, -, -, t1, t2, t3, t4, -⟩, ⟨-, -, -, -, a1, a2, a3, a4, -⟩, ⟨-, -, -, b1, b2, b3, b4, -⟩, ⟨-, -, d1, d2, d3, d4, -⟩, ⟨-, o1, o2, o3, o4, -⟩, ⟨p1, p2, p3, p4, -⟩, -⟩ := nd
  exact ⟨⟨t1, t2, t3, t4⟩, ⟨a1, a2, a3, a4⟩, ⟨b1, b2, b3, b4⟩, ⟨d1, d2, d3, d4⟩, ⟨o1, o2, o3, o4⟩, ⟨p1, p2, p3, p4⟩⟩
theorem of_ne {a b z x : Nat} (o : b = a ∨ z ≤ b) (h : x ≠ a) (hz : x < z) : x ≠ b := by omega
theorem lo_p (pp : (p = t + 30 ∧ p' = t + 46) ∨ (p = t + 46 ∧ p' = t + 30)) : (t + 30 ≤ p' ∧ p' ≤ t + 46) ∧ (∀ i, i ≤ 15 → t + 30 ≤ p + i ∧ p + i < t + 62 ∧ ¬ (p' ≤ p + i ∧ p + i ≤ p' + 15)) := by
  refine ⟨by omega, fun i hi => ?_⟩
  omega
/-- cells of the reader, and of the program that is spare -/
theorem tzs_no (a : ¬ (t + 7 ≤ x ∧ x ≤ t + 29)) (b : ¬ (p' ≤ x ∧ x ≤ p' + 15)) (c : x ≠ O' ∧ x ≠ P' ∧ x ≠ Ab ∧ x ≠ Be) : ¬ tzS (t + 7) p' O' P' Ab Be x := by
  rintro (u | u | u | u | u | u)
  · exact a ⟨u.1, by omega⟩
  · exact b u
  · exact c.1 u
  · exact c.2.1 u
  · exact c.2.2.1 u
  · exact c.2.2.2 u
theorem tz_pl (hx : Tx c9 t T Kt N A B D Cw p O P K p' O' P' K' Ab Be Cm M) : (O' = p' + 1 ∨ t + 235 ≤ O') ∧ (P' = p' + 2 ∨ t + 235 ≤ P') ∧ (Ab = t + 21 ∨ t + 235 ≤ Ab) ∧ (Be = t + 22 ∨ t + 235 ≤ Be) ∧ (O = p + 1 ∨ t + 235 ≤ O) ∧ (P = p + 2 ∨ t + 235 ≤ P) := by
  have o4 := hx.2.2.2.1.2.2.2.2.2.1.2.2.2.1
  have q4 := hx.2.2.2.2.1.2.2.2.1
  have m4 := hx.2.2.2.1.2.2.2.2.1.2.2.2.2.2.1
  exact ⟨o4.1, o4.2.1, m4.1, m4.2.1, q4.1, q4.2.1⟩
/-- a cell of the first ones, but not of theirs -/
theorem tz_out (hx : Tx c9 t T Kt N A B D Cw p O P K p' O' P' K' Ab Be Cm M) (a : ¬ (t + 7 ≤ x ∧ x ≤ t + 29)) (b : ¬ (p' ≤ x ∧ x ≤ p' + 15)) (c : x < t + 235) : ¬ tzS (t + 7) p' O' P' Ab Be x := by
  obtain ⟨q1, q2, q3, q4, -⟩ := tz_pl hx
  clear hx
  exact tzs_no a b ⟨of_ne q1 (by omega) c, of_ne q2 (by omega) c, of_ne q3 (by omega) c, of_ne q4 (by omega) c⟩
/-- the words lie apart from the reader and the program -/
theorem tzw_of (h : Ap Z C t T A B D O P O' P' Ab Be Ag Bg M) (hx : Tx c9 t T Kt N A B D Cw p O P K p' O' P' K' Ab Be Cm M) : TZw M (t + 7) (t + 2) T A B D p' O' P' Ab Be := by
  obtain ⟨c1, -, c3⟩ := h.oc
  have lp := (lo_p hx.2.2.2.2.2.1).1
  obtain ⟨q1, q2, q3, q4, -⟩ := tz_pl hx
  obtain ⟨pT, pA, pB, pD⟩ := h.2.2.1
  obtain ⟨n1, n2, n3, n4, -⟩ := nd_ne h.2.1
  have l2 := (c1 (t + 2) (by omega) (by omega)).2
  have lT := (c3 T (by simp)).2
  have lA := (c3 A (by simp)).2
  have lB := (c3 B (by simp)).2
  have lD := (c3 D (by simp)).2
  clear hx h c1 c3
  intro x u
  rcases u with u | u | u | u | u <;> subst u
  · clear n1 n2 n3 n4 pT pA pB pD
    exact ⟨by omega, by omega, of_ne q1 (by omega) (by omega), of_ne q2 (by omega) (by omega), of_ne q3 (by omega) (by omega), of_ne q4 (by omega) (by omega), l2⟩
  · clear q1 q2 q3 q4 n2 n3 n4 pA pB pD
    exact ⟨by omega, by omega, n1.1, n1.2.1, n1.2.2.1, n1.2.2.2, lT⟩
  · clear q1 q2 q3 q4 n1 n3 n4 pT pB pD
    exact ⟨by omega, by omega, n2.1, n2.2.1, n2.2.2.1, n2.2.2.2, lA⟩
  · clear q1 q2 q3 q4 n1 n2 n4 pT pA pD
    exact ⟨by omega, by omega, n3.1, n3.2.1, n3.2.2.1, n3.2.2.2, lB⟩
  · clear q1 q2 q3 q4 n1 n2 n3 pT pA pB
    exact ⟨by omega, by omega, n4.1, n4.2.1, n4.2.2.1, n4.2.2.2, lD⟩
/-- the cells that translating may change -/
theorem tz_lo (h : Ap Z C t T A B D O P O' P' Ab Be Ag Bg M) (hx : Tx c9 t T Kt N A B D Cw p O P K p' O' P' K' Ab Be Cm M) : (¬ tzS (t + 7) p' O' P' Ab Be t ∧ ¬ tzS (t + 7) p' O' P' Ab Be (t + 2)) ∧ (∀ i, i ≤ 15 → ¬ tzS (t + 7) p' O' P' Ab Be (p + i)) ∧ (¬ tzS (t + 7) p' O' P' Ab Be T ∧ ¬ tzS (t + 7) p' O' P' Ab Be O ∧ ¬ tzS (t + 7) p' O' P' Ab Be P) ∧ (∀ x, t + 62 ≤ x → x < t + 235 → ¬ tzS (t + 7) p' O' P' Ab Be x) ∧ (∀ x, tzS (t + 7) p' O' P' Ab Be x → C x ∧ ¬ Z x) := by
  obtain ⟨z1, -⟩ := h.nz
  obtain ⟨c1, c2, c3⟩ := h.oc
  obtain ⟨lp, lq⟩ := lo_p hx.2.2.2.2.2.1
  obtain ⟨-, -, -, -, q5, q6⟩ := tz_pl hx
  have pT := h.2.2.1.1
  have hn := h.1
  obtain ⟨n1, -, -, -, n5, n6⟩ := nd_ne h.2.1
  have out : ∀ x, ¬ (t + 7 ≤ x ∧ x ≤ t + 29) → ¬ (p' ≤ x ∧ x ≤ p' + 15) → x < t + 235 → ¬ tzS (t + 7) p' O' P' Ab Be x := fun x a b c => tz_out hx a b c
  clear hx h
  have tT : ¬ (t + 7 ≤ T ∧ T ≤ t + 29) ∧ ¬ (p' ≤ T ∧ T ≤ p' + 15) := by clear n1 n5 n6 q5 q6 lq out; omega
  refine ⟨⟨out _ (by omega) (by omega) (by omega), out _ (by omega) (by omega) (by omega)⟩, fun i hi => out _ (by have := lq i hi; omega) (lq i hi).2.2 (by have := lq i hi; omega), ⟨tzs_no tT.1 tT.2 n1, tzs_no ?_ ?_ n5, tzs_no ?_ ?_ n6⟩, fun x a b => out x (by omega) (by omega) b, fun x u => ?_⟩
  · have l1 := lq 1 (by decide)
    clear lq out n1 n5 n6 q6 pT
    rcases q5 with e | e <;> omega
  · have l1 := lq 1 (by decide)
    clear lq out n1 n5 n6 q6 pT
    rcases q5 with e | e
    · rw [e]; exact l1.2.2
    · omega
  · have l1 := lq 2 (by decide)
    clear lq out n1 n5 n6 q5 pT
    rcases q6 with e | e <;> omega
  · have l1 := lq 2 (by decide)
    clear lq out n1 n5 n6 q5 pT
    rcases q6 with e | e
    · rw [e]; exact l1.2.2
    · omega
  clear n1 n5 n6 q5 q6 pT lq out
  rcases u with u | u | u | u | u | u
  · exact ⟨(c1 x (by omega) (by omega)).1, z1 x (by omega) (by omega)⟩
  · exact ⟨(c1 x (by omega) (by omega)).1, z1 x (by omega) (by omega)⟩
  · rw [u]; exact ⟨(c3 O' (by simp)).1, hn _ (Or.inr (Or.inr (by simp)))⟩
  · rw [u]; exact ⟨(c3 P' (by simp)).1, hn _ (Or.inr (Or.inr (by simp)))⟩
  · rw [u]; exact ⟨(c3 Ab (by simp)).1, hn _ (Or.inr (Or.inr (by simp)))⟩
  · rw [u]; exact ⟨(c3 Be (by simp)).1, hn _ (Or.inr (Or.inr (by simp)))⟩
theorem Ap.trl (h : Ap Z C t T A B D O P O' P' Ab Be Ag Bg M) (hz : mZ M ≤ mZ M') (e1 : (O1 = O' ∧ P1 = P') ∨ (mZ M ≤ O1 ∧ mZ M ≤ P1)) (e2 : Ab1 = Ab ∨ mZ M ≤ Ab1) (e3 : Be1 = Be ∨ mZ M ≤ Be1) (lt : O1 < mZ M' ∧ P1 < mZ M' ∧ Ab1 < mZ M' ∧ Be1 < mZ M') (ne : O1 ≠ P1 ∧ Ab1 ≠ Be1 ∧ O1 ≠ Ab1 ∧ O1 ≠ Be1 ∧ P1 ≠ Ab1 ∧ P1 ≠ Be1) : Ap Z (Zn C M M') t T A B D O P O1 P1 Ab1 Be1 Ag Bg M' := by
  obtain ⟨c1, c2, c3⟩ := h.oc
  have nd : ([T, A, B, D, O, P] ++ ([O', P', Ab, Be] ++ [Ag, Bg])).Nodup := h.2.1
  have hm : ∀ x, x ∈ [O1, P1, Ab1, Be1] → x ∈ [O', P', Ab, Be] ∨ mZ M ≤ x := fun x hx => by
    simp only [List.mem_cons, List.not_mem_nil, or_false] at hx ⊢
    omega
  have hl : ∀ x, x ∈ [O1, P1, Ab1, Be1] → x < mZ M' := fun x hx => by
    simp only [List.mem_cons, List.not_mem_nil, or_false] at hx
    omega
  have nd4 : [O1, P1, Ab1, Be1].Nodup := by
    simp only [List.nodup_cons, List.mem_cons, not_or, List.not_mem_nil, not_false_eq_true, and_true]
    exact ⟨⟨ne.1, ne.2.2.1, ne.2.2.2.1⟩, ⟨ne.2.2.2.2.1, ne.2.2.2.2.2⟩, ne.2.1, trivial, List.nodup_nil⟩
  have in1 : ∀ x, x ∈ [T, A, B, D, O, P] → x ∈ [T, A, B, D, O, P, O', P', Ab, Be, Ag, Bg] := fun x hx => (List.mem_append.mpr (Or.inl hx) : x ∈ [T, A, B, D, O, P] ++ [O', P', Ab, Be, Ag, Bg])
  have in2 : ∀ x, x ∈ [Ag, Bg] → x ∈ [T, A, B, D, O, P, O', P', Ab, Be, Ag, Bg] := fun x hx => (List.mem_append.mpr (Or.inr hx) : x ∈ [T, A, B, D, O, P, O', P', Ab, Be] ++ [Ag, Bg])
  have in3 : ∀ x, x ∈ [O', P', Ab, Be] → x ∈ [T, A, B, D, O, P, O', P', Ab, Be, Ag, Bg] := fun x hx => (List.mem_append.mpr (Or.inr (List.mem_append.mpr (Or.inl hx))) : x ∈ [T, A, B, D, O, P] ++ ([O', P', Ab, Be] ++ [Ag, Bg]))
  have nd' : ([T, A, B, D, O, P] ++ ([O1, P1, Ab1, Be1] ++ [Ag, Bg])).Nodup := nd_mid nd (z := mZ M) (fun x hx => (c3 x (in1 x hx)).2) (fun x hx => (c3 x (in2 x hx)).2) hm nd4
  refine h.re hz nd' h.2.2.1 (fun x hx => ?_)
  rcases List.mem_append.mp (show x ∈ [T, A, B, D, O, P] ++ ([O1, P1, Ab1, Be1] ++ [Ag, Bg]) from hx) with u | u
  · exact Or.inl (in1 x u)
  · rcases List.mem_append.mp u with u | u
    · exact (hm x u).imp (in3 x) (fun w => ⟨w, hl x u⟩)
    · exact Or.inl (in2 x u)
theorem rmc_trl (h6 : Rmc Kt Cw K K' Cm Cg Ps Pc Ls k M) (pe : Pn Ls k M' = Pn Ls k M ∧ Qn Ls k M' = Qn Ls k M) (r1 : mS M' + 4 * Cm + 4 * K' ≤ mS M + 4 * Cm1 + 4 * K1) (r2 : 64 * mZ M' + 2 * Cm + K' ≤ 64 * mZ M + 2 * Cm1 + K1) : Rmc Kt Cw K K1 Cm1 Cg (Ps + 4 * Cm1 + 4 * K1 - 4 * Cm - 4 * K') (Pc + 2 * Cm1 + K1 - 2 * Cm - K') Ls k M' ∧ mS M' + Ps ≤ mS M + (Ps + 4 * Cm1 + 4 * K1 - 4 * Cm - 4 * K') ∧ 64 * mZ M' + Pc ≤ 64 * mZ M + (Pc + 2 * Cm1 + K1 - 2 * Cm - K') := by
  unfold Rmc at h6 ⊢
  rw [pe.1, pe.2]
  exact ⟨⟨by omega, by omega, h6.2.2⟩, by omega, by omega⟩
/-- the reader at rest again -/
theorem tz_of {z q w a c L V F cnt : Nat} {ns : Nat → Int} {sf ef : Nat → Nat} (h : TX M z q w T A B D N0 Cw nw p O P K Ab Be Cm V F ns sf ef c cnt L) : TZ M z q p O P K Ab Be Cm ∧ (O < mZ M ∧ P < mZ M ∧ Ab < mZ M ∧ Be < mZ M) ∧ (O ≠ P ∧ Ab ≠ Be) := by
  obtain ⟨⟨⟨b1, b2, b3, b4, b5, b6, b7⟩, ⟨c1, c2, c3, c4, c5, c6⟩, t3, t4, t5, ⟨s1, s2, s3⟩, t7⟩, ⟨d1, d2, d3, d4⟩, -⟩ := h
  have oz := b5.2.2.2.2.1
  have mz := t4.2.2.2.2.2.2.1
  exact ⟨⟨b1, b2, ⟨c1, c2, c3, c5, c6⟩, t3, t4, b5, ⟨s1, s2⟩, t7, d4⟩, ⟨oz.2.1, oz.2.2, mz.2.1, mz.2.2.1⟩, b5.2.2.2.1.2.2.1, t4.2.2.2.2.2.1.2.2.1⟩
/-- a text that was read can be explored -/
theorem pw_of {z q w c L V F cnt : Nat} {ns : Nat → Int} {sf ef : Nat → Nat} (h : TX M z q w T A B D N0 Cw nw p O P K Ab Be Cm V F ns sf ef c cnt L) (e3 : mI M (q + 1) 3 = 0) (h11 : mI M p 11 ≠ -1) (h2 : mI M p 2 = ((L : Nat) : Int)) (hL : L ≤ nw) : PW M z p O P K V F ns sf ef L cnt := by
  obtain ⟨⟨⟨b1, b2, b3, b4, b5, b6, b7⟩, -⟩, ⟨d1, d2, d3, d4⟩, ⟨e1, e2⟩⟩ := h
  obtain ⟨u, u1, u2⟩ := e2 e3
  have w1 := b4.1.2.2.2.2.2.2.1
  have w2 := b4.2.2.1
  exact ⟨b5, ⟨h2, by omega, by omega⟩, d1, d2.2, e1, h11, u, u1, u2⟩
/-- a text is translated -/
theorem CJ.trl {x : Int} (hj : CJ c9 C n t Ps Pc T Kt N A B D Cw p O P K p' O' P' K' Ab Be Cm U Ag Bg Cg cn cc bc Ls v R k Z M) (q : tzQ M (t + 235) (t + 7) (t + 2) T A B D N0 Cw nw p' O' P' K' Ab Be Cm x M') : ∃ O1 P1 K1 Ab1 Be1 Cm1 Ps1 Pc1, CJ c9 (Zn C M M') n t Ps1 Pc1 T Kt N A B D Cw p O P K p' O1 P1 K1 Ab1 Be1 Cm1 U Ag Bg Cg cn cc bc Ls v R k Z M' ∧ stp C Ps Pc M (Zn C M M') Ps1 Pc1 M' ∧ (x = 0 → ∃ (V F : Nat) (ns : Nat → Int) (sf ef : Nat → Nat) (L cnt : Nat), PW M' (t + 235) p' O1 P1 K1 V F ns sf ef L cnt) ∧ mI M' t = mI M t ∧ (∀ i, i ≤ 9 → mI M' (t + 62 + i) = mI M (t + 62 + i)) ∧ mI M' (v 0) = mI M (v 0) := by
  have hj0 := hj
  obtain ⟨-, ⟨lt1, lt2⟩, -⟩ := hj.top
  obtain ⟨h1, h2, h3, h4, h5, h6, h7⟩ := hj
  obtain ⟨O1, P1, K1, Ab1, Be1, Cm1, V, F, ns, sf, ef, c, cnt, L, tx, fa, ⟨e1, e2, e3⟩, ⟨r1, r2⟩, ex, ex0⟩ := q
  obtain ⟨⟨y0, y2⟩, yp, ⟨y3, y4, y5⟩, yg, y6⟩ := tz_lo h5 h2
  obtain ⟨tz, lt, ⟨ne1, ne2⟩⟩ := tz_of (a := 0) tx
  have o := tz.1
  have pp := h2.2.2.2.2.2.1
  have fc : FC (tzS (t + 7) p' O' P' Ab Be) M M' := fa.fc (fun _ u => u) (fun x u => by unfold tzR at u; unfold tzS; clear h2 h3 h4 h5 tx; omega)
  obtain ⟨-, er, ei⟩ := (fc.2 t lt1).2.2 y0
  obtain ⟨w1, w2, w3, w4, w5, w6, w7, w8⟩ := h2
  have tx' : Tx c9 t T Kt N A B D Cw p O P K p' O1 P1 K1 Ab1 Be1 Cm1 M' := by
    refine ⟨by rw [er]; exact w1, w2.fc fc y3 (by rw [er]) (by rw [ei]), w3.fc fc y2, tz, w5.fc fc (yp 0 (by decide)), w6, fun u => ?_, w8.fc fc w5 (by rw [ei]) yp y4 y5⟩
    rw [ei] at u
    obtain ⟨V, F, ns, sf, ef, L, cnt, hw⟩ := w7 u
    exact ⟨V, F, ns, sf, ef, L, cnt, hw.fc fc yp y4 y5⟩
  obtain ⟨ns', pq⟩ := h4.fc o fc (fun x u => (y6 x u).2) (fun i hi => yg _ (by omega) (by omega)) (yg _ (by omega) (by omega)) lt2 (fun i _ => by rw [er]) (by rw [ei])
  obtain ⟨rm, s1, s2⟩ := rmc_trl h6 pq r1 r2
  refine ⟨O1, P1, K1, Ab1, Be1, Cm1, _, _, ⟨o, tx', h3.fc fc (fun x a b => yg x (by omega) (by omega)), ns', h5.trl fc.1.1 e1 e2 e3 lt ⟨ne1, ne2, tz.2.2.2.2.2.2.2.1.1, tz.2.2.2.2.2.2.2.1.2.1, tz.2.2.2.2.2.2.2.1.2.2.1, tz.2.2.2.2.2.2.2.1.2.2.2⟩, rm, by rw [ei]; exact h7⟩, ⟨fc.mono (fun x _ u => (y6 x u).1), fun x u => u, s1, s2⟩, fun x0 => ?_, ei, fun i hi => (fc.sm (by clear hj0; omega) (yg _ (by omega) (by omega))).2.2.2, hj0.vfc fc (fun x u => (y6 x u).2)⟩
  obtain ⟨a1, a2, a3⟩ := ex0 x0
  exact ⟨V, F, ns, sf, ef, L, cnt, pw_of tx (by rw [← ex]; exact x0) a1 a2 a3⟩
theorem Ap.swp (h : Ap Z C t T A B D O P O' P' Ab Be Ag Bg M) : Ap Z C t T A B D O' P' O P Ab Be Ag Bg M := by
  obtain ⟨h1, h2, h3, h4, h5⟩ := h
  have mm : ∀ x, x ∈ [T, A, B, D, O', P', O, P, Ab, Be, Ag, Bg] → x ∈ [T, A, B, D, O, P, O', P', Ab, Be, Ag, Bg] := fun x hx => by
    rcases List.mem_append.mp (show x ∈ [T, A, B, D] ++ ([O', P', O, P] ++ [Ab, Be, Ag, Bg]) from hx) with u | u
    · exact (List.mem_append.mpr (Or.inl u) : x ∈ [T, A, B, D] ++ ([O, P, O', P'] ++ [Ab, Be, Ag, Bg]))
    · rcases List.mem_append.mp u with u | u
      · have u' : x ∈ [O, P, O', P'] := by
          simp only [List.mem_cons, List.not_mem_nil, or_false] at u ⊢
          omega
        exact (List.mem_append.mpr (Or.inr (List.mem_append.mpr (Or.inl u'))) : x ∈ [T, A, B, D] ++ ([O, P, O', P'] ++ [Ab, Be, Ag, Bg]))
      · exact (List.mem_append.mpr (Or.inr (List.mem_append.mpr (Or.inr u))) : x ∈ [T, A, B, D] ++ ([O, P, O', P'] ++ [Ab, Be, Ag, Bg]))
  have nd : ([T, A, B, D] ++ ([O, P, O', P'] ++ [Ab, Be, Ag, Bg])).Nodup := h2
  have nd4 : [O', P', O, P].Nodup := by
    have q := (List.nodup_append.1 (List.nodup_append.1 nd).2.1).1
    simp only [List.nodup_cons, List.mem_cons, not_or, List.not_mem_nil, not_false_eq_true, and_true] at q ⊢
    obtain ⟨⟨a, b, c⟩, ⟨e, f⟩, g, i⟩ := q
    exact ⟨⟨g, fun z => b z.symm, fun z => e z.symm⟩, ⟨fun z => c z.symm, fun z => f z.symm⟩, a, i⟩
  have lt : ∀ x, x ∈ [T, A, B, D, O, P, O', P', Ab, Be, Ag, Bg] → x < mZ M := fun x hx => h5 x (h4 x (Or.inr (Or.inr hx)))
  have nd' : ([T, A, B, D] ++ ([O', P', O, P] ++ [Ab, Be, Ag, Bg])).Nodup := nd_mid nd (z := mZ M) (fun x hx => lt x (List.mem_append.mpr (Or.inl hx) : x ∈ [T, A, B, D] ++ ([O, P, O', P'] ++ [Ab, Be, Ag, Bg]))) (fun x hx => lt x (List.mem_append.mpr (Or.inr (List.mem_append.mpr (Or.inr hx))) : x ∈ [T, A, B, D] ++ ([O, P, O', P'] ++ [Ab, Be, Ag, Bg]))) (fun x hx => Or.inl (by
    simp only [List.mem_cons, List.not_mem_nil, or_false] at hx ⊢
    omega)) nd4
  exact ⟨fun x hx => h1 x (hx.imp id (fun u => u.imp id (mm x))), nd', h3, fun x hx => h4 x (hx.imp id (fun u => u.imp id (mm x))), h5⟩
end NDC
end
section
/-! The class at rest: compile. -/
section NDD
variable {G : mG} {d t x n cn cc bc T Kt N A B D Cw p O P K p' O' P' K' Ab Be Cm U Ag Bg Cg Ps Pc Ps1 Pc1 : Nat} {M M' M1 M2 : mM} {Z Y C : Nat → Prop} {v R k : Nat → Nat} {Ls : List Nat} {c9 c8 : tG9}
/-- the spare program becomes the text -/
theorem CJ.swp {i8 : Int × Int × Int × xR9 × tE9} {M24 M26 : mM} (im : mI M p' 3 = i8.1 ∧ mI M p' 7 = i8.2.1 ∧ mI M p' 12 = i8.2.2.1 ∧ Pgm i8.2.2.2.1 M p' O' P') (hj : CJ c9 C n t Ps Pc T Kt N A B D Cw p O P K p' O' P' K' Ab Be Cm U Ag Bg Cg cn cc bc Ls v R k Z M) (pw : ∃ (V F : Nat) (ns : Nat → Int) (sf ef : Nat → Nat) (L cnt : Nat), PW M (t + 235) p' O' P' K' V F ns sf ef L cnt) (e1 : M24 = mUR M t 4 (mR M t 5)) (e2 : M26 = mUR M24 t 5 (mR M t 4)) (e3 : M' = mUI M26 t 6 1) : CJ (c9.1, 1, i8) C n t Ps Pc T Kt N A B D Cw p' O' P' K' p O P K Ab Be Cm U Ag Bg Cg cn cc bc Ls v R k Z M' ∧ stp C Ps Pc M C Ps Pc M' := by
  obtain ⟨-, ⟨lt1, lt2⟩, -⟩ := hj.top
  have rr : ∀ x i, mR M' x i = if x = t ∧ i = 5 then mR M t 4 else if x = t ∧ i = 4 then mR M t 5 else mR M x i := fun x i => by rw [e3, mR_UI, e2, mR_UR, e1, mR_UR]
  have ii : ∀ x i, mI M' x i = if x = t ∧ i = 6 then 1 else mI M x i := fun x i => by rw [e3, mI_UI, e2, mI_UR, e1, mI_UR]
  have o : mOk M' := by rw [e3]; refine mOk_UI ?_ ⟨by decide, by decide⟩; rw [e2]; refine mOk_UR ?_; rw [e1]; exact mOk_UR hj.1
  have zz : mZ M' = mZ M ∧ mS M' = mS M := by rw [e3, mZ_UI, mS_UI, e2, mZ_UR, mS_UR, e1, mZ_UR, mS_UR]; exact ⟨rfl, rfl⟩
  have f : FC (fun x => x = t) M M' := by
    refine ⟨⟨by rw [zz.1]; exact Nat.le_refl _, by rw [zz.2]; exact Nat.le_refl _⟩, fun x _ => ⟨by rw [e3, mK_UI, e2, mK_UR, e1, mK_UR], by rw [e3, mN_UI, e2, mN_UR, e1, mN_UR], fun nx => ⟨by rw [e3, mL_UI, e2, mL_UR, e1, mL_UR], ?_, ?_⟩⟩⟩
    · funext i
      rw [rr, if_neg (fun u => nx u.1), if_neg (fun u => nx u.1)]
    · funext i
      rw [ii, if_neg (fun u => nx u.1)]
  have rt : ∀ i, i ≠ 4 → i ≠ 5 → mR M' t i = mR M t i := fun i a b => by rw [rr, if_neg (fun u => b u.2), if_neg (fun u => a u.2)]
  have it : ∀ i, i ≠ 6 → mI M' t i = mI M t i := fun i a => by rw [ii, if_neg (fun u => a u.2)]
  obtain ⟨a1, a2, a3, a4, a5, a6⟩ := hj.tonly o f zz (fun i hi => rt i (by omega) (by omega)) (it 18 (by decide)) (fun _ => by rw [ii, if_pos ⟨rfl, rfl⟩]; decide)
  obtain ⟨b1, b2, b3⟩ := top_lo hj.2.2.2.2.1 hj.2.1
  obtain ⟨-, -, -, -, n5, n6⟩ := nd_ne hj.2.2.2.2.1.2.1
  obtain ⟨w1, w2, w3, w4, w5, w6, w7, w8⟩ := hj.2.1
  obtain ⟨lp, lq⟩ := lo_p w6
  have l0 := lq 0 (by decide)
  rw [Nat.add_zero] at l0
  have n1 : ∀ y, y ≠ t → ¬ (fun x => x = t) y := fun y a b => a b
  have tz' := w4.fc o f (fun x a b => n1 x (by omega)) (n1 _ (by omega))
  obtain ⟨t1, t2, t3, t4, t5, t6, t7, t8, t9⟩ := tz'
  have pk := w5.fc f (n1 p (by omega))
  have o4 := t6.2.2.2.1
  obtain ⟨V, F, ns, sf, ef, L, cnt, hw⟩ := pw
  have hw' := hw.fc f (fun i hi => n1 _ (by omega)) (n1 _ (by omega)) (n1 _ (by omega))
  refine ⟨⟨o, ⟨⟨by rw [rt 2 (by decide) (by decide)]; exact w1.1, by rw [rt 3 (by decide) (by decide)]; exact w1.2.1, ?_, ?_⟩, w2.fc f b1 (rt 0 (by decide) (by decide)) (it 1 (by decide)), w3.fc f (n1 _ (by omega)), ⟨t1, t2, t3, t4, t5, pk, ⟨by omega, by omega⟩, ⟨n5.2.2.1, n5.2.2.2, n6.2.2.1, n6.2.2.2⟩, t9⟩, t6, ?_, fun _ => ⟨V, F, ns, sf, ef, L, cnt, hw'⟩, ?_⟩, a1, a2, a3.swp, ?_, a5⟩, a6⟩
  · rw [rr, if_neg (fun u => absurd u.2 (by decide)), if_pos ⟨rfl, rfl⟩]; exact w1.2.2.2
  · rw [rr, if_pos ⟨rfl, rfl⟩]; exact w1.2.2.1
  · rcases w6 with e | e
    · exact Or.inr ⟨e.2, e.1⟩
    · exact Or.inl ⟨e.2, e.1⟩
  · have pg' := im.2.2.2.fc f hw.1 (fun i hi => n1 _ (by omega)) (n1 _ (by omega)) (n1 _ (by omega))
    exact ⟨by rw [ii, if_pos ⟨rfl, rfl⟩], fun _ => ⟨by rw [ii, if_neg (fun u => absurd u.2 (by decide))]; exact im.1, by rw [ii, if_neg (fun u => absurd u.2 (by decide))]; exact im.2.1, by rw [ii, if_neg (fun u => absurd u.2 (by decide))]; exact im.2.2.1, pg'⟩⟩
  · unfold Rmc at a4 ⊢
    exact ⟨by omega, by omega, a4.2.2⟩
/-- the states are gone -/
theorem CJ.clr (hj : CJ c9 C n t Ps Pc T Kt N A B D Cw p O P K p' O' P' K' Ab Be Cm U Ag Bg Cg cn cc bc Ls v R k Z M) (o : mOk M') (f : FI (fun x => x = t + 62) M M') (e : ∀ i, mI M' (t + 62) i = if i = 13 then 0 else if i = 12 then 0 else if i = 0 then 0 else mI M (t + 62) i) : ∃ Ps1 Pc1, CJ c9 (Zn C M M') (n + 1) t Ps1 Pc1 T Kt N A B D Cw p O P K p' O' P' K' Ab Be Cm U Ag Bg Cg 0 0 0 Ls v R k Z M' ∧ stp C Ps Pc M (Zn C M M') Ps1 Pc1 M' := by
  have fc : FC (Yg t Ag Bg) M M' := f.fc (fun x u => by have u' : x = t + 62 := u; unfold Yg; omega)
  have ne : ∀ x, x ≠ t + 62 → mI M' x = mI M x := fun x hx => f.2.2.2.2.2.2 x hx
  have et := ne t (by omega)
  obtain ⟨g1, g2, g4, g5, g6, g7, g8, g9⟩ := hj.2.2.1.up
  exact hj.game o fc (by rw [f.2.2.1]) (by rw [et]) (by rw [et]) (by rw [et]) ⟨g1.eq2 (fun i _ => ⟨by rw [f.1], by rw [f.2.1]⟩) (fun i _ => by rw [f.2.2.1]), g2.fi f (by rw [ne _ (by omega)]), g4, by rw [ne (t + 77) (by omega), ne (t + 72) (by omega)]; exact g5, by rw [ne (t + 72) (by omega)]; exact g6, Or.inl ⟨rfl, by rw [e, if_neg (by decide), if_neg (by decide), if_pos rfl]⟩, fun u => absurd u (by decide), fun _ => ⟨rfl, rfl⟩⟩ (Or.inl rfl) (Or.inl rfl) (fun _ _ _ => Or.inr (Or.inr rfl)) (fun _ k hk => absurd hk (Nat.not_lt_zero _)) (by rw [f.2.2.2.2.2.1]; exact Nat.le_refl _) (by rw [f.2.2.2.2.1]; exact Nat.le_refl _) (fun u => absurd u (by decide))
/-- the tables are forgotten -/
theorem CJ.fgt (hj : CJ c9 C n t Ps Pc T Kt N A B D Cw p O P K p' O' P' K' Ab Be Cm U Ag Bg Cg cn cc bc Ls v R k Z M) : mK M t = 1 ∧ Cv G y_CA_forget d [vr t] M (fun M' => CJ c9 C n t Ps Pc T Kt N A B D Cw p O P K p' O' P' K' Ab Be Cm U Ag Bg Cg cn cc bc Ls v R k Z M' ∧ stp C Ps Pc M C Ps Pc M' ∧ mI M' t = mI M t ∧ mI M' (v 0) 1 = 0) := by
  have jn := hj.2.2.2.1
  obtain ⟨⟨z1, -⟩, -, -⟩ := hj.top
  have tv := jn.tv3
  have nt : ∀ i, i < 4 → t ≠ v i := fun i hi e => z1 (by rw [e]; exact (jn.2.1.2.2 i hi).1)
  refine ⟨jn.2.2.1.1, (s_CA_forget (d := d) (cn := cn) hj.1 jn.2.2.1.1 ⟨tv.1, tv.2.1.tb, tv.2.2.1.tb, tv.2.2.2.tb⟩ ⟨nt 0 (by decide), nt 1 (by decide), nt 3 (by decide)⟩).mono (fun M4 q => ?_)⟩
  obtain ⟨o4, f4, q0, q1, q3⟩ := q
  obtain ⟨a, b, -, e⟩ := hj.forget o4 f4 q0 q1 q3
  exact ⟨a, b, e, q0⟩
/-- what compile answers, out of the text's letters -/
def clR (c : Nat → Int) (N : Nat) (r p : Int) (k : Int × Int × Int × xR9) : Prop := ∃ (Mx : mM) (A B D n : Nat), spx kwx c N Mx A B D n ∧ ((r = 1 ∧ ∃ q9 : Nat, Rf (cwq kwx c N n) [50] 0 q9 ∧ p = pl0 c N n q9) ∨ ((∃ a, Rc (cwq kwx c N n) [50] 0 [] (a + 1)) ∧ ∃ sF : st9, sF = its9 (cwq kwx c N n) (pl0 c N n) (nq0 c N) (sm0 c N) (n + 1) 60 (n + 1) 0 s9c ∧ r = sF.2.2.1 ∧ (r ≠ 0 → p = sF.2.2.2) ∧ (r = 0 → k = ((sF.2.1.1 : Int), (sF.2.1.2.1 : Int), (sF.2.1.2.2.1 : Int), XpG (cwq kwx c N n, pl0 c N n, nq0 c N, sm0 c N, n + 1, sF.1, igs9 (cwq kwx c N n) (pl0 c N n) (nq0 c N) (sm0 c N) (n + 1) 60 (n + 1) 0 s9c g9c)))))
theorem spx.mv {c : Nat → Int} {nw : Nat} (h : spx kwx c N M A B D nw) (hA : mI M' A = mI M A) (hB : mI M' B = mI M B) (hD : mI M' D = mI M D) : spx kwx c N M' A B D nw := by
  unfold spx at h ⊢
  rw [hA, hB, hD]
  exact h
theorem c_CA_compile (hNS : NSx G kwx) (h : CI c9 C n t Ps Pc M) (hx : XC c9.2 M t) : Ci G y_CA_compile (d + 9) [vr t] M (fun r M' => i32 r ∧ ∃ c8 : tG9, (cQ0 c8 C n t Ps Pc M M' ∧ XC c8.2 M' t) ∧ mI M' t 1 = 0 ∧ c8.1 = c9.1 ∧ clR c9.1 (mI M t 1).toNat r (mI M' t 7) (c8.2.2.1, c8.2.2.2.1, c8.2.2.2.2.1, c8.2.2.2.2.2.1) ∧ ((r ≠ 0 ∧ c8.2 = plc c9.2 (mI M' t 7)) ∨ (r = 0 ∧ c8.2.1 = 1 ∧ c8.2.2.2.2.2.2 = ((-1, c9.2.2.2.2.2.2.1.2.1, 0), [], []) ∧ mI M' t 7 = -1))) := by
  obtain ⟨T, Kt, N, A, B, D, Cw, p, O, P, K, p', O', P', K', Ab, Be, Cm, U, Ag, Bg, Cg, cn, cc, bc, Ls, v, R, k, Z, hj⟩ := h
  have tp := hj.2.1.2.1
  have r2 := hj.2.1.1.1
  have lT : T < mZ M := tp.2.2.1.2.2
  have nT := (wo_lo hj.2.2.2.2.1 hj.2.1).2.1.1
  have tT : t ≠ T := tp.2.2.1.1
  have ch9 : ∀ j, j < N → mI M T j = c9.1 j := fun j hj => (tp.2.2.2.2 j hj).2
  have eN : (mI M t 1).toNat = N := by rw [tp.1.2.2]; exact Int.toNat_natCast _
  rw [eN]
  refine k_CA_compile hj.1 ?_
  rw [r2, tp.1.2.1, tp.1.2.2]
  refine ⟨tp.1.1, hj.2.1.2.2.1.1, (x_Wo_split (d := d) hNS hj.1 hj.2.1.2.2.1 tp.2.1.1 (by rw [tp.2.1.2]; exact tp.2.2.2.1.1) tp.2.2.2.1.2.1 tp.2.2.1.2.2).mono (fun M3 q => ?_)⟩
  obtain ⟨A1, B1, D1, Cw1, nw, o3, wf, wb, -, fa, gr, sp⟩ := q
  have sp3 := spx_cg ch9 sp
  have T3 : mI M3 T = mI M T := (fa.2 T lT).2.2.2.2 nT
  obtain ⟨Ps3, Pc3, j3, s3, -, ei3, eg3, ev3⟩ := hj.words o3 fa wb gr
  have r11 := hj.2.2.2.1.2.2.1.2.2.1.1
  have nvt : v 0 ≠ t := fun e => hj.top.1.1 (by rw [← e]; exact hj.vz)
  clear hj tp r2
  refine ⟨o3, j3.2.1.2.1.1.1, fun M7 e7 => ?_⟩
  have ev7 : mI M7 (v 0) = mI M (v 0) := by
    rw [← ev3, e7]
    funext j
    rw [mI_UI, if_neg (fun u => nvt u.1)]
  have x7 : (∀ i, i ≠ 1 → mI M7 t i = mI M t i) ∧ ∀ i, i ≤ 9 → mI M7 (t + 62 + i) = mI M (t + 62 + i) := by
    refine ⟨fun i hi => by rw [e7, mI_UI, if_neg (fun u => hi u.2), ei3], fun i hi => ?_⟩
    rw [← eg3 i hi, e7]
    funext j
    rw [mI_UI, if_neg (fun u => absurd u.1 (by omega))]
  obtain ⟨j7, s7, f7⟩ := j3.empty e7
  have pl := j3.2.2.2.2.1.2.2.1
  have wf7 := wf.fi1 f7 (show ¬ t + 2 = t by omega) (show ¬ A1 = t by have := pl.2.1; omega) (show ¬ B1 = t by have := pl.2.2.1; omega) (show ¬ D1 = t by have := pl.2.2.2; omega)
  have sp7 : spx kwx c9.1 N M7 A1 B1 D1 nw := sp3.mv (f7.2.2.2.2.2.2 A1 (show ¬ A1 = t by have := pl.2.1; omega)) (f7.2.2.2.2.2.2 B1 (show ¬ B1 = t by have := pl.2.2.1; omega)) (f7.2.2.2.2.2.2 D1 (show ¬ D1 = t by have := pl.2.2.2; omega))
  have ch7 : ∀ j, j < N → mI M7 T j = c9.1 j := fun j hj => by rw [f7.2.2.2.2.2.2 T (fun u => tT u.symm), T3]; exact ch9 j hj
  have s37 := s3.trans s7
  clear j3 s3 s7 pl
  have w7 := j7.2.1.1
  rw [w7.1, w7.2.1, w7.2.2.2]
  have wtq := wt_of ch7 sp7 wf7
  have nqo : NqO (cwq kwx c9.1 N nw) (nq0 c9.1 N) nw := fun k hk h2 => by
    have := wtq.2.1 k hk h2
    omega
  refine ⟨j7.2.1.2.2.2.1.2.2.1.1, (x_TR_translate (Nn := nw + 1) (d := d) FMx.of (Nat.le_refl _) j7.2.1.2.2.2.1 (tzw_of j7.2.2.2.2.1 j7.2.1) wf7 wtq).mono (fun x M10 q => ?_)⟩
  obtain ⟨q, tv⟩ := q
  obtain ⟨X9, ex9⟩ : ∃ X9 : xR9, X9 = XpG (cwq kwx c9.1 N nw, pl0 c9.1 N nw, nq0 c9.1 N, sm0 c9.1 N, nw + 1, (its9 (cwq kwx c9.1 N nw) (pl0 c9.1 N nw) (nq0 c9.1 N) (sm0 c9.1 N) (nw + 1) 60 (nw + 1) 0 s9c).1, igs9 (cwq kwx c9.1 N nw) (pl0 c9.1 N nw) (nq0 c9.1 N) (sm0 c9.1 N) (nw + 1) 60 (nw + 1) 0 s9c g9c) := ⟨_, rfl⟩
  obtain ⟨kk, kx⟩ : ∃ kk : Int × Int × Int × xR9 × tE9, (mI M10 p' 3, mI M10 p' 7, mI M10 p' 12, X9, ((-1, c9.2.2.2.2.2.2.1.2.1, 0), [], [])) = kk := ⟨_, rfl⟩
  have pg : x = 0 → Pgm X9 M10 p' (mR M10 p' 0) (mR M10 p' 1) := fun x0 => by
    rcases tv with ⟨e1, -⟩ | ⟨rc, ft, cs⟩
    · rw [e1] at x0
      exact absurd x0 (by decide)
    · obtain ⟨O1, P1, K1, Ab1, Be1, Cm1, V, F, ns, sf, ef, c, cnt, L, tx, -, -, -, ex, x11⟩ := id q
      have xr : x = (its9 (cwq kwx c9.1 N nw) (pl0 c9.1 N nw) (nq0 c9.1 N) (sm0 c9.1 N) (nw + 1) 60 (nw + 1) 0 s9c).2.2.1 := by rw [ex]; exact ft.1
      obtain ⟨⟨-, s3, s7, s12, s11, -, sv, sr⟩, cg⟩ := cs (xr.symm.trans x0)
      obtain ⟨b1, b2⟩ := tx.2.1.2.1
      rw [s7] at b1
      refine ⟨_, (its9 (cwq kwx c9.1 N nw) (pl0 c9.1 N nw) (nq0 c9.1 N) (sm0 c9.1 N) (nw + 1) 60 (nw + 1) 0 s9c).2.1, nw, nqo, cg, ⟨?_, ?_, s12, fun u => (x11 x0).1 (s11.mpr u)⟩, ex9⟩
      · show mI M10 p' 3 = ((vcn (its9 (cwq kwx c9.1 N nw) (pl0 c9.1 N nw) (nq0 c9.1 N) (sm0 c9.1 N) (nw + 1) 60 (nw + 1) 0 s9c).1 : Nat) : Int)
        rw [sv]
        exact s3
      · show rcn (its9 (cwq kwx c9.1 N nw) (pl0 c9.1 N nw) (nq0 c9.1 N) (sm0 c9.1 N) (nw + 1) 60 (nw + 1) 0 s9c).1 ≤ 60
        rw [sr]
        omega
  have cl : ∀ (p9 : Int) (k9 : Int × Int × Int × xR9), (x ≠ 0 → p9 = mI M10 (t + 7 + 1) 4) → (x = 0 → k9 = (kk.1, kk.2.1, kk.2.2.1, kk.2.2.2.1)) → clR c9.1 N x p9 k9 := fun p9 k9 hp9 hk9 => by
    refine ⟨M7, A1, B1, D1, nw, sp7, ?_⟩
    rcases tv with ⟨e1, q9, rf, -, pq⟩ | ⟨rc, ft, cs⟩
    · exact Or.inl ⟨e1, q9, rf, by rw [hp9 (by rw [e1]; decide)]; exact pq⟩
    · obtain ⟨O1, P1, K1, Ab1, Be1, Cm1, V, F, ns, sf, ef, c, cnt, L, tx, -, -, -, ex, -⟩ := id q
      have xr : x = (its9 (cwq kwx c9.1 N nw) (pl0 c9.1 N nw) (nq0 c9.1 N) (sm0 c9.1 N) (nw + 1) 60 (nw + 1) 0 s9c).2.2.1 := by rw [ex]; exact ft.1
      refine Or.inr ⟨rc, _, rfl, xr, fun x1 => by rw [hp9 x1]; exact ft.2 (by rw [← xr]; exact x1), fun x0 => ?_⟩
      obtain ⟨⟨-, s3, s7, s12, -⟩, -⟩ := cs (xr.symm.trans x0)
      rw [hk9 x0, ← kx, s3, s7, s12, ex9]
  clear tv sp sp3 sp7 ch7 ch9 wtq nqo
  have ix : i32 x := by
    obtain ⟨O1, P1, K1, Ab1, Be1, Cm1, V, F, ns, sf, ef, c, cnt, L, tx, -, -, -, ex, -⟩ := id q
    rw [ex]; exact (tx.1.1.1 _ _).1
  obtain ⟨O1, P1, K1, Ab1, Be1, Cm1, Ps10, Pc10, j10, s10, pw, ei10, eg10, ev10⟩ := j7.trl q
  have ev := ev10.trans ev7
  have x10 : (∀ i, i ≠ 1 → mI M10 t i = mI M t i) ∧ ∀ i, i ≤ 9 → mI M10 (t + 62 + i) = mI M (t + 62 + i) := ⟨fun i hi => by rw [ei10]; exact x7.1 i hi, fun i hi => by rw [eg10 i hi]; exact x7.2 i hi⟩
  have s110 := s37.trans s10
  clear j7 s10 s37 wf7 q
  have k10 := j10.2.1.2.1.1.1
  refine ⟨ix, j10.1, fun x0 => ⟨k10, fun M19 e19 => ⟨fun _ M24 e24 M26 e26 M28 e28 => ?_, fun u => absurd x0 u⟩⟩, fun x1 => ⟨k10, ?_⟩⟩
  · obtain ⟨j19, s19⟩ := j10.tint (j := 7) (a := -1) ⟨by decide, by decide, by decide⟩ ⟨by decide, by decide⟩ e19
    have f19 : FI (fun x => x = t) M10 M19 := by rw [e19]; exact FI.ui rfl
    obtain ⟨V, F, ns, sf, ef, L, cnt, hw⟩ := pw x0
    obtain ⟨q1, q2, -⟩ := tz_pl j10.2.1
    have lp := (lo_p j10.2.1.2.2.2.2.2.1).1
    have n1 : ∀ y, y ≠ t → ¬ (fun x => x = t) y := fun y a b => a b
    have ep : mI M19 p' = mI M10 p' := f19.2.2.2.2.2.2 p' (n1 _ (by clear j10 j19; omega))
    have hw' := hw.fc (f19.fc (Z := fun x => x = t) (fun _ u => u)) (fun i hi => n1 _ (by clear j10 j19; omega)) (n1 _ (by clear j10 j19; omega)) (n1 _ (by clear j10 j19; omega))
    have pg19 : Pgm X9 M19 p' O1 P1 := by
      have := pg x0
      rw [hw.1.2.1.1, hw.1.2.1.2] at this
      exact this.fc (f19.fc (Z := fun x => x = t) (fun _ u => u)) hw.1 (fun i hi => n1 _ (by clear j10 j19; omega)) (n1 _ (by clear j10 j19; omega)) (n1 _ (by clear j10 j19; omega))
    obtain ⟨j28, s28⟩ := j19.swp (i8 := kk) (by rw [ep, ← kx]; exact ⟨rfl, rfl, rfl, pg19⟩) ⟨V, F, ns, sf, ef, L, cnt, hw'⟩ e24 e26 e28
    clear j10 j19 hw hw' pw
    have tr := j28.2.2.2.1.2.2.1
    rw [tr.2.1.1]
    refine ⟨j28.2.2.1.1.1, (s_Ga_clear j28.1 j28.2.2.1.1.1).mono (fun M31 q => ?_)⟩
    obtain ⟨Ps31, Pc31, j31, s31⟩ := j28.clr q.1 q.2.1 q.2.2
    have t31 : ∀ i, i ≠ 6 → mI M31 t i = mI M19 t i := fun i hi => by rw [q.2.1.2.2.2.2.2.2 t (show ¬ (t = t + 62) by omega), e28, mI_UI, if_neg (fun u => hi u.2), e26, mI_UR, e24, mI_UR]
    obtain ⟨a1, a2⟩ := j31.fgt (G := G) (d := d + 8)
    refine ⟨q.1, a1, a2.mono (fun M35 w => ?_)⟩
    obtain ⟨w1, w2, w3, w4⟩ := w
    have t7 : mI M35 t 7 = -1 := by rw [w3, t31 7 (by decide), e19, mI_UI, if_pos ⟨rfl, rfl⟩]
    have t8 : mI M35 t 8 = c9.2.2.2.2.2.2.1.2.1 := by rw [w3, t31 8 (by decide), e19, mI_UI, if_neg (fun u => absurd u.2 (by decide)), x10.1 8 (by decide)]; exact hx.2.1.1
    have g0 : mI M35 (t + 62) 0 = 0 := w1.top.2.2
    refine ⟨w1.1, ix, (c9.1, 1, kk), ⟨w1.q (s110.trans (s19.trans (s28.trans (s31.trans w2)))), ?_⟩, by rw [w1.2.1.2.1.1.2.2]; rfl, rfl, cl _ _ (fun u => absurd x0 u) (fun _ => rfl), Or.inr ⟨x0, rfl, by rw [← kx], t7⟩⟩
    show XC (1, kk) M35 t
    unfold XC
    rw [← kx]
    exact ⟨t7, ⟨t8, by rw [w1.2.2.2.1.2.2.1.2.2.1.1]; exact w4⟩, g0, fun _ => rfl, fun u => absurd rfl u⟩
  · have tz := j10.2.1.2.2.2.1
    have w10 := j10.2.1.1
    rw [w10.2.1]
    refine ⟨tz.2.2.1.1, k_TR_faultPlace j10.1 ?_⟩
    rw [tz.2.2.1.2.1]
    refine ⟨tz.2.2.1.1, tz.2.1.1, (j10.1 _ _).1, j10.1, k10, fun M44 e44 => ⟨fun u => absurd u x1, fun _ => ⟨ix, ?_⟩⟩⟩
    obtain ⟨j44, s44⟩ := j10.tint (j := 7) ⟨by decide, by decide, by decide⟩ (j10.1 _ _).1 e44
    have t7 : mI M44 t 7 = mI M10 (t + 7 + 1) 4 := by rw [e44, mI_UI, if_pos ⟨rfl, rfl⟩]
    have t8 : mI M44 t 8 = mI M t 8 := by rw [e44, mI_UI, if_neg (fun u => absurd u.2 (by decide))]; exact x10.1 8 (by decide)
    have tg : ∀ i, i ≤ 9 → mI M44 (t + 62 + i) = mI M (t + 62 + i) := fun i hi => by
      rw [← x10.2 i hi, e44]
      funext j
      rw [mI_UI, if_neg (fun u => absurd u.1 (by omega))]
    have g0 := tg 0 (by decide)
    rw [Nat.add_zero] at g0
    obtain ⟨x1', x2', x3', x4', x5'⟩ := hx
    have k44 : mI M44 (mR M44 t 11) 1 = c9.2.2.2.2.2.2.1.2.2 := by
      rw [j44.2.2.2.1.2.2.1.2.2.1.1, e44, mI_UI, if_neg (fun u => nvt u.1), ev, ← r11]
      exact x2'.2
    exact ⟨(c9.1, plc c9.2 (mI M44 t 7)), ⟨(j44.up.q (s110.trans s44)).e9, rfl, ⟨by rw [t8]; exact x2'.1, k44⟩, by rw [g0]; exact x3', x4', fun u => XC.tb (x5' u) (fun i hi _ => tg i hi)⟩, by rw [j44.2.1.2.1.1.2.2]; rfl, rfl, cl _ _ (fun _ => t7) (fun u => absurd u x1), Or.inl ⟨x1, rfl⟩⟩
end NDD
end
section
/-! Class and reference side by side: each is left alone by the other's steps. -/
section NDE
variable {Nt9 : tP9} {G : mG} {y : mY} {d t a x n p Ps Pc : Nat} {As : List mV} {M M' : mM} {Y C : Nat → Prop} {c9 c8 : tG9}
theorem Ci.mz {Q : Int → mM → Prop} (h : Ci G y d As M Q) : Ci G y d As M (fun r M' => Q r M' ∧ mZ M ≤ mZ M' ∧ mS M ≤ mS M') := by
  obtain ⟨r, M1, h1, x, e, h2⟩ := h
  exact ⟨r, M1, h1, x, e, h2, h1.1⟩
theorem Cv.mz {Q : mM → Prop} (h : Cv G y d As M Q) : Cv G y d As M (fun M' => Q M' ∧ mZ M ≤ mZ M' ∧ mS M ≤ mS M') := by
  obtain ⟨r, M1, h1, e, h2⟩ := h
  exact ⟨r, M1, h1, e, h2, h1.1⟩
theorem FR.fc (h : FR M a M') (hs : mS M ≤ mS M') : FC (own M a) M M' := by
  obtain ⟨h1, h2, h3, -⟩ := h
  exact ⟨⟨h1, hs⟩, fun x hx => ⟨(h2 x hx).1, (h2 x hx).2, fun nz => ⟨(h3 x hx nz).2.2, (h3 x hx nz).1, (h3 x hx nz).2.1⟩⟩⟩
theorem Nu.sm (h : Nu M p) (hp : Sm M M' p) (hA : Sm M M' (mR M p 0)) (hz : mZ M ≤ mZ M') : Nu M' p ∧ sameN M M' p := by
  obtain ⟨h1, h2, ⟨h3, h4⟩, h5, h6⟩ := h
  have ec : cp M' p = cp M p := by unfold cp; rw [hp.2.2.1, hA.2.1]
  exact ⟨⟨by rw [hp.1]; exact h1, by rw [hp.2.2.1, hA.1]; exact h2, ⟨by omega, by rw [hp.2.2.1]; omega⟩, by rw [hp.2.2.2, ec]; exact h5, by rw [ec]; exact h6⟩, by unfold ln; rw [hp.2.2.2], fun j => by unfold nt; rw [hp.2.2.1, hA.2.2.2], ec, hp.2.2.1⟩
/-- the reference is left alone -/
theorem RI.off (h : RI Nt9 M a) (o : mOk M') (f : FC Y M M') (hY : ∀ x, Y x → ¬ own M a x) : RI Nt9 M' a ∧ (∀ q, q ∈ nums a → sameN M M' q) ∧ (∀ x, own M' a x ↔ own M a x) := by
  have hxe := h.xe
  obtain ⟨-, w, ⟨l1, l2⟩, rx⟩ := h.r0
  have hz := f.1.1
  have zz := w.2.2.2
  have no : ∀ x, own M a x → ¬ Y x := fun x u v => hY x v u
  have sm : ∀ x, a ≤ x → x ≤ a + 21191 → Sm M M' x ∧ mL M' x = mL M x := fun x b c => ⟨f.sm (by omega) (no x (Or.inl ⟨b, c⟩)), ((f.2 x (by omega)).2.2 (no x (Or.inl ⟨b, c⟩))).1⟩
  have hin : ∀ q, q ∈ nums a → a ≤ q ∧ q ≤ a + 21191 := fun q hq => by have := nums_in hq; omega
  have nus : ∀ q, q ∈ nums a → Nu M' q ∧ sameN M M' q := fun q hq => (w.nu hq).sm (sm q (hin q hq).1 (hin q hq).2).1 (f.sm (w.nu hq).2.2.1.2 (no _ (Or.inr ⟨q, hq, rfl⟩))) hz
  have s0 := sm a (by omega) (by omega)
  have r9 : mR M' a = mR M a := s0.1.2.2.1
  have w' : Wd M' a := by
    refine ⟨pl_same zz (fun x hx => (f.2 x hx).1) (fun x hx => (f.2 x hx).2.1) r9 (sm (a + 13) (by omega) (by omega)).1.2.2.1 (sm (a + 49) (by omega) (by omega)).1.2.2.1 w.1, fun q hq => ⟨(nus q hq).1, ?_, ?_⟩, fun p q hp hq hne => ?_, by omega⟩
    · rw [(nus q hq).2.2.2.2]; exact (w.arr hq).2
    · rw [(nus q hq).2.2.2.1]; exact w.bd hq
    · rw [(nus p hp).2.2.2.2, (nus q hq).2.2.2.2]; exact w.2.2.1 p q hp hq hne
  have hg := w.g9
  have sl9 : ∀ q, q ∈ nums a → sl M M' q := fun q hq => (nus q hq).2.sl
  have xe : xeF M M' a := ⟨by rw [s0.1.2.2.2]; exact ⟨rfl, rfl, rfl⟩, ⟨(sm _ (by omega) (by omega)).1.2.2.2, (sm _ (by omega) (by omega)).1.2.2.2, (sm _ (by omega) (by omega)).1.2.2.2, (sm _ (by omega) (by omega)).1.2.2.2, (sm _ (by omega) (by omega)).1.2.2.2⟩, ⟨(sm _ (by omega) (by omega)).2, (sm _ (by omega) (by omega)).2⟩, sl9 _ (nums_o (by decide)), sl9 _ (nums_o (by decide)), sl9 _ (nums_o (by decide)), sl9 _ (nums_o (by decide)), by rw [(sm (a + 117) (by omega) (by omega)).1.2.2.2], fun i p q => (sm (a + 117 + i) (by omega) (by omega)).1.2.2.2⟩
  have ra : RA M M' a (mR M a 9) := by
    refine ⟨by rw [s0.1.2.2.2]; exact ⟨rfl, rfl, rfl⟩, fun x x1 x2 => ⟨(sm x (by omega) (by omega)).1.1, (sm x (by omega) (by omega)).1.2.1, (sm x (by omega) (by omega)).1.2.2.1, (sm x (by omega) (by omega)).1.2.2.2⟩, ⟨sl9 _ (nums_o (by decide)), sl9 _ (nums_o (by decide)), sl9 _ (nums_o (by decide))⟩, ⟨(sm _ (by omega) (by omega)).1.2.2.2, (sm _ (by omega) (by omega)).1.2.2.2⟩, fun q hq => sl9 q (gL9_in hg hq), (sm _ (by rcases hg with e | e <;> rw [e] <;> omega) (by rcases hg with e | e <;> rw [e] <;> omega)).1.2.2.2, fun i i1 i2 => ?_, xe⟩
    have := sm (mR M a 9 + i) (by rcases hg with e | e <;> rw [e] <;> omega) (by rcases hg with e | e <;> rw [e] <;> omega)
    exact ⟨this.1.2.2.2, this.2⟩
  refine ⟨RI0.ri ⟨o, w', ?_, by rw [r9]; exact rx.ra ra⟩ (hxe.xe xe (by rw [s0.1.2.2.2]) (by rw [(sm (a + 117 + 30) (by omega) (by omega)).1.2.2.2])), fun q hq => (nus q hq).2, fun x => ?_⟩
  · rw [r9]; exact ⟨l1.sm (nus _ w.tape.1).2, by rw [(nus _ w.tape.2.1).2.1]; exact l2⟩
  · unfold own
    constructor
    · rintro (u | ⟨q, hq, u⟩)
      · exact Or.inl u
      · exact Or.inr ⟨q, hq, by rw [u, (nus q hq).2.2.2.2]⟩
    · rintro (u | ⟨q, hq, u⟩)
      · exact Or.inl u
      · exact Or.inr ⟨q, hq, by rw [u, (nus q hq).2.2.2.2]⟩
/-- the class is left alone -/
theorem CI.off (h : CI c9 C n t Ps Pc M) (o : mOk M') (f : FC Y M M') (hY : ∀ x, Y x → ¬ C x) : CI c9 C n t Ps Pc M' ∧ mI M' t = mI M t ∧ mR M' t = mR M t := by
  obtain ⟨T, Kt, N, A, B, D, Cw, p, O, P, K, p', O', P', K', Ab, Be, Cm, U, Ag, Bg, Cg, cn, cc, bc, Ls, v, R, k, Z, hj⟩ := h
  obtain ⟨-, ⟨lt1, lt2⟩, -⟩ := hj.top
  obtain ⟨h1, h2, h3, h4, h5, h6, h7⟩ := hj
  obtain ⟨c1, c2, c3⟩ := h5.oc
  have no : ∀ x, C x → ¬ Y x := fun x u v => hY x v u
  obtain ⟨-, er, ei⟩ := (f.2 t lt1).2.2 (no t (c1 t (by omega) (by omega)).1)
  obtain ⟨ns, pe, qe⟩ := h4.fc o f (fun x u w => no x (c2 x w).1 u) (fun i hi => no _ (c1 _ (by omega) (by omega)).1) (no _ (c1 _ (by omega) (by omega)).1) lt2 (fun i _ => by rw [er]) (by rw [ei])
  refine ⟨⟨T, Kt, N, A, B, D, Cw, p, O, P, K, p', O', P', K', Ab, Be, Cm, U, Ag, Bg, Cg, cn, cc, bc, Ls, v, R, k, Z, o, h2.fc o f (fun x a b => no x (c1 x (by omega) (by omega)).1) (no T (c3 T (by simp)).1) (no O (c3 O (by simp)).1) (no P (c3 P (by simp)).1) (fun i _ => by rw [er]) (by rw [ei]) (by rw [ei]), h3.fc f (fun x a b => no x (c1 x (by omega) (by omega)).1), ns, h5.mz f.1.1, ?_, by rw [ei]; exact h7⟩, ei, er⟩
  unfold Rmc
  rw [pe, qe]
  exact h6
theorem tE.off {Nn : tP9} (h : CI c9 C n t Ps Pc M) (f : FC Y M M') (hY : ∀ x, Y x → ¬ C x) (e : tE Nn M t) : tE Nn M' t := by
  obtain ⟨T, Kt, N, A, B, D, Cw, p, O, P, K, p', O', P', K', Ab, Be, Cm, U, Ag, Bg, Cg, cn, cc, bc, Ls, v, R, k, Z, hj⟩ := h
  obtain ⟨c1, c2, c3⟩ := hj.2.2.2.2.1.oc
  have s : ∀ x, t ≤ x → x < t + 235 → mI M' x = mI M x := fun x a b => (f.sm (c1 x a b).2 (fun u => hY x u (c1 x a b).1)).2.2.2
  have st := s t (Nat.le_refl _) (by omega)
  have er := (f.sm (c1 t (Nat.le_refl _) (by omega)).2 (fun u => hY t u (c1 t (Nat.le_refl _) (by omega)).1)).2.2.1
  exact sE.trans ⟨by rw [st], by rw [st], by rw [st], fun i hi _ => s _ (by omega) (by omega), hj.knf (by rw [er]) (by rw [hj.vfc f (fun x u w => hY x u (c2 x w).1)])⟩ e
end NDE
end
