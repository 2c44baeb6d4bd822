/-! The class at rest: a text is translated, and becomes the text. -/
section NDC
variable {G : mG} {d t x n cn cc bc T Kt N A B D Cw p O P K p' O' P' K' Ab Be Cm U Ag Bg Cg Ps Pc Ps1 Pc1 A1 B1 D1 O1 P1 K1 Ab1 Be1 Cm1 N0 nw : Nat} {M M' M1 M2 : mM} {Z Y C : Nat → Prop} {v R k : Nat → Nat} {Ls : List Nat} {c9 c8 : tG9}
theorem Wf.fi1 {w : Nat} {S : Nat → Prop} (h : Wf M w T A B D N0 Cw nw) (f : FI S M M') (hw : ¬ S w) (hA : ¬ S A) (hB : ¬ S B) (hD : ¬ S D) : Wf M' w T A B D N0 Cw nw := by
  unfold Wf WA at h ⊢
  rw [f.1, f.2.1, f.2.2.1, f.2.2.2.2.2.2 w hw, f.2.2.2.2.2.2 A hA, f.2.2.2.2.2.2 B hB, f.2.2.2.2.2.2 D hD]
  exact h
/-- two different places of the list of cells -/
theorem nd_ne (nd : [T, A, B, D, O, P, O', P', Ab, Be, Ag, Bg].Nodup) : (T ≠ O' ∧ T ≠ P' ∧ T ≠ Ab ∧ T ≠ Be) ∧ (A ≠ O' ∧ A ≠ P' ∧ A ≠ Ab ∧ A ≠ Be) ∧ (B ≠ O' ∧ B ≠ P' ∧ B ≠ Ab ∧ B ≠ Be) ∧ (D ≠ O' ∧ D ≠ P' ∧ D ≠ Ab ∧ D ≠ Be) ∧ (O ≠ O' ∧ O ≠ P' ∧ O ≠ Ab ∧ O ≠ Be) ∧ (P ≠ O' ∧ P ≠ P' ∧ P ≠ Ab ∧ P ≠ Be) := by
  simp only [List.nodup_cons, List.mem_cons, not_or, List.not_mem_nil, not_false_eq_true, and_true] at nd
  obtain ⟨⟨-, -, -, -, -, t1, t2, t3, t4, -⟩, ⟨-, -, -, -, a1, a2, a3, a4, -⟩, ⟨-, -, -, b1, b2, b3, b4, -⟩, ⟨-, -, d1, d2, d3, d4, -⟩, ⟨-, o1, o2, o3, o4, -⟩, ⟨p1, p2, p3, p4, -⟩, -⟩ := nd
  exact ⟨⟨t1, t2, t3, t4⟩, ⟨a1, a2, a3, a4⟩, ⟨b1, b2, b3, b4⟩, ⟨d1, d2, d3, d4⟩, ⟨o1, o2, o3, o4⟩, ⟨p1, p2, p3, p4⟩⟩
theorem of_ne {a b z x : Nat} (o : b = a ∨ z ≤ b) (h : x ≠ a) (hz : x < z) : x ≠ b := by omega
theorem lo_p (pp : (p = t + 30 ∧ p' = t + 46) ∨ (p = t + 46 ∧ p' = t + 30)) : (t + 30 ≤ p' ∧ p' ≤ t + 46) ∧ (∀ i, i ≤ 15 → t + 30 ≤ p + i ∧ p + i < t + 62 ∧ ¬ (p' ≤ p + i ∧ p + i ≤ p' + 15)) := by
  refine ⟨by omega, fun i hi => ?_⟩
  omega
/-- cells of the reader, and of the program that is spare -/
theorem tzs_no (a : ¬ (t + 7 ≤ x ∧ x ≤ t + 29)) (b : ¬ (p' ≤ x ∧ x ≤ p' + 15)) (c : x ≠ O' ∧ x ≠ P' ∧ x ≠ Ab ∧ x ≠ Be) : ¬ tzS (t + 7) p' O' P' Ab Be x := by
  rintro (u | u | u | u | u | u)
  · exact a ⟨u.1, by omega⟩
  · exact b u
  · exact c.1 u
  · exact c.2.1 u
  · exact c.2.2.1 u
  · exact c.2.2.2 u
theorem tz_pl (hx : Tx c9 t T Kt N A B D Cw p O P K p' O' P' K' Ab Be Cm M) : (O' = p' + 1 ∨ t + 236 ≤ O') ∧ (P' = p' + 2 ∨ t + 236 ≤ P') ∧ (Ab = t + 21 ∨ t + 236 ≤ Ab) ∧ (Be = t + 22 ∨ t + 236 ≤ Be) ∧ (O = p + 1 ∨ t + 236 ≤ O) ∧ (P = p + 2 ∨ t + 236 ≤ P) := by
  have o4 := hx.2.2.2.1.2.2.2.2.2.1.2.2.2.1
  have q4 := hx.2.2.2.2.1.2.2.2.1
  have m4 := hx.2.2.2.1.2.2.2.2.1.2.2.2.2.2.1
  exact ⟨o4.1, o4.2.1, m4.1, m4.2.1, q4.1, q4.2.1⟩
/-- a cell of the first ones, but not of theirs -/
theorem tz_out (hx : Tx c9 t T Kt N A B D Cw p O P K p' O' P' K' Ab Be Cm M) (a : ¬ (t + 7 ≤ x ∧ x ≤ t + 29)) (b : ¬ (p' ≤ x ∧ x ≤ p' + 15)) (c : x < t + 236) : ¬ tzS (t + 7) p' O' P' Ab Be x := by
  obtain ⟨q1, q2, q3, q4, -⟩ := tz_pl hx
  clear hx
  exact tzs_no a b ⟨of_ne q1 (by omega) c, of_ne q2 (by omega) c, of_ne q3 (by omega) c, of_ne q4 (by omega) c⟩
/-- the words lie apart from the reader and the program -/
theorem tzw_of (h : Ap Z C t T A B D O P O' P' Ab Be Ag Bg M) (hx : Tx c9 t T Kt N A B D Cw p O P K p' O' P' K' Ab Be Cm M) : TZw M (t + 7) (t + 2) T A B D p' O' P' Ab Be := by
  obtain ⟨c1, -, c3⟩ := h.oc
  have lp := (lo_p hx.2.2.2.2.2.1).1
  obtain ⟨q1, q2, q3, q4, -⟩ := tz_pl hx
  obtain ⟨pT, pA, pB, pD⟩ := h.2.2.1
  obtain ⟨n1, n2, n3, n4, -⟩ := nd_ne h.2.1
  have l2 := (c1 (t + 2) (by omega) (by omega)).2
  have lT := (c3 T (by simp)).2
  have lA := (c3 A (by simp)).2
  have lB := (c3 B (by simp)).2
  have lD := (c3 D (by simp)).2
  clear hx h c1 c3
  intro x u
  rcases u with u | u | u | u | u <;> subst u
  · clear n1 n2 n3 n4 pT pA pB pD
    exact ⟨by omega, by omega, of_ne q1 (by omega) (by omega), of_ne q2 (by omega) (by omega), of_ne q3 (by omega) (by omega), of_ne q4 (by omega) (by omega), l2⟩
  · clear q1 q2 q3 q4 n2 n3 n4 pA pB pD
    exact ⟨by omega, by omega, n1.1, n1.2.1, n1.2.2.1, n1.2.2.2, lT⟩
  · clear q1 q2 q3 q4 n1 n3 n4 pT pB pD
    exact ⟨by omega, by omega, n2.1, n2.2.1, n2.2.2.1, n2.2.2.2, lA⟩
  · clear q1 q2 q3 q4 n1 n2 n4 pT pA pD
    exact ⟨by omega, by omega, n3.1, n3.2.1, n3.2.2.1, n3.2.2.2, lB⟩
  · clear q1 q2 q3 q4 n1 n2 n3 pT pA pB
    exact ⟨by omega, by omega, n4.1, n4.2.1, n4.2.2.1, n4.2.2.2, lD⟩
/-- the cells that translating may change -/
theorem tz_lo (h : Ap Z C t T A B D O P O' P' Ab Be Ag Bg M) (hx : Tx c9 t T Kt N A B D Cw p O P K p' O' P' K' Ab Be Cm M) : (¬ tzS (t + 7) p' O' P' Ab Be t ∧ ¬ tzS (t + 7) p' O' P' Ab Be (t + 2)) ∧ (∀ i, i ≤ 15 → ¬ tzS (t + 7) p' O' P' Ab Be (p + i)) ∧ (¬ tzS (t + 7) p' O' P' Ab Be T ∧ ¬ tzS (t + 7) p' O' P' Ab Be O ∧ ¬ tzS (t + 7) p' O' P' Ab Be P) ∧ (∀ x, t + 62 ≤ x → x < t + 236 → ¬ tzS (t + 7) p' O' P' Ab Be x) ∧ (∀ x, tzS (t + 7) p' O' P' Ab Be x → C x ∧ ¬ Z x) := by
  obtain ⟨z1, -⟩ := h.nz
  obtain ⟨c1, c2, c3⟩ := h.oc
  obtain ⟨lp, lq⟩ := lo_p hx.2.2.2.2.2.1
  obtain ⟨-, -, -, -, q5, q6⟩ := tz_pl hx
  have pT := h.2.2.1.1
  have hn := h.1
  obtain ⟨n1, -, -, -, n5, n6⟩ := nd_ne h.2.1
  have out : ∀ x, ¬ (t + 7 ≤ x ∧ x ≤ t + 29) → ¬ (p' ≤ x ∧ x ≤ p' + 15) → x < t + 236 → ¬ tzS (t + 7) p' O' P' Ab Be x := fun x a b c => tz_out hx a b c
  clear hx h
  have tT : ¬ (t + 7 ≤ T ∧ T ≤ t + 29) ∧ ¬ (p' ≤ T ∧ T ≤ p' + 15) := by clear n1 n5 n6 q5 q6 lq out; omega
  refine ⟨⟨out _ (by omega) (by omega) (by omega), out _ (by omega) (by omega) (by omega)⟩, fun i hi => out _ (by have := lq i hi; omega) (lq i hi).2.2 (by have := lq i hi; omega), ⟨tzs_no tT.1 tT.2 n1, tzs_no ?_ ?_ n5, tzs_no ?_ ?_ n6⟩, fun x a b => out x (by omega) (by omega) b, fun x u => ?_⟩
  · have l1 := lq 1 (by decide)
    clear lq out n1 n5 n6 q6 pT
    rcases q5 with e | e <;> omega
  · have l1 := lq 1 (by decide)
    clear lq out n1 n5 n6 q6 pT
    rcases q5 with e | e
    · rw [e]; exact l1.2.2
    · omega
  · have l1 := lq 2 (by decide)
    clear lq out n1 n5 n6 q5 pT
    rcases q6 with e | e <;> omega
  · have l1 := lq 2 (by decide)
    clear lq out n1 n5 n6 q5 pT
    rcases q6 with e | e
    · rw [e]; exact l1.2.2
    · omega
  clear n1 n5 n6 q5 q6 pT lq out
  rcases u with u | u | u | u | u | u
  · exact ⟨(c1 x (by omega) (by omega)).1, z1 x (by omega) (by omega)⟩
  · exact ⟨(c1 x (by omega) (by omega)).1, z1 x (by omega) (by omega)⟩
  · rw [u]; exact ⟨(c3 O' (by simp)).1, hn _ (Or.inr (Or.inr (by simp)))⟩
  · rw [u]; exact ⟨(c3 P' (by simp)).1, hn _ (Or.inr (Or.inr (by simp)))⟩
  · rw [u]; exact ⟨(c3 Ab (by simp)).1, hn _ (Or.inr (Or.inr (by simp)))⟩
  · rw [u]; exact ⟨(c3 Be (by simp)).1, hn _ (Or.inr (Or.inr (by simp)))⟩
theorem Ap.trl (h : Ap Z C t T A B D O P O' P' Ab Be Ag Bg M) (hz : mZ M ≤ mZ M') (e1 : (O1 = O' ∧ P1 = P') ∨ (mZ M ≤ O1 ∧ mZ M ≤ P1)) (e2 : Ab1 = Ab ∨ mZ M ≤ Ab1) (e3 : Be1 = Be ∨ mZ M ≤ Be1) (lt : O1 < mZ M' ∧ P1 < mZ M' ∧ Ab1 < mZ M' ∧ Be1 < mZ M') (ne : O1 ≠ P1 ∧ Ab1 ≠ Be1 ∧ O1 ≠ Ab1 ∧ O1 ≠ Be1 ∧ P1 ≠ Ab1 ∧ P1 ≠ Be1) : Ap Z (Zn C M M') t T A B D O P O1 P1 Ab1 Be1 Ag Bg M' := by
  obtain ⟨c1, c2, c3⟩ := h.oc
  have nd : ([T, A, B, D, O, P] ++ ([O', P', Ab, Be] ++ [Ag, Bg])).Nodup := h.2.1
  have hm : ∀ x, x ∈ [O1, P1, Ab1, Be1] → x ∈ [O', P', Ab, Be] ∨ mZ M ≤ x := fun x hx => by
    simp only [List.mem_cons, List.not_mem_nil, or_false] at hx ⊢
    omega
  have hl : ∀ x, x ∈ [O1, P1, Ab1, Be1] → x < mZ M' := fun x hx => by
    simp only [List.mem_cons, List.not_mem_nil, or_false] at hx
    omega
  have nd4 : [O1, P1, Ab1, Be1].Nodup := by
    simp only [List.nodup_cons, List.mem_cons, not_or, List.not_mem_nil, not_false_eq_true, and_true]
    exact ⟨⟨ne.1, ne.2.2.1, ne.2.2.2.1⟩, ⟨ne.2.2.2.2.1, ne.2.2.2.2.2⟩, ne.2.1, trivial, List.nodup_nil⟩
  have in1 : ∀ x, x ∈ [T, A, B, D, O, P] → x ∈ [T, A, B, D, O, P, O', P', Ab, Be, Ag, Bg] := fun x hx => (List.mem_append.mpr (Or.inl hx) : x ∈ [T, A, B, D, O, P] ++ [O', P', Ab, Be, Ag, Bg])
  have in2 : ∀ x, x ∈ [Ag, Bg] → x ∈ [T, A, B, D, O, P, O', P', Ab, Be, Ag, Bg] := fun x hx => (List.mem_append.mpr (Or.inr hx) : x ∈ [T, A, B, D, O, P, O', P', Ab, Be] ++ [Ag, Bg])
  have in3 : ∀ x, x ∈ [O', P', Ab, Be] → x ∈ [T, A, B, D, O, P, O', P', Ab, Be, Ag, Bg] := fun x hx => (List.mem_append.mpr (Or.inr (List.mem_append.mpr (Or.inl hx))) : x ∈ [T, A, B, D, O, P] ++ ([O', P', Ab, Be] ++ [Ag, Bg]))
  have nd' : ([T, A, B, D, O, P] ++ ([O1, P1, Ab1, Be1] ++ [Ag, Bg])).Nodup := nd_mid nd (z := mZ M) (fun x hx => (c3 x (in1 x hx)).2) (fun x hx => (c3 x (in2 x hx)).2) hm nd4
  refine h.re hz nd' h.2.2.1 (fun x hx => ?_)
  rcases List.mem_append.mp (show x ∈ [T, A, B, D, O, P] ++ ([O1, P1, Ab1, Be1] ++ [Ag, Bg]) from hx) with u | u
  · exact Or.inl (in1 x u)
  · rcases List.mem_append.mp u with u | u
    · exact (hm x u).imp (in3 x) (fun w => ⟨w, hl x u⟩)
    · exact Or.inl (in2 x u)
theorem rmc_trl (h6 : Rmc Kt Cw K K' Cm Cg Ps Pc Ls k M) (pe : Pn Ls k M' = Pn Ls k M ∧ Qn Ls k M' = Qn Ls k M) (r1 : mS M' + 4 * Cm + 4 * K' ≤ mS M + 4 * Cm1 + 4 * K1) (r2 : 64 * mZ M' + 2 * Cm + K' ≤ 64 * mZ M + 2 * Cm1 + K1) : Rmc Kt Cw K K1 Cm1 Cg (Ps + 4 * Cm1 + 4 * K1 - 4 * Cm - 4 * K') (Pc + 2 * Cm1 + K1 - 2 * Cm - K') Ls k M' ∧ mS M' + Ps ≤ mS M + (Ps + 4 * Cm1 + 4 * K1 - 4 * Cm - 4 * K') ∧ 64 * mZ M' + Pc ≤ 64 * mZ M + (Pc + 2 * Cm1 + K1 - 2 * Cm - K') := by
  unfold Rmc at h6 ⊢
  rw [pe.1, pe.2]
  exact ⟨⟨by omega, by omega, h6.2.2⟩, by omega, by omega⟩
/-- the reader at rest again -/
theorem tz_of {z q w a c L V F cnt : Nat} {ns : Nat → Int} {sf ef : Nat → Nat} (h : TX M z q w T A B D N0 Cw nw p O P K Ab Be Cm V F ns sf ef c cnt L) : TZ M z q p O P K Ab Be Cm ∧ (O < mZ M ∧ P < mZ M ∧ Ab < mZ M ∧ Be < mZ M) ∧ (O ≠ P ∧ Ab ≠ Be) := by
  obtain ⟨⟨⟨b1, b2, b3, b4, b5, b6, b7⟩, ⟨c1, c2, c3, c4, c5, c6⟩, t3, t4, t5, ⟨s1, s2, s3⟩, t7⟩, ⟨d1, d2, d3, d4⟩, -⟩ := h
  have oz := b5.2.2.2.2.1
  have mz := t4.2.2.2.2.2.2.1
  exact ⟨⟨b1, b2, ⟨c1, c2, c3, c5, c6⟩, t3, t4, b5, ⟨s1, s2⟩, t7, d4⟩, ⟨oz.2.1, oz.2.2, mz.2.1, mz.2.2.1⟩, b5.2.2.2.1.2.2.1, t4.2.2.2.2.2.1.2.2.1⟩
/-- a text that was read can be explored -/
theorem pw_of {z q w c L V F cnt : Nat} {ns : Nat → Int} {sf ef : Nat → Nat} (h : TX M z q w T A B D N0 Cw nw p O P K Ab Be Cm V F ns sf ef c cnt L) (e3 : mI M (q + 1) 3 = 0) (h11 : mI M p 11 ≠ -1) (h2 : mI M p 2 = ((L : Nat) : Int)) (hL : L ≤ nw) : PW M z p O P K V F ns sf ef L cnt := by
  obtain ⟨⟨⟨b1, b2, b3, b4, b5, b6, b7⟩, -⟩, ⟨d1, d2, d3, d4⟩, ⟨e1, e2⟩⟩ := h
  obtain ⟨u, u1, u2⟩ := e2 e3
  have w1 := b4.1.2.2.2.2.2.2.1
  have w2 := b4.2.2.1
  exact ⟨b5, ⟨h2, by omega, by omega⟩, d1, d2.2, e1, h11, u, u1, u2⟩
/-- a text is translated -/
theorem CJ.trl {x : Int} (hj : CJ c9 C n t Ps Pc T Kt N A B D Cw p O P K p' O' P' K' Ab Be Cm U Ag Bg Cg cn cc bc Ls v R k Z M) (q : tzQ M (t + 236) (t + 7) (t + 2) T A B D N0 Cw nw p' O' P' K' Ab Be Cm x M') : ∃ O1 P1 K1 Ab1 Be1 Cm1 Ps1 Pc1, CJ c9 (Zn C M M') n t Ps1 Pc1 T Kt N A B D Cw p O P K p' O1 P1 K1 Ab1 Be1 Cm1 U Ag Bg Cg cn cc bc Ls v R k Z M' ∧ stp C Ps Pc M (Zn C M M') Ps1 Pc1 M' ∧ (x = 0 → ∃ (V F : Nat) (ns : Nat → Int) (sf ef : Nat → Nat) (L cnt : Nat), PW M' (t + 236) p' O1 P1 K1 V F ns sf ef L cnt) ∧ mI M' t = mI M t ∧ (∀ i, i ≤ 9 → mI M' (t + 62 + i) = mI M (t + 62 + i)) ∧ mI M' (v 0) = mI M (v 0) := by
  have hj0 := hj
  obtain ⟨-, ⟨lt1, lt2⟩, -⟩ := hj.top
  obtain ⟨h1, h2, h3, h4, h5, h6, h7⟩ := hj
  obtain ⟨O1, P1, K1, Ab1, Be1, Cm1, V, F, ns, sf, ef, c, cnt, L, tx, fa, ⟨e1, e2, e3⟩, ⟨r1, r2⟩, ex, ex0⟩ := q
  obtain ⟨⟨y0, y2⟩, yp, ⟨y3, y4, y5⟩, yg, y6⟩ := tz_lo h5 h2
  obtain ⟨tz, lt, ⟨ne1, ne2⟩⟩ := tz_of (a := 0) tx
  have o := tz.1
  have pp := h2.2.2.2.2.2.1
  have fc : FC (tzS (t + 7) p' O' P' Ab Be) M M' := fa.fc (fun _ u => u) (fun x u => by unfold tzR at u; unfold tzS; clear h2 h3 h4 h5 tx; omega)
  obtain ⟨-, er, ei⟩ := (fc.2 t lt1).2.2 y0
  obtain ⟨w1, w2, w3, w4, w5, w6, w7, w8⟩ := h2
  have tx' : Tx c9 t T Kt N A B D Cw p O P K p' O1 P1 K1 Ab1 Be1 Cm1 M' := by
    refine ⟨by rw [er]; exact w1, w2.fc fc y3 (by rw [er]) (by rw [ei]), w3.fc fc y2, tz, w5.fc fc (yp 0 (by decide)), w6, fun u => ?_, w8.fc fc w5 (by rw [ei]) yp y4 y5⟩
    rw [ei] at u
    obtain ⟨V, F, ns, sf, ef, L, cnt, hw⟩ := w7 u
    exact ⟨V, F, ns, sf, ef, L, cnt, hw.fc fc yp y4 y5⟩
  obtain ⟨ns', pq⟩ := h4.fc o fc (fun x u => (y6 x u).2) (fun i hi => yg _ (by omega) (by omega)) (yg _ (by omega) (by omega)) lt2 (fun i _ => by rw [er]) (by rw [ei])
  obtain ⟨rm, s1, s2⟩ := rmc_trl h6 pq r1 r2
  refine ⟨O1, P1, K1, Ab1, Be1, Cm1, _, _, ⟨o, tx', h3.fc fc (fun x a b => yg x (by omega) (by omega)), ns', h5.trl fc.1.1 e1 e2 e3 lt ⟨ne1, ne2, tz.2.2.2.2.2.2.2.1.1, tz.2.2.2.2.2.2.2.1.2.1, tz.2.2.2.2.2.2.2.1.2.2.1, tz.2.2.2.2.2.2.2.1.2.2.2⟩, rm, by rw [ei]; exact h7⟩, ⟨fc.mono (fun x _ u => (y6 x u).1), fun x u => u, s1, s2⟩, fun x0 => ?_, ei, fun i hi => (fc.sm (by clear hj0; omega) (yg _ (by omega) (by omega))).2.2.2, hj0.vfc fc (fun x u => (y6 x u).2)⟩
  obtain ⟨a1, a2, a3⟩ := ex0 x0
  exact ⟨V, F, ns, sf, ef, L, cnt, pw_of tx (by rw [← ex]; exact x0) a1 a2 a3⟩
theorem Ap.swp (h : Ap Z C t T A B D O P O' P' Ab Be Ag Bg M) : Ap Z C t T A B D O' P' O P Ab Be Ag Bg M := by
  obtain ⟨h1, h2, h3, h4, h5⟩ := h
  have mm : ∀ x, x ∈ [T, A, B, D, O', P', O, P, Ab, Be, Ag, Bg] → x ∈ [T, A, B, D, O, P, O', P', Ab, Be, Ag, Bg] := fun x hx => by
    rcases List.mem_append.mp (show x ∈ [T, A, B, D] ++ ([O', P', O, P] ++ [Ab, Be, Ag, Bg]) from hx) with u | u
    · exact (List.mem_append.mpr (Or.inl u) : x ∈ [T, A, B, D] ++ ([O, P, O', P'] ++ [Ab, Be, Ag, Bg]))
    · rcases List.mem_append.mp u with u | u
      · have u' : x ∈ [O, P, O', P'] := by
          simp only [List.mem_cons, List.not_mem_nil, or_false] at u ⊢
          omega
        exact (List.mem_append.mpr (Or.inr (List.mem_append.mpr (Or.inl u'))) : x ∈ [T, A, B, D] ++ ([O, P, O', P'] ++ [Ab, Be, Ag, Bg]))
      · exact (List.mem_append.mpr (Or.inr (List.mem_append.mpr (Or.inr u))) : x ∈ [T, A, B, D] ++ ([O, P, O', P'] ++ [Ab, Be, Ag, Bg]))
  have nd : ([T, A, B, D] ++ ([O, P, O', P'] ++ [Ab, Be, Ag, Bg])).Nodup := h2
  have nd4 : [O', P', O, P].Nodup := by
    have q := (List.nodup_append.1 (List.nodup_append.1 nd).2.1).1
    simp only [List.nodup_cons, List.mem_cons, not_or, List.not_mem_nil, not_false_eq_true, and_true] at q ⊢
    obtain ⟨⟨a, b, c⟩, ⟨e, f⟩, g, i⟩ := q
    exact ⟨⟨g, fun z => b z.symm, fun z => e z.symm⟩, ⟨fun z => c z.symm, fun z => f z.symm⟩, a, i⟩
  have lt : ∀ x, x ∈ [T, A, B, D, O, P, O', P', Ab, Be, Ag, Bg] → x < mZ M := fun x hx => h5 x (h4 x (Or.inr (Or.inr hx)))
  have nd' : ([T, A, B, D] ++ ([O', P', O, P] ++ [Ab, Be, Ag, Bg])).Nodup := nd_mid nd (z := mZ M) (fun x hx => lt x (List.mem_append.mpr (Or.inl hx) : x ∈ [T, A, B, D] ++ ([O, P, O', P'] ++ [Ab, Be, Ag, Bg]))) (fun x hx => lt x (List.mem_append.mpr (Or.inr (List.mem_append.mpr (Or.inr hx))) : x ∈ [T, A, B, D] ++ ([O, P, O', P'] ++ [Ab, Be, Ag, Bg]))) (fun x hx => Or.inl (by
    simp only [List.mem_cons, List.not_mem_nil, or_false] at hx ⊢
    omega)) nd4
  exact ⟨fun x hx => h1 x (hx.imp id (fun u => u.imp id (mm x))), nd', h3, fun x hx => h4 x (hx.imp id (fun u => u.imp id (mm x))), h5⟩
end NDC
