/-! The class's reader of texts: translate, the whole. -/
section TRS
variable {G : mG} {d z q w T A B D N C n p O P K Ab Be Cm V F c s s' L L' cnt Bn a d0 V1 F1 nw k e s9 S0 wd ix nbr u v i Ab0 Be0 Cm0 Ab1 Be1 Cm1 : Nat} {M0 M M' M1 M2 : mM} {ns ns' ns1 : Nat → Int} {sf ef sf' ef' : Nat → Nat} {H H1 : Nat → Nat} {S R : Nat → Prop}
/-- the reader of texts at rest -/
def TZ (M : mM) (z q p O P K Ab Be Cm : Nat) : Prop := mOk M ∧ RK M (q + 1) ∧ (mK M q = 3 ∧ mR M q 0 = q + 1 ∧ mR M q 1 = q + 11 ∧ mR M q 5 = q + 21 ∧ mR M q 6 = q + 22) ∧ (mK M (q + 21) = 30 ∧ mK M (q + 22) = 30 ∧ mN M (q + 21) = 3 ∧ mN M (q + 22) = 3) ∧ MK M z (q + 11) (q + 12) Ab Be Cm ∧ PK M z p O P K ∧ (q + 23 ≤ z ∧ (q + 22 < p ∨ p + 15 < q)) ∧ (O ≠ Ab ∧ O ≠ Be ∧ P ≠ Ab ∧ P ≠ Be) ∧ (∀ j, mI M (q + 6) j = 0 ∨ mI M (q + 6) j = 1)
/-- the words lie apart from it -/
def TZw (M : mM) (q w T A B D p O P Ab Be : Nat) : Prop := ∀ x, (x = w ∨ x = T ∨ x = A ∨ x = B ∨ x = D) → ¬ (q ≤ x ∧ x ≤ q + 22) ∧ ¬ (p ≤ x ∧ x ≤ p + 15) ∧ x ≠ O ∧ x ≠ P ∧ x ≠ Ab ∧ x ≠ Be ∧ x < mZ M
def tzS (q p O P Ab Be : Nat) : Nat → Prop := fun x => (q ≤ x ∧ x ≤ q + 22) ∨ (p ≤ x ∧ x ≤ p + 15) ∨ x = O ∨ x = P ∨ x = Ab ∨ x = Be
def tzR (q p : Nat) : Nat → Prop := fun x => x = q ∨ x = q + 1 ∨ x = q + 11 ∨ x = p
/-- what translate comes to -/
def tzQ (M0 : mM) (z q w T A B D N C n p O0 P0 K0 Ab0 Be0 Cm0 : Nat) (x : Int) (M' : mM) : Prop := ∃ (O P K Ab Be Cm V F : Nat) (ns : Nat → Int) (sf ef : Nat → Nat) (c cnt L : Nat), TX M' z q w T A B D N C n p O P K Ab Be Cm V F ns sf ef c cnt L ∧ FA (tzS q p O0 P0 Ab0 Be0) (tzR q p) M0 M' ∧ (((O = O0 ∧ P = P0) ∨ (mZ M0 ≤ O ∧ mZ M0 ≤ P)) ∧ (Ab = Ab0 ∨ mZ M0 ≤ Ab) ∧ (Be = Be0 ∨ mZ M0 ≤ Be)) ∧ (mS M' + 4 * Cm0 + 4 * K0 ≤ mS M0 + 4 * Cm + 4 * K ∧ 64 * mZ M' + 2 * Cm0 + K0 ≤ 64 * mZ M0 + 2 * Cm + K) ∧ x = mI M' (q + 1) 3 ∧ (x = 0 → mI M' p 11 ≠ -1 ∧ mI M' p 2 = ((L : Nat) : Int) ∧ L ≤ n)
theorem RK.eq2 {r : Nat} (h : RK M r) (v : ∀ i, i ≤ 9 → mK M' (r + i) = mK M (r + i) ∧ mN M' (r + i) = mN M (r + i)) (hr : ∀ i, 8 ≤ i → mR M' r i = mR M r i) : RK M' r := by
  unfold RK at h ⊢
  have v0 := v 0 (by omega)
  rw [Nat.add_zero] at v0
  rw [v0.1, (v 1 (by omega)).1, (v 2 (by omega)).1, (v 3 (by omega)).1, (v 4 (by omega)).1, (v 5 (by omega)).1, (v 6 (by omega)).1, (v 7 (by omega)).1, (v 8 (by omega)).1, (v 9 (by omega)).1, (v 1 (by omega)).2, (v 2 (by omega)).2, (v 3 (by omega)).2, (v 4 (by omega)).2, (v 5 (by omega)).2, (v 6 (by omega)).2, (v 7 (by omega)).2, (v 8 (by omega)).2, (v 9 (by omega)).2, hr 8 (by omega), hr 9 (by omega), hr 10 (by omega), hr 11 (by omega), hr 13 (by omega), hr 15 (by omega), hr 16 (by omega), hr 17 (by omega), hr 18 (by omega)]
  exact h
theorem MK.eq2 {m U : Nat} (h : MK M z m U Ab Be Cm) (hc : ∀ x, x < mZ M → mK M' x = mK M x ∧ mN M' x = mN M x) (hr : ∀ i, 3 ≤ i → mR M' m i = mR M m i) (h4 : mI M' m 4 = mI M m 4) (hz : mZ M ≤ mZ M') : MK M' z m U Ab Be Cm := by
  obtain ⟨e1, e2, e3, e4, e5, ⟨e61, e62, e63, e64⟩, ⟨e7, e8, e9, e10⟩, e11⟩ := h
  have v : ∀ i, i ≤ 9 → mK M' (m + i) = mK M (m + i) ∧ mN M' (m + i) = mN M (m + i) := fun i hi => hc _ (by omega)
  have v0 := v 0 (by omega)
  rw [Nat.add_zero] at v0
  unfold MK
  rw [v0.1, (v 2 (by omega)).1, (v 5 (by omega)).1, (v 6 (by omega)).1, (v 7 (by omega)).1, (v 8 (by omega)).1, (v 9 (by omega)).1, (v 2 (by omega)).2, (v 5 (by omega)).2, (v 6 (by omega)).2, (v 7 (by omega)).2, (v 8 (by omega)).2, (v 9 (by omega)).2, (hc U e10).1, (hc U e10).2, (hc Ab e8).1, (hc Ab e8).2, (hc Be e9).1, (hc Be e9).2, hr 3 (by omega), hr 5 (by omega), hr 6 (by omega), hr 7 (by omega), hr 10 (by omega), hr 11 (by omega), hr 12 (by omega), hr 13 (by omega), hr 14 (by omega), h4]
  exact ⟨e1, e2, e3, e4, e5, ⟨e61, e62, e63, e64⟩, ⟨by omega, by omega, by omega, by omega⟩, e11⟩
theorem tz1 {q p z : Nat} (s1 : q + 23 ≤ z) (s2 : q + 22 < p ∨ p + 15 < q) : q + 1 + 9 < z ∧ (q + 1 + 9 < p ∨ p + 15 < q + 1) := by omega
theorem tz2 {q x : Nat} (y1 : q + 1 ≤ x) (y2 : x ≤ q + 1 + 9) : q ≤ x ∧ x ≤ q + 22 := by omega
theorem tz3 {q p O P O' P' Ab Be x Z : Nat} (hx : x < Z) (hOP : (O' = O ∧ P' = P) ∨ (Z ≤ O' ∧ Z ≤ P')) (y : trS q p O' P' Ab Be x) : tzS q p O P Ab Be x := by
  show (q ≤ x ∧ x ≤ q + 22) ∨ (p ≤ x ∧ x ≤ p + 15) ∨ x = O ∨ x = P ∨ x = Ab ∨ x = Be
  rcases y with y | y
  · rcases y with y | y | y | y | y | y | y
    · omega
    · omega
    · omega
    · omega
    · omega
    · omega
    · omega
  · rcases y with y | y | y | y | y
    · omega
    · omega
    · omega
    · omega
    · omega
theorem tz4 {q p O P Ab Be x : Nat} (y : x = p ∨ x = p + 12 ∨ x = q + 1) : tzS q p O P Ab Be x := by
  show (q ≤ x ∧ x ≤ q + 22) ∨ (p ≤ x ∧ x ≤ p + 15) ∨ x = O ∨ x = P ∨ x = Ab ∨ x = Be
  omega
/-- the start: cells of the reader after begin -/
theorem tz_start {O' P' K' : Nat} (h : TZ M z q p O P K Ab Be Cm) (hw : TZw M q w T A B D p O P Ab Be) (hW : Wf M w T A B D N C n) (ok : mOk M') (f : FA (fun x => x = p ∨ x = p + 12 ∨ x = q + 1) (tzR q p) M M') (pk : PK M' z p O' P' K') (nK : n + 1 ≤ K') (hOP : (O' = O ∧ P' = P) ∨ (mZ M ≤ O' ∧ mZ M ≤ P')) (rr : ∀ i, mR M' (q + 1) i = if i = 1 then p else if i = 0 then w else mR M (q + 1) i) (rq : ∀ i, mR M' q i = if i = 2 then p else mR M q i) (rm : ∀ i, mR M' (q + 11) i = if i = 0 then p else mR M (q + 11) i) (ip : mI M' p 2 = 0 ∧ mI M' p 3 = 0 ∧ mI M' p 7 = 0 ∧ mI M' p 12 = 0 ∧ mI M' p 11 = -1) (i12 : mI M' (p + 12) 0 = 0) (ir : mI M' (q + 1) 2 = 0 ∧ mI M' (q + 1) 3 = 0 ∧ mI M' (q + 1) 5 = 0 ∧ mI M' (q + 1) 19 = 0) : TX M' z q w T A B D N C n p O' P' K' Ab Be Cm 0 0 (fun _ => 0) (fun _ => 0) (fun _ => 0) 0 0 0 := by
  obtain ⟨h1, h2, ⟨q0, q1, q2, q5, q6⟩, h4, h5, h6, ⟨s1, s2⟩, s3, h9⟩ := h
  have zz := f.1.1
  obtain ⟨z0, zA, zB, zU⟩ := h5.2.2.2.2.2.2.1
  obtain ⟨sA, sB, sne, sz⟩ := h5.2.2.2.2.2.1
  obtain ⟨-, -, -, ⟨o1, o2, o3, o4⟩, ⟨pz0, pz1, pz2⟩, -⟩ := id h6
  have bq : ∀ i, i ≤ 22 → q + i < mZ M := fun i hi => by omega
  have bq0 : q < mZ M := by omega
  have nq : ∀ i, i ≤ 22 → q + i ≠ p ∧ q + i ≠ p + 12 := fun i hi => by omega
  have cell : ∀ x, x < mZ M → mK M' x = mK M x ∧ mN M' x = mN M x := fun x hx => ⟨(f.2 x hx).1, (f.2 x hx).2.1⟩
  have iI : ∀ x, x < mZ M → x ≠ p → x ≠ p + 12 → x ≠ q + 1 → mI M' x = mI M x := fun x hx b1 b2 b3 => (f.2 x hx).2.2.2.2 (fun y => y.elim b1 (fun y => y.elim b2 b3))
  have sw : ∀ x, (x = w ∨ x = T ∨ x = A ∨ x = B ∨ x = D) → sm4 M M' x := fun x hx => by
    obtain ⟨u1, u2, u3, u4, u5, u6, u7⟩ := hw x hx
    clear hw hW h5 h6 pk rr rq rm hOP o1 o2 sA sB s2 s3 nq bq
    refine ⟨(cell x u7).1, (cell x u7).2, (f.2 x u7).2.2.2.1 (fun y => ?_), iI x u7 (by omega) (by omega) (by omega)⟩
    have y' : x = q ∨ x = q + 1 ∨ x = q + 11 ∨ x = p := y
    omega
  have rk : RK M' (q + 1) := h2.eq2 (fun i hi => cell _ (by rw [show q + 1 + i = q + (1 + i) by omega]; exact bq _ (by omega))) (fun i hi => by rw [rr, if_neg (by omega), if_neg (by omega)])
  have mk : MK M' z (q + 11) (q + 12) Ab Be Cm := h5.eq2 cell (fun i hi => by rw [rm, if_neg (by omega)]) (by rw [iI (q + 11) (bq 11 (by omega)) (nq 11 (by omega)).1 (nq 11 (by omega)).2 (by omega)]) zz
  have sO : (O' ≠ Ab ∧ O' ≠ Be ∧ P' ≠ Ab ∧ P' ≠ Be) := by
    rcases hOP with ⟨e1, e2⟩ | ⟨e1, e2⟩
    · rw [e1, e2]; exact s3
    · exact ⟨fun u => absurd zA (Nat.not_lt.mpr (by rw [← u]; exact e1)), fun u => absurd zB (Nat.not_lt.mpr (by rw [← u]; exact e1)), fun u => absurd zA (Nat.not_lt.mpr (by rw [← u]; exact e2)), fun u => absurd zB (Nat.not_lt.mpr (by rw [← u]; exact e2))⟩
  have sX := tz1 s1 s2
  refine ⟨⟨⟨ok, rk, ⟨by rw [rr 0]; rfl, by rw [rr 1]; rfl⟩, hW.eq sw, pk, ⟨sX.1, sX.2, fun x hx => ?_⟩, nK⟩, ⟨by rw [(cell q bq0).1]; exact q0, by rw [rq 0]; exact q1, by rw [rq 1]; exact q2, by rw [rq 2]; rfl, by rw [rq 5]; exact q5, by rw [rq 6]; exact q6⟩, by rw [(cell (q + 21) (bq 21 (by decide))).1, (cell (q + 22) (bq 22 (by decide))).1, (cell (q + 21) (bq 21 (by decide))).2, (cell (q + 22) (bq 22 (by decide))).2]; exact h4, mk, by rw [rm 0]; rfl, ⟨s1, s2, fun x hx => ?_⟩, sO⟩, ⟨⟨ip.2.1, Nat.zero_le _⟩, ⟨ip.2.2.1, Nat.zero_le _⟩, ⟨ir.2.2.2, Nat.zero_le _, fun i hi => absurd hi (Nat.not_lt_zero _)⟩, fun j => by rw [iI (q + 6) (bq 6 (by decide)) (nq 6 (by decide)).1 (nq 6 (by decide)).2 (by omega)]; exact h9 j⟩, ⟨ip.2.2.2.1, Nat.zero_le _⟩, fun _ => ⟨0, i12, fun x hx => absurd hx (Nat.not_lt_zero _), Or.inl ip.2.2.2.2, fun j hj => absurd hj (Nat.not_lt_zero _), i12, fun j hj => absurd hj (Nat.not_lt_zero _), ⟨0, i12, Nat.le_refl _, Nat.zero_le _⟩, fun b hb => absurd hb (Nat.not_lt_zero _)⟩⟩
  · obtain ⟨u1, u2, u3, u4, u5, u6, u7⟩ := hw x hx
    intro y
    rcases y with ⟨y1, y2⟩ | y | y | y
    · exact u1 (tz2 y1 y2)
    · exact u2 y
    · rcases hOP with ⟨e1, -⟩ | ⟨e1, -⟩
      · exact u3 (y.trans e1)
      · exact absurd u7 (Nat.not_lt.mpr (by rw [y]; exact e1))
    · rcases hOP with ⟨-, e1⟩ | ⟨-, e1⟩
      · exact u4 (y.trans e1)
      · exact absurd u7 (Nat.not_lt.mpr (by rw [y]; exact e1))
  · obtain ⟨u1, u2, u3, u4, u5, u6, u7⟩ := hw x hx
    exact ⟨u1, u5, u6, Nat.lt_of_lt_of_le u7 zz⟩
theorem hmono_41 {l3 : Int} {Q Q' : Int → mM → Prop} (h : h_TR_translate_41 G d q w l3 M Q) (hq : ∀ x M', Q x M' → Q' x M') : h_TR_translate_41 G d q w l3 M Q' := by
  unfold h_TR_translate_41 at h ⊢
  exact mWm.mono h (fun r M' k => by
    obtain ⟨x, e, t⟩ := k
    exact ⟨x, e, hq x M' t⟩)
theorem s_TR_translate (hF : FMs G) (h : TZ M z q p O P K Ab Be Cm) (hw : TZw M q w T A B D p O P Ab Be) (hW : Wf M w T A B D N C n) : Ci G y_TR_translate (d + 8) [vr q, vr w, vr p] M (tzQ M z q w T A B D N C n p O P K Ab Be Cm) := by
  have hn := hW.2.2.1
  have hN := hW.1.2.2.2.2.2.2.1
  obtain ⟨h1, h2, ⟨q0, q1, q2, q5, q6⟩, h4, h5, h6, ⟨s1, s2⟩, s3, h9⟩ := id h
  have z0 := h5.2.2.2.2.2.2.1.1
  obtain ⟨-, -, -, ⟨o1, o2, o3, o4⟩, ⟨pz0, pz1, pz2⟩, -⟩ := id h6
  have wz := hw w (Or.inl rfl)
  have npq : p ≠ q ∧ p ≠ q + 1 ∧ p ≠ q + 11 ∧ q ≠ p ∧ q + 11 ≠ p ∧ q + 1 ≠ p ∧ p + 12 ≠ q + 1 := by
    clear h h1 h2 h4 h5 h6 h9 hW hw hF
    omega
  have bz : q < mZ M ∧ q + 1 < mZ M ∧ q + 11 < mZ M := by
    clear h h1 h2 h4 h5 h6 h9 hW hw hF
    omega
  have qn : q ≠ q + 11 ∧ q + 1 ≠ q + 11 ∧ q ≠ q + 1 ∧ q + 11 ≠ q + 1 ∧ q + 11 ≠ q ∧ q + 1 ≠ q := by
    clear h h1 h2 h4 h5 h6 h9 hW hw hF
    omega
  refine k_TR_translate h1 ⟨q0, fun M2 e2 => ?_⟩
  have f2 : FA (fun _ => False) (fun x => x = q) M M2 := FA.ur rfl e2
  have w2 : mI M2 w 2 = ((n + 1 : Nat) : Int) := by rw [e2, mI_UR, hW.2.1]; rfl
  have rq2 : ∀ i, mR M2 q i = if i = 2 then p else mR M q i := fun i => by
    rw [e2, mR_UR]
    by_cases y : i = 2
    · rw [if_pos ⟨rfl, y⟩, if_pos y]
    · rw [if_neg (fun t => y t.2), if_neg y]
  have p2 : PK M2 z p O P K := h6.fa f2 npq.1
  rw [rq2 2, if_pos rfl, w2]
  refine ⟨by rw [(f2.2 w wz.2.2.2.2.2.2).1]; exact hW.1.1, p2.1, (s_Pr_clear (q := n + 1) (show mOk M2 by rw [e2]; exact h1) p2 (by omega)).mono (fun M6 k => ?_)⟩
  obtain ⟨O', P', K', o6, p6, nK, -, f6, ip, i12, gr⟩ := k
  have Z2 : mZ M2 = mZ M := by rw [e2]; rfl
  have S2 : mS M2 = mS M := by rw [e2]; rfl
  have z26 := f6.1.1
  have f26 : FA (fun x => x = p ∨ x = p + 12) (fun x => x = q ∨ x = p) M M6 := (f2.mono (fun _ _ y => y.elim) (fun _ _ y => Or.inl y)).trans2 f6 (fun _ _ y => y) (fun _ _ y => Or.inr y)
  have rq6 : ∀ i, mR M6 q i = if i = 2 then p else mR M q i := fun i => by rw [(f6.2 q (by rw [Z2]; exact bz.1)).2.2.2.1 npq.2.2.2.1]; exact rq2 i
  have rm6 : mR M6 (q + 11) = mR M (q + 11) := (f26.2 (q + 11) bz.2.2).2.2.2.1 (fun y => y.elim qn.2.2.2.2.1 npq.2.2.2.2.1)
  have rr6 : mR M6 (q + 1) = mR M (q + 1) := (f26.2 (q + 1) bz.2.1).2.2.2.1 (fun y => y.elim qn.2.2.2.2.2 npq.2.2.2.2.2.1)
  rw [rq6 1, if_neg (by decide), q2, rq6 2, if_pos rfl]
  refine ⟨o6, by rw [(f26.2 q bz.1).1]; exact q0, by rw [(f26.2 (q + 11) bz.2.2).1]; exact h5.1, fun M11 e11 => ?_⟩
  have f11 : FA (fun _ => False) (fun x => x = q + 11) M6 M11 := FA.ur rfl e11
  have rq11 : ∀ i, mR M11 q i = if i = 2 then p else mR M q i := fun i => by rw [e11, mR_UR, if_neg (fun t => qn.1 t.1)]; exact rq6 i
  have rm11 : ∀ i, mR M11 (q + 11) i = if i = 0 then p else mR M (q + 11) i := fun i => by
    rw [e11, mR_UR]
    by_cases y : i = 0
    · rw [if_pos ⟨rfl, y⟩, if_pos y]
    · rw [if_neg (fun t => y t.2), if_neg y, rm6]
  have rr11 : mR M11 (q + 1) = mR M (q + 1) := by
    funext i
    rw [e11, mR_UR, if_neg (fun t => qn.2.1 t.1), rr6]
  have i11 : mI M11 = mI M6 := by rw [e11]; rfl
  have o11 : mOk M11 := by rw [e11]; exact o6
  have Z11 : mZ M11 = mZ M6 := by rw [e11]; rfl
  have S11 : mS M11 = mS M6 := by rw [e11]; rfl
  have k11 : ∀ x, mK M11 x = mK M6 x := fun x => by rw [e11]; rfl
  rw [rq11 0, if_neg (by decide), q1, rq11 2, if_pos rfl]
  refine ⟨by rw [k11, (f26.2 (q + 1) bz.2.1).1]; exact h2.1, k_RR_begin o11 ⟨by rw [k11, (f26.2 (q + 1) bz.2.1).1]; exact h2.1, fun B2 b2 B4 b4 B6 b6 B8 b8 B10 b10 B12 b12 B14 b14 => ?_⟩⟩
  have g4 : FA (fun x => x = q + 1) (fun x => x = q + 1) M11 B4 := (FA.ur (S := fun x => x = q + 1) (R := fun x => x = q + 1) rfl b2).trans (FA.ur rfl b4)
  have c6 : FI (fun x => x = q + 1) B4 B6 := by rw [b6]; exact FI.ui rfl
  have c8 : FI (fun x => x = q + 1) B6 B8 := by rw [b8]; exact FI.ui rfl
  have c10 : FI (fun x => x = q + 1) B8 B10 := by rw [b10]; exact FI.ui rfl
  have c12 : FI (fun x => x = q + 1) B10 B12 := by rw [b12]; exact FI.ui rfl
  have c14 : FI (fun x => x = q + 1) B12 B14 := by rw [b14]; exact FI.ui rfl
  have cc := (((c6.trans c8).trans c10).trans c12).trans c14
  have g14 : FA (fun x => x = q + 1) (fun x => x = q + 1) M11 B14 := g4.trans (FI.fa cc)
  have o14 : mOk B14 := by rw [b14]; exact mOk_UI (by rw [b12]; exact mOk_UI (by rw [b10]; exact mOk_UI (by rw [b8]; exact mOk_UI (by rw [b6]; exact mOk_UI (by rw [b4]; exact mOk_UR (by rw [b2]; exact mOk_UR o11)) ⟨by decide, by decide⟩) ⟨by decide, by decide⟩) ⟨by decide, by decide⟩) ⟨by decide, by decide⟩) ⟨by decide, by decide⟩
  have r4 : ∀ x i, mR B4 x i = if x = q + 1 ∧ i = 1 then p else if x = q + 1 ∧ i = 0 then w else mR M11 x i := fun x i => by rw [b4, mR_UR, b2, mR_UR]
  have ZB : mZ B14 = mZ M6 := by rw [cc.2.2.2.2.1, b4, mZ_UR, b2, mZ_UR, Z11]
  have SB : mS B14 = mS M6 := by rw [cc.2.2.2.2.2.1, b4, mS_UR, b2, mS_UR, S11]
  have F14 : FA (fun x => x = p ∨ x = p + 12 ∨ x = q + 1) (tzR q p) M B14 := by
    have a1 : FA (fun x => x = p ∨ x = p + 12 ∨ x = q + 1) (tzR q p) M M6 := f26.mono (fun x _ y => y.elim (fun u => Or.inl u) (fun u => Or.inr (Or.inl u))) (fun x _ y => y.elim (fun u => Or.inl u) (fun u => Or.inr (Or.inr (Or.inr u))))
    exact (a1.trans2 f11 (fun _ _ y => y.elim) (fun x _ y => Or.inr (Or.inr (Or.inl y)))).trans2 g14 (fun x _ y => Or.inr (Or.inr y)) (fun x _ y => Or.inr (Or.inl y))
  have pk14 : PK B14 z p O' P' K' := (p6.fa f11 npq.2.2.1).fa g14 npq.2.1
  have ib : ∀ x, x ≠ q + 1 → mI B14 x = mI M6 x := fun x hx => by rw [cc.2.2.2.2.2.2 x hx, b4, mI_UR, b2, mI_UR, i11]
  have iq : mI B14 (q + 1) 2 = 0 ∧ mI B14 (q + 1) 3 = 0 ∧ mI B14 (q + 1) 5 = 0 ∧ mI B14 (q + 1) 19 = 0 := by
    refine ⟨?_, ?_, ?_, ?_⟩
    · rw [mI_ui _ _ b14, if_neg (fun t => absurd t.2 (by decide)), mI_ui _ _ b12, if_neg (fun t => absurd t.2 (by decide)), mI_ui _ _ b10, if_neg (fun t => absurd t.2 (by decide)), mI_ui _ _ b8, if_neg (fun t => absurd t.2 (by decide)), mI_ui _ _ b6, if_pos ⟨rfl, rfl⟩]
    · rw [mI_ui _ _ b14, if_neg (fun t => absurd t.2 (by decide)), mI_ui _ _ b12, if_neg (fun t => absurd t.2 (by decide)), mI_ui _ _ b10, if_neg (fun t => absurd t.2 (by decide)), mI_ui _ _ b8, if_pos ⟨rfl, rfl⟩]
    · rw [mI_ui _ _ b14, if_neg (fun t => absurd t.2 (by decide)), mI_ui _ _ b12, if_pos ⟨rfl, rfl⟩]
    · rw [mI_ui _ _ b14, if_pos ⟨rfl, rfl⟩]
  have hOP : (O' = O ∧ P' = P) ∨ (mZ M ≤ O' ∧ mZ M ≤ P') := by
    rcases gr with ⟨u1, u2, -⟩ | ⟨u1, u2, -⟩
    · exact Or.inl ⟨u1, u2⟩
    · exact Or.inr ⟨by omega, by omega⟩
  have X := tz_start h hw hW o14 F14 pk14 nK hOP (fun i => by
      rw [cc.2.2.1, r4, rr11]
      by_cases y1 : i = 1
      · rw [if_pos ⟨rfl, y1⟩, if_pos y1]
      · rw [if_neg (fun t => y1 t.2), if_neg y1]
        by_cases y0 : i = 0
        · rw [if_pos ⟨rfl, y0⟩, if_pos y0]
        · rw [if_neg (fun t => y0 t.2), if_neg y0]) (fun i => by rw [cc.2.2.1, r4, if_neg (fun t => qn.2.2.1 t.1), if_neg (fun t => qn.2.2.1 t.1), rq11]) (fun i => by rw [cc.2.2.1, r4, if_neg (fun t => qn.2.2.2.1 t.1), if_neg (fun t => qn.2.2.2.1 t.1), rm11]) (by rw [ib p npq.2.1]; exact ip) (by rw [ib (p + 12) npq.2.2.2.2.2.2]; exact i12) iq
  have p14 : mI B14 p 2 = ((0 : Nat) : Int) := by rw [ib p npq.2.1]; exact ip.1
  clear f2 f6 f26 f11 g4 c6 c8 c10 c12 c14 g14 r4 rq2 rq6 rm6 rr6 rq11 rm11 rr11 b2 b4 b6 b8 b10 b12 b14 e2 e11 i11 ib cc k11 w2 p2 p6 ip i12
  refine ⟨o14, ?_⟩
  have zM : mZ M6 = mZ M ∧ mS M6 = mS M ∧ K' = K ∨ (2 * K ≤ K' ∧ mZ M6 = mZ M + 2 ∧ mS M6 = mS M + 2 * K') := by
    rcases gr with ⟨-, -, u3, u4, u5⟩ | ⟨-, -, u3, u4, u5⟩
    · exact Or.inl ⟨by omega, by omega, u3⟩
    · exact Or.inr ⟨u3, by omega, by omega⟩
  have K128 := h6.2.2.2.2.2.1.1
  refine hmono_41 (s_tl41 (M0 := B14) (Ab0 := Ab) (Be0 := Be) (Cm0 := Cm) hF (n + 1) 0 B14 Ab Be Cm 0 0 (fun _ => 0) (fun _ => 0) (fun _ => 0) 0 0 0 0 (by omega) (by omega) X p14 iq.1 (by omega) (by omega) iq.2.2.1 trF.refl) (fun x M' k => ?_)
  obtain ⟨Ab1, Be1, Cm1, V, F, ns, sf, ef, c, cnt, L, h1', ⟨t1, t2, t3, t4⟩, e1, e2⟩ := k
  refine ⟨O', P', K', Ab1, Be1, Cm1, V, F, ns, sf, ef, c, cnt, L, h1', ?_, ⟨hOP, ?_, ?_⟩, ⟨?_, ?_⟩, e1, e2⟩
  · have a1 : FA (tzS q p O P Ab Be) (tzR q p) M B14 := F14.mono (fun x _ y => tz4 y) (fun _ _ y => y)
    exact a1.trans2 t1 (fun x hx y => tz3 hx hOP y) (fun x _ y => Or.inr (Or.inr (Or.inl y)))
  · exact t2.1.imp (fun u => u) (fun u => Nat.le_trans F14.1.1 u)
  · exact t2.2.imp (fun u => u) (fun u => Nat.le_trans F14.1.1 u)
  · clear h hw hW h1 h2 h4 h5 h6 h9 X F14 pk14 o14 h1' t1 t2 hOP o1 o2 s2 s3 wz gr
    omega
  · clear h hw hW h1 h2 h4 h5 h6 h9 X F14 pk14 o14 h1' t1 t2 hOP o1 o2 s2 s3 wz gr
    omega
end TRS
